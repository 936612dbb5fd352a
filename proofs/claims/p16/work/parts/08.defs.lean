
section
def lk_rv (ni : Nat) (ro rf ty rt ra yv yl : Nat → Int32) (r : Nat) : Int32 := if nI ni ≤ rt r then 0 else if ty r = 1 then yv (rt r).toNatClampNeg + ra r else if ty r = 2 then yl (rt r).toNatClampNeg + ra r else yv (rt r).toNatClampNeg + ra r - (yv (ro r).toNatClampNeg + rf r)
def lk_lo (ni : Nat) (ro rf ty rt ra yv yl : Nat → Int32) (r : Nat) : Int32 := lk_rv ni ro rf ty rt ra yv yl r &&& 255
def lk_hi (ni : Nat) (ro rf ty rt ra yv yl : Nat → Int32) (r : Nat) : Int32 := lk_rv ni ro rf ty rt ra yv yl r >>> ((8 : Int32) &&& 31) &&& 255
def lk_Z (rs : Nat → Int32) (R0 R1 : Nat) : Prop := rs 0 = nI R0 ∧ rs 1 = nI R1 ∧ 16 ≤ R0 ∧ R0 ≤ 128 ∧ 16 ≤ R1 ∧ R1 ≤ 128
theorem lk_asc (a b c : Int32) : a + b - c = a + (b - c) := by
  rw [Int32.sub_eq_add_neg, Int32.sub_eq_add_neg, Int32.add_assoc]
theorem lk_S_of {ns no ng : Nat} {op sa sb ox oy rg ld gp : Nat → Int32} {oo xg yg : Int32} (h : lk_S ns no ng op sa sb ox oy rg ld gp oo xg yg) : ∀ k, k < no → lk_of ng rg ld gp k := by
  obtain ⟨_, _, _, c4, c5, _, _, _, c9⟩ := h
  intro k hk
  rw [c5]
  exact lk_S_o c9 ns (Nat.le_refl ns) k (by omega)
theorem lk_e0 : (0 : Int32).toNatClampNeg = 0 := by decide
theorem lk_e1 : (1 : Int32).toNatClampNeg = 1 := by decide
theorem lk_256 (n : Nat) : (256 : Int32) + nI n = nI (256 + n) := nI_add 256 n
theorem lk_ix2 (x : Int32) {a n : Nat} (ha : a < 2 ^ 30) (hn : n < 2 ^ 30) : x < nI a ∨ nI (a + n) ≤ x ∨ ∃ j : Nat, j < n ∧ x = nI (a + j) := by
  rcases pk_ix x (n := a) (by omega) with h | h | ⟨j, hj, e⟩
  · exact Or.inl (Int32.lt_of_lt_of_le h (nI_pos' (by omega)))
  · rcases pk_ix x (n := a + n) (by omega) with h2 | h2 | ⟨j, hj, e⟩
    · exact absurd (Int32.lt_of_lt_of_le h2 (nI_pos' (by omega))) (Int32.not_lt.mpr h)
    · exact Or.inr (Or.inl h2)
    · subst e
      rw [nI_leI (by omega) (by omega)] at h
      exact Or.inr (Or.inr ⟨j - a, by omega, by rw [show a + (j - a) = j by omega]⟩)
  · subst e
    exact Or.inl (nI_lt hj (by omega))
theorem lk_34 {x : Int32} (a : 3 < x) (b : x < 4) : False := by
  rw [Int32.lt_iff_toInt_lt] at a b
  have h3 : (3 : Int32).toInt = 3 := by decide
  have h4 : (4 : Int32).toInt = 4 := by decide
  omega
theorem lx_fill {post : St2 → Prop} {xphase xstmtCount xopenOut xopenGroup xoutCount xgroupCount xinCount xbyteCount xrelocCount : Int32} {xregionSize xcounter xmemory xstmtOp xstmtA xstmtB xstmtOwner xoutRegion xoutLoaded xoutGroup xoutAlign xoutVma xoutLma xoutDot xgroupStart xgroupEnd xgroupResident xinKind xinId xinAlign xinSize xinFirstByte xinStmt xinLive xinVma xfedBytes xrelocOwner xrelocOffset xrelocType xrelocTarget xrelocAddend : Nat → Int32} {s e : Nat} {v : Int32} (he : e ≤ 384) (hs : s < 2 ^ 31) (h : post (xphase, xstmtCount, xopenOut, xopenGroup, xoutCount, xgroupCount, xinCount, xbyteCount, xrelocCount, xregionSize, xcounter, (lk_wr xmemory s e (fun _ => v)), xstmtOp, xstmtA, xstmtB, xstmtOwner, xoutRegion, xoutLoaded, xoutGroup, xoutAlign, xoutVma, xoutLma, xoutDot, xgroupStart, xgroupEnd, xgroupResident, xinKind, xinId, xinAlign, xinSize, xinFirstByte, xinStmt, xinLive, xinVma, xfedBytes, xrelocOwner, xrelocOffset, xrelocType, xrelocTarget, xrelocAddend)) : wpX_fill post (xphase, xstmtCount, xopenOut, xopenGroup, xoutCount, xgroupCount, xinCount, xbyteCount, xrelocCount, xregionSize, xcounter, xmemory, xstmtOp, xstmtA, xstmtB, xstmtOwner, xoutRegion, xoutLoaded, xoutGroup, xoutAlign, xoutVma, xoutLma, xoutDot, xgroupStart, xgroupEnd, xgroupResident, xinKind, xinId, xinAlign, xinSize, xinFirstByte, xinStmt, xinLive, xinVma, xfedBytes, xrelocOwner, xrelocOffset, xrelocType, xrelocTarget, xrelocAddend) (nI s) (nI e) v := by
  by_cases c : e ≤ s
  · rw [lk_wr_e c] at h
    exact ⟨1, br_t (nI_le c hs) h⟩
  · have H : ∀ d x, x + d = e → s ≤ x → wX_fill_3 post (nI e) v xphase xstmtCount xopenOut xopenGroup xoutCount xgroupCount xinCount xbyteCount xrelocCount (d + 1) (nI x) xregionSize xcounter (lk_wr xmemory s x (fun _ => v)) xstmtOp xstmtA xstmtB xstmtOwner xoutRegion xoutLoaded xoutGroup xoutAlign xoutVma xoutLma xoutDot xgroupStart xgroupEnd xgroupResident xinKind xinId xinAlign xinSize xinFirstByte xinStmt xinLive xinVma xfedBytes xrelocOwner xrelocOffset xrelocType xrelocTarget xrelocAddend := by
      intro d
      induction d with
      | zero =>
        intro x hx _
        have e1 : x = e := hx
        subst e1
        exact br_t (nI_le (Nat.le_refl x) (by omega)) h
      | succ d ih =>
        intro x hx hsx
        exact br_f (nI_ge (by omega) (by omega)) ⟨vp_in_nI (by omega) (by omega), nm_r (by rw [nI_clamp (by omega)]; exact lk_wr_s hsx rfl) (nm_r (nI_1 x) (ih (x + 1) (by omega) (by omega)))⟩
    have H2 := H (e - s) s (by omega) (Nat.le_refl s)
    rw [lk_wr_0] at H2
    exact ⟨_, H2⟩
theorem lk_cl (x : Int32) : ∃ n : Nat, 16 ≤ n ∧ n ≤ 128 ∧ ((16 ≤ x ∧ x ≤ 128 ∧ x = nI n) ∨ (16 ≤ x ∧ ¬ x ≤ 128 ∧ n = 128) ∨ (¬ 16 ≤ x ∧ n = 16)) := by
  by_cases h1 : 16 ≤ x
  · by_cases h2 : x ≤ 128
    · have h0 : ¬ x < 0 := Int32.not_lt.mpr (Int32.le_trans (by decide) h1)
      obtain ⟨q, hq, e⟩ := nI_of2 (M := 128) (n := 128) (by decide) h0 h2
      refine ⟨q, ?_, hq, Or.inl ⟨h1, h2, e⟩⟩
      rw [e, show (16 : Int32) = nI 16 from rfl, nI_leI (by omega) (by omega)] at h1
      exact h1
    · exact ⟨128, by omega, by omega, Or.inr (Or.inl ⟨h1, h2, rfl⟩)⟩
  · exact ⟨16, by omega, by omega, Or.inr (Or.inr ⟨h1, rfl⟩)⟩
theorem lx_cl {post : Int32 → Prop} {x : Int32} {n : Nat} (h : (16 ≤ x ∧ x ≤ 128 ∧ x = nI n) ∨ (16 ≤ x ∧ ¬ x ≤ 128 ∧ n = 128) ∨ (¬ 16 ≤ x ∧ n = 16)) (p : post (nI n)) : wpX_clampedSize post () x := by
  rcases h with ⟨h1, h2, e⟩ | ⟨h1, h2, e⟩ | ⟨h1, e⟩
  · rw [← e] at p
    exact br_t h1 (br_t h2 p)
  · rw [e] at p
    exact br_t h1 (br_f h2 p)
  · rw [e] at p
    exact br_f h1 p
def lk_Ai (m : Int32) : Prop := m = 1 ∨ m = 2 ∨ m = 4 ∨ m = 8 ∨ m = 16
theorem lk_Ai_A {m : Int32} (h : lk_Ai m) : ∃ A, lk_A A ∧ m = nI A := by
  rcases h with h | h | h | h | h
  · exact ⟨1, Or.inl rfl, h⟩
  · exact ⟨2, Or.inr (Or.inl rfl), h⟩
  · exact ⟨4, Or.inr (Or.inr (Or.inl rfl)), h⟩
  · exact ⟨8, Or.inr (Or.inr (Or.inr (Or.inl rfl))), h⟩
  · exact ⟨16, Or.inr (Or.inr (Or.inr (Or.inr rfl))), h⟩
theorem lx_isA {post : Int32 → Prop} {m : Int32} (h : lk_Ai m) (p : post 1) : wpX_isAlignment post () m := by
  by_cases h1 : m = 1
  · exact br_t h1 p
  · by_cases h2 : m = 2
    · exact br_f h1 (br_t h2 p)
    · by_cases h3 : m = 4
      · exact br_f h1 (br_f h2 (br_t h3 p))
      · by_cases h4 : m = 8
        · exact br_f h1 (br_f h2 (br_f h3 (br_t h4 p)))
        · have h5 : m = 16 := by
            rcases h with h | h | h | h | h
            · exact absurd h h1
            · exact absurd h h2
            · exact absurd h h3
            · exact absurd h h4
            · exact h
          exact br_f h1 (br_f h2 (br_f h3 (br_f h4 (br_t h5 p))))
theorem lx_nA {post : Int32 → Prop} {m : Int32} (h : ¬ lk_Ai m) (p : post 0) : wpX_isAlignment post () m :=
  br_f (fun z => h (Or.inl z)) (br_f (fun z => h (Or.inr (Or.inl z))) (br_f (fun z => h (Or.inr (Or.inr (Or.inl z)))) (br_f (fun z => h (Or.inr (Or.inr (Or.inr (Or.inl z))))) (br_f (fun z => h (Or.inr (Or.inr (Or.inr (Or.inr z))))) p))))
theorem lk_le2 {x y : Int32} {Z : Nat} (hZ : Z ≤ 256) (hy : y = nI Z) (h0 : ¬ x < 0) (h : x ≤ y - 2) : ∃ f, f + 2 ≤ Z ∧ x = nI f := by
  obtain ⟨f, hf, e⟩ := nI_of h0
  refine ⟨f, ?_, e⟩
  rw [hy, e] at h
  by_cases c : 2 ≤ Z
  · have e2 : nI Z - 2 = nI (Z - 2) := pk_sub (b := 2) c
    rw [e2, nI_leI hf (by omega)] at h
    omega
  · have e2 : nI Z - 2 < 0 := pk_sneg (b := 2) (by omega) (by omega)
    exact absurd (Int32.lt_of_le_of_lt h e2) (nI_pos hf)
theorem lk_01 (x : Int32) : x = 0 ∨ x = 1 ∨ (¬ x = 0 ∧ ¬ x = 1 ∧ x < 0) ∨ (¬ x = 0 ∧ ¬ x = 1 ∧ ¬ x < 0 ∧ 1 < x ∧ ¬ x ≤ 1) := by
  by_cases h0 : x = 0
  · exact Or.inl h0
  by_cases h1 : x = 1
  · exact Or.inr (Or.inl h1)
  by_cases h2 : x < 0
  · exact Or.inr (Or.inr (Or.inl ⟨h0, h1, h2⟩))
  have h3 : ¬ x ≤ 1 := by
    intro h
    obtain ⟨j, hj, e⟩ := nI_of2 (M := 1) (n := 1) (by decide) h2 h
    rcases Nat.le_one_iff_eq_zero_or_eq_one.mp hj with z | z
    · exact h0 (by rw [e, z]; rfl)
    · exact h1 (by rw [e, z]; rfl)
  exact Or.inr (Or.inr (Or.inr ⟨h0, h1, h2, Int32.not_le.mp h3, h3⟩))
theorem lk_19 {x : Int32} (h1 : ¬ x < 1) (h9 : x ≤ 9) : x = 1 ∨ x = 2 ∨ x = 3 ∨ x = 4 ∨ x = 5 ∨ x = 6 ∨ x = 7 ∨ x = 8 ∨ x = 9 := by
  have h0 : ¬ x < 0 := fun h => h1 (Int32.lt_trans h (by decide))
  obtain ⟨j, hj, e⟩ := nI_of2 (M := 9) (n := 9) (by decide) h0 h9
  have hj0 : j ≠ 0 := by
    intro z
    rw [e, z] at h1
    exact h1 (by decide)
  have hc : j = 1 ∨ j = 2 ∨ j = 3 ∨ j = 4 ∨ j = 5 ∨ j = 6 ∨ j = 7 ∨ j = 8 ∨ j = 9 := by omega
  rcases hc with z | z | z | z | z | z | z | z | z <;> subst z
  · exact Or.inl e
  · exact Or.inr (Or.inl e)
  · exact Or.inr (Or.inr (Or.inl e))
  · exact Or.inr (Or.inr (Or.inr (Or.inl e)))
  · exact Or.inr (Or.inr (Or.inr (Or.inr (Or.inl e))))
  · exact Or.inr (Or.inr (Or.inr (Or.inr (Or.inr (Or.inl e)))))
  · exact Or.inr (Or.inr (Or.inr (Or.inr (Or.inr (Or.inr (Or.inl e))))))
  · exact Or.inr (Or.inr (Or.inr (Or.inr (Or.inr (Or.inr (Or.inr (Or.inl e)))))))
  · exact Or.inr (Or.inr (Or.inr (Or.inr (Or.inr (Or.inr (Or.inr (Or.inr e)))))))
end
