section
section
/-! A: alignment -/
def lk_A (m : Nat) : Prop := m = 1 ∨ m = 2 ∨ m = 4 ∨ m = 8 ∨ m = 16
def lk_al (x m : Nat) : Nat := (x + m - 1) / m * m
theorem lk_A_b {m : Nat} (h : lk_A m) : 1 ≤ m ∧ m ≤ 16 := by
  rcases h with h | h | h | h | h <;> omega
theorem lk_al_b {x m : Nat} (h : lk_A m) : x ≤ lk_al x m ∧ lk_al x m ≤ x + 15 := by
  unfold lk_al
  rcases h with h | h | h | h | h <;> subst h <;> omega
theorem lk_al_y {x m : Nat} (h : lk_A m) : lk_al x m = if x % m = 0 then x else x + m - x % m := by
  unfold lk_al
  rcases h with h | h | h | h | h <;> subst h <;> split <;> omega
theorem lk_msk {k y : Nat} (hk : k < 32) (hy : y < 2 ^ 32) : y &&& (2 ^ 32 - 2 ^ k) = y / 2 ^ k * 2 ^ k := by
  have hp : 2 ^ k - 1 + 1 = 2 ^ k := Nat.sub_add_cancel (Nat.two_pow_pos k)
  have hl : 2 ^ k - 1 < 2 ^ 32 := by
    have := Nat.pow_le_pow_right (n := 2) (by decide) (Nat.le_of_lt hk)
    omega
  have e : 2 ^ 32 - 2 ^ k = 2 ^ 32 - ((2 ^ k - 1) + 1) := by rw [hp]
  apply Nat.eq_of_testBit_eq
  intro i
  rw [Nat.testBit_and, e, Nat.testBit_two_pow_sub_succ hl, Nat.testBit_two_pow_sub_one, Nat.testBit_mul_two_pow, Nat.testBit_div_two_pow]
  by_cases h1 : k ≤ i
  · have h3 : i - k + k = i := by omega
    have h4 : ¬ i < k := by omega
    rw [h3]
    by_cases h2 : i < 32
    · simp [h1, h2, h4]
    · rw [Nat.testBit_lt_two_pow (Nat.lt_of_lt_of_le hy (Nat.pow_le_pow_right (by decide) (by omega)))]
      simp
  · have h4 : i < k := by omega
    simp [h1, h4]
theorem lk_andm {y m k : Nat} (hy : y < 2 ^ 31) (hk : k < 32) (hm : m = 2 ^ k) (h : (-(nI m)).toBitVec.toNat = 2 ^ 32 - 2 ^ k) : nI y &&& (-(nI m)) = nI (y / m * m) := by
  apply Int32.toBitVec_inj.mp
  apply BitVec.eq_of_toNat_eq
  have h2 : y / m * m ≤ y := Nat.div_mul_le_self y m
  rw [Int32.toBitVec_and, BitVec.toNat_and, h, pk_tn (by omega), pk_tn (by omega), lk_msk hk (by omega), hm]
theorem lk_alX {x m : Nat} (h : lk_A m) (hx : x < 2 ^ 30) : (nI x + nI m - 1) &&& (-(nI m)) = nI (lk_al x m) := by
  have hb := lk_A_b h
  have e : nI x + nI m - 1 = nI (x + m - 1) := by
    rw [nI_add]
    obtain ⟨q, hq⟩ : ∃ q, x + m = q + 1 := ⟨x + m - 1, by omega⟩
    rw [hq, nI_pred, Nat.add_sub_cancel]
  rw [e]
  unfold lk_al
  rcases h with h | h | h | h | h <;> subst h
  · exact lk_andm (k := 0) (by omega) (by decide) (by decide) (by decide +kernel)
  · exact lk_andm (k := 1) (by omega) (by decide) (by decide) (by decide +kernel)
  · exact lk_andm (k := 2) (by omega) (by decide) (by decide) (by decide +kernel)
  · exact lk_andm (k := 3) (by omega) (by decide) (by decide) (by decide +kernel)
  · exact lk_andm (k := 4) (by omega) (by decide) (by decide) (by decide +kernel)
end
section
/-! B: scans -/
def lk_ff (p : Nat → Bool) : Nat → Nat → Int32
  | 0, _ => -1
  | d + 1, j => if p j = true then nI j else lk_ff p d (j + 1)
theorem lk_ff_t {p : Nat → Bool} {d j : Nat} (h : p j = true) : lk_ff p (d + 1) j = nI j := if_pos h
theorem lk_ff_f {p : Nat → Bool} {d j : Nat} (h : ¬ p j = true) : lk_ff p (d + 1) j = lk_ff p d (j + 1) := if_neg h
theorem lk_ff_or (p : Nat → Bool) : ∀ d j : Nat, lk_ff p d j = -1 ∨ ∃ i, j ≤ i ∧ i < j + d ∧ p i = true ∧ lk_ff p d j = nI i := by
  intro d
  induction d with
  | zero => intro j; exact Or.inl rfl
  | succ d ih =>
    intro j
    by_cases h : p j = true
    · exact Or.inr ⟨j, Nat.le_refl j, by omega, h, lk_ff_t h⟩
    · rw [lk_ff_f h]
      rcases ih (j + 1) with e | ⟨i, h1, h2, h3, h4⟩
      · exact Or.inl e
      · exact Or.inr ⟨i, by omega, by omega, h3, h4⟩
theorem lk_ff_no {p : Nat → Bool} : ∀ d j : Nat, j + d < 2 ^ 31 → lk_ff p d j = -1 → ∀ i, j ≤ i → i < j + d → ¬ p i = true := by
  intro d
  induction d with
  | zero => intro j _ _ i h1 h2; omega
  | succ d ih =>
    intro j hj e i h1 h2
    by_cases h : p j = true
    · rw [lk_ff_t h] at e
      have := nI_pos (n := j) (by omega)
      rw [e] at this
      exact absurd (by decide : (-1 : Int32) < 0) this
    · rw [lk_ff_f h] at e
      by_cases hi : i = j
      · rw [hi]; exact h
      · exact ih (j + 1) (by omega) e i (by omega) (by omega)
theorem lk_ff_least {p : Nat → Bool} : ∀ d j k : Nat, j + d < 2 ^ 31 → lk_ff p d j = nI k → k < 2 ^ 31 → ∀ i, j ≤ i → i < k → ¬ p i = true := by
  intro d
  induction d with
  | zero =>
    intro j k _ e hk i _ _
    have := nI_pos (n := k) hk
    rw [← e] at this
    exact absurd (by decide : (-1 : Int32) < 0) this
  | succ d ih =>
    intro j k hj e hk i h1 h2
    by_cases h : p j = true
    · rw [lk_ff_t h] at e
      have := (nI_eq (by omega) hk).mp e
      omega
    · rw [lk_ff_f h] at e
      by_cases hi : i = j
      · rw [hi]; exact h
      · exact ih (j + 1) k (by omega) e hk i (by omega) h2
theorem lk_ff_cg {p q : Nat → Bool} : ∀ d j : Nat, (∀ i, j ≤ i → i < j + d → p i = q i) → lk_ff p d j = lk_ff q d j := by
  intro d
  induction d with
  | zero => intro j _; rfl
  | succ d ih =>
    intro j h
    have e := h j (Nat.le_refl j) (by omega)
    by_cases hp : p j = true
    · rw [lk_ff_t hp, lk_ff_t (e ▸ hp)]
    · rw [lk_ff_f hp, lk_ff_f (e ▸ hp)]
      exact ih (j + 1) (fun i h1 h2 => h i (by omega) (by omega))
def lk_ex (p : Nat → Bool) : Nat → Nat → Bool
  | 0, _ => false
  | d + 1, j => if p j = true then true else lk_ex p d (j + 1)
theorem lk_ex_t {p : Nat → Bool} {d j : Nat} (h : p j = true) : lk_ex p (d + 1) j = true := if_pos h
theorem lk_ex_f {p : Nat → Bool} {d j : Nat} (h : ¬ p j = true) : lk_ex p (d + 1) j = lk_ex p d (j + 1) := if_neg h
theorem lk_ex_no {p : Nat → Bool} : ∀ d j : Nat, lk_ex p d j = false → ∀ i, j ≤ i → i < j + d → ¬ p i = true := by
  intro d
  induction d with
  | zero => intro j _ i h1 h2; omega
  | succ d ih =>
    intro j e i h1 h2
    by_cases h : p j = true
    · rw [lk_ex_t h] at e
      exact absurd e (by decide)
    · rw [lk_ex_f h] at e
      by_cases hi : i = j
      · rw [hi]; exact h
      · exact ih (j + 1) e i (by omega) (by omega)
theorem lk_ex_cg {p q : Nat → Bool} : ∀ d j : Nat, (∀ i, j ≤ i → i < j + d → p i = q i) → lk_ex p d j = lk_ex q d j := by
  intro d
  induction d with
  | zero => intro j _; rfl
  | succ d ih =>
    intro j h
    have e := h j (Nat.le_refl j) (by omega)
    by_cases hp : p j = true
    · rw [lk_ex_t hp, lk_ex_t (e ▸ hp)]
    · rw [lk_ex_f hp, lk_ex_f (e ▸ hp)]
      exact ih (j + 1) (fun i h1 h2 => h i (by omega) (by omega))
/-- the first hit's value, 0 if none -/
def lk_fv (p : Nat → Bool) (w : Nat → Int32) : Nat → Nat → Int32
  | 0, _ => 0
  | d + 1, j => if p j = true then w j else lk_fv p w d (j + 1)
theorem lk_fv_t {p : Nat → Bool} {w : Nat → Int32} {d j : Nat} (h : p j = true) : lk_fv p w (d + 1) j = w j := if_pos h
theorem lk_fv_f {p : Nat → Bool} {w : Nat → Int32} {d j : Nat} (h : ¬ p j = true) : lk_fv p w (d + 1) j = lk_fv p w d (j + 1) := if_neg h
theorem lk_fv_or (p : Nat → Bool) (w : Nat → Int32) : ∀ d j : Nat, (lk_fv p w d j = 0 ∧ ∀ i, j ≤ i → i < j + d → ¬ p i = true) ∨ ∃ i, j ≤ i ∧ i < j + d ∧ p i = true ∧ lk_fv p w d j = w i := by
  intro d
  induction d with
  | zero => intro j; exact Or.inl ⟨rfl, fun i h1 h2 => by omega⟩
  | succ d ih =>
    intro j
    by_cases h : p j = true
    · exact Or.inr ⟨j, Nat.le_refl j, by omega, h, lk_fv_t h⟩
    · rw [lk_fv_f h]
      rcases ih (j + 1) with ⟨e, hn⟩ | ⟨i, h1, h2, h3, h4⟩
      · refine Or.inl ⟨e, fun i h1 h2 => ?_⟩
        by_cases hi : i = j
        · rw [hi]; exact h
        · exact hn i (by omega) (by omega)
      · exact Or.inr ⟨i, by omega, by omega, h3, h4⟩
end
section
/-! C: passes to a fixpoint -/
def lk_cn (f : Nat → Int32) : Nat → Nat
  | 0 => 0
  | n + 1 => lk_cn f n + (if f n = 1 then 1 else 0)
theorem lk_cn_le (f : Nat → Int32) : ∀ n : Nat, lk_cn f n ≤ n := by
  intro n
  induction n with
  | zero => exact Nat.le_refl 0
  | succ n ih =>
    show lk_cn f n + (if f n = 1 then 1 else 0) ≤ n + 1
    split <;> omega
theorem lk_cn_u {f : Nat → Int32} {t : Nat} (h : ¬ f t = 1) : ∀ n : Nat, lk_cn (upd f t 1) n = lk_cn f n + (if t < n then 1 else 0) := by
  intro n
  induction n with
  | zero => rfl
  | succ n ih =>
    show lk_cn (upd f t 1) n + (if upd f t 1 n = 1 then 1 else 0) = lk_cn f n + (if f n = 1 then 1 else 0) + (if t < n + 1 then 1 else 0)
    rw [ih]
    by_cases hn : n = t
    · subst hn
      rw [if_neg (Nat.lt_irrefl n), if_pos (show upd f n 1 n = 1 from pk_us), if_neg h, if_pos (Nat.lt_succ_self n)]
    · rw [show upd f t 1 n = f n from pk_un hn]
      by_cases ht : t < n
      · rw [if_pos ht, if_pos (show t < n + 1 by omega)]; omega
      · rw [if_neg ht, if_neg (show ¬ t < n + 1 by omega), Nat.add_zero, Nat.add_zero]
def lk_ps (stp : Nat → (Nat → Int32) → Nat → Int32) : Nat → (Nat → Int32) → Nat → Int32
  | 0, f => f
  | r + 1, f => stp r (lk_ps stp r f)
def lk_it (stp : Nat → (Nat → Int32) → Nat → Int32) (nr : Nat) : Nat → (Nat → Int32) → Nat → Int32
  | 0, f => f
  | n + 1, f => lk_ps stp nr (lk_it stp nr n f)
def lk_H (stp : Nat → (Nat → Int32) → Nat → Int32) (nr ni : Nat) : Prop := ∀ r, r < nr → ∀ f, stp r f = f ∨ ∃ t, t < ni ∧ ¬ f t = 1 ∧ stp r f = upd f t 1
theorem lk_cn_st {stp : Nat → (Nat → Int32) → Nat → Int32} {nr ni : Nat} (H : lk_H stp nr ni) {r : Nat} (hr : r < nr) (f : Nat → Int32) : stp r f = f ∨ lk_cn f ni < lk_cn (stp r f) ni := by
  rcases H r hr f with e | ⟨t, ht, h1, e⟩
  · exact Or.inl e
  · refine Or.inr ?_
    rw [e, lk_cn_u h1, if_pos ht]
    omega
theorem lk_cn_sm {stp : Nat → (Nat → Int32) → Nat → Int32} {nr ni : Nat} (H : lk_H stp nr ni) {r : Nat} (hr : r < nr) (f : Nat → Int32) : lk_cn f ni ≤ lk_cn (stp r f) ni := by
  rcases lk_cn_st H hr f with e | h
  · rw [e]; exact Nat.le_refl _
  · exact Nat.le_of_lt h
theorem lk_ps_or {stp : Nat → (Nat → Int32) → Nat → Int32} {nr ni : Nat} (H : lk_H stp nr ni) (f : Nat → Int32) : ∀ r, r ≤ nr → lk_ps stp r f = f ∨ lk_cn f ni < lk_cn (lk_ps stp r f) ni := by
  intro r
  induction r with
  | zero => intro _; exact Or.inl rfl
  | succ r ih =>
    intro hr
    show stp r (lk_ps stp r f) = f ∨ lk_cn f ni < lk_cn (stp r (lk_ps stp r f)) ni
    rcases ih (by omega) with e | h
    · rw [e]; exact lk_cn_st H (by omega) f
    · exact Or.inr (Nat.lt_of_lt_of_le h (lk_cn_sm H (by omega) _))
theorem lk_ps_mo {stp : Nat → (Nat → Int32) → Nat → Int32} {nr ni : Nat} (H : lk_H stp nr ni) (f : Nat → Int32) : ∀ d r, r + d ≤ nr → lk_cn (lk_ps stp r f) ni ≤ lk_cn (lk_ps stp (r + d) f) ni := by
  intro d
  induction d with
  | zero => intro r _; exact Nat.le_refl _
  | succ d ih =>
    intro r hr
    exact Nat.le_trans (ih r (by omega)) (lk_cn_sm H (r := r + d) (by omega) _)
theorem lk_fx_st {stp : Nat → (Nat → Int32) → Nat → Int32} {nr ni : Nat} (H : lk_H stp nr ni) {f : Nat → Int32} (e : lk_ps stp nr f = f) {r : Nat} (hr : r < nr) : stp r f = f := by
  have h1 : ∀ q, q ≤ nr → lk_ps stp q f = f := by
    intro q hq
    rcases lk_ps_or H f q hq with e1 | h
    · exact e1
    · have h2 := lk_ps_mo H f (nr - q) q (by omega)
      rw [show q + (nr - q) = nr by omega, e] at h2
      omega
  have h3 : stp r (lk_ps stp r f) = f := h1 (r + 1) (by omega)
  rw [h1 r (by omega)] at h3
  exact h3
theorem lk_it_or {stp : Nat → (Nat → Int32) → Nat → Int32} {nr ni : Nat} (H : lk_H stp nr ni) (f : Nat → Int32) : ∀ n, lk_it stp nr (n + 1) f = lk_it stp nr n f ∨ n + 1 ≤ lk_cn (lk_it stp nr (n + 1) f) ni := by
  intro n
  induction n with
  | zero =>
    show lk_ps stp nr f = f ∨ 0 + 1 ≤ lk_cn (lk_ps stp nr f) ni
    rcases lk_ps_or H f nr (Nat.le_refl nr) with e | h
    · exact Or.inl e
    · exact Or.inr (by omega)
  | succ n ih =>
    rcases ih with e | h
    · exact Or.inl (congrArg (lk_ps stp nr) e)
    · rcases lk_ps_or H (lk_it stp nr (n + 1) f) nr (Nat.le_refl nr) with e | h2
      · exact Or.inl e
      · refine Or.inr ?_
        show n + 1 + 1 ≤ lk_cn (lk_ps stp nr (lk_it stp nr (n + 1) f)) ni
        omega
theorem lk_it_fx {stp : Nat → (Nat → Int32) → Nat → Int32} {nr ni : Nat} (H : lk_H stp nr ni) (f : Nat → Int32) : lk_ps stp nr (lk_it stp nr ni f) = lk_it stp nr ni f := by
  rcases lk_it_or H f ni with e | h
  · exact e
  · have := lk_cn_le (lk_it stp nr (ni + 1) f) ni
    omega
theorem lk_it_eq {stp : Nat → (Nat → Int32) → Nat → Int32} {nr ni : Nat} (H : lk_H stp nr ni) (f : Nat → Int32) : ∀ m, lk_it stp nr (ni + m) f = lk_it stp nr ni f := by
  intro m
  induction m with
  | zero => rfl
  | succ m ih =>
    show lk_ps stp nr (lk_it stp nr (ni + m) f) = _
    rw [ih]
    exact lk_it_fx H f
end
end
section
section
/-! D: one live step; the script's structure; relocated bytes -/
theorem lk_uself {f : Nat → Int32} {t : Nat} {x : Int32} (h : f t = x) : upd f t x = f := by
  funext j
  by_cases hj : j = t
  · subst hj; rw [pk_us, h]
  · rw [pk_un hj]
theorem lk_uu {f : Nat → Int32} {t : Nat} {x y : Int32} : upd (upd f t x) t y = upd f t y := by
  funext j
  by_cases hj : j = t
  · subst hj; rw [pk_us, pk_us]
  · rw [pk_un hj, pk_un hj, pk_un hj]
def lk_on (tg st : Nat → Int32) (ni r : Nat) : Bool := decide (tg r < nI ni ∧ ¬ st (tg r).toNatClampNeg = -1)
def lk_sp (ow tg st : Nat → Int32) (ni r : Nat) (f : Nat → Int32) : Nat → Int32 := if f (ow r).toNatClampNeg = 1 ∧ lk_on tg st ni r = true then upd f (tg r).toNatClampNeg 1 else f
theorem lk_on_t {tg st : Nat → Int32} {ni r t : Nat} (hn : ni < 2 ^ 31) (ht : t < 2 ^ 31) (e : tg r = nI t) : lk_on tg st ni r = true ↔ t < ni ∧ ¬ st t = -1 := by
  unfold lk_on
  rw [decide_eq_true_iff, e, nI_clamp ht, nI_ltI ht hn]
theorem lk_sp_H {ow tg st : Nat → Int32} {nr ni : Nat} (hn : ni < 2 ^ 31) (ht : ∀ r, r < nr → ∃ t, t < 16 ∧ tg r = nI t) : lk_H (lk_sp ow tg st ni) nr ni := by
  intro r hr f
  obtain ⟨t, h16, et⟩ := ht r hr
  by_cases c : f (ow r).toNatClampNeg = 1 ∧ lk_on tg st ni r = true
  · have e : lk_sp ow tg st ni r f = upd f t 1 := by
      unfold lk_sp
      rw [if_pos c, et, nI_clamp (by omega)]
    have h1 := ((lk_on_t hn (by omega) et).mp c.2).1
    by_cases ft : f t = 1
    · exact Or.inl (e.trans (lk_uself ft))
    · exact Or.inr ⟨t, h1, ft, e⟩
  · exact Or.inl (if_neg c)
theorem lk_sp_cl {ow tg st : Nat → Int32} {ni r o t : Nat} {f : Nat → Int32} (hn : ni < 2 ^ 31) (e : lk_sp ow tg st ni r f = f) (ho : o < 2 ^ 31) (eo : ow r = nI o) (ht : t < 2 ^ 31) (et : tg r = nI t) (h1 : f o = 1) (h2 : t < ni) (h3 : ¬ st t = -1) : f t = 1 := by
  unfold lk_sp at e
  rw [if_pos ⟨by rw [eo, nI_clamp ho]; exact h1, (lk_on_t hn ht et).mpr ⟨h2, h3⟩⟩, et, nI_clamp ht] at e
  have h := congrFun e t
  rw [pk_us] at h
  exact h.symm
/-- what a pass keeps: a live one is assigned -/
def lk_la (st : Nat → Int32) (f : Nat → Int32) (ni : Nat) : Prop := ∀ s, s < ni → f s = 1 → ¬ st s = -1
theorem lk_sp_la {ow tg st : Nat → Int32} {ni r t : Nat} {f : Nat → Int32} (hn : ni < 2 ^ 31) (ht : t < 2 ^ 31) (et : tg r = nI t) (h : lk_la st f ni) : lk_la st (lk_sp ow tg st ni r f) ni := by
  intro s hs
  unfold lk_sp
  split
  · rename_i c
    have h1 := (lk_on_t hn ht et).mp c.2
    rw [et, nI_clamp ht]
    by_cases hj : s = t
    · subst hj; exact fun _ => h1.2
    · rw [pk_un hj]; exact h s hs
  · exact h s hs
theorem lk_ps_la {ow tg st : Nat → Int32} {ni nr : Nat} (hn : ni < 2 ^ 31) (ht : ∀ r, r < nr → ∃ t, t < 16 ∧ tg r = nI t) {f : Nat → Int32} (h : lk_la st f ni) : ∀ r, r ≤ nr → lk_la st (lk_ps (lk_sp ow tg st ni) r f) ni := by
  intro r
  induction r with
  | zero => intro _; exact h
  | succ r ih =>
    intro hr
    obtain ⟨t, h16, et⟩ := ht r (by omega)
    exact lk_sp_la hn (by omega) et (ih (by omega))
theorem lk_it_la {ow tg st : Nat → Int32} {ni nr : Nat} (hn : ni < 2 ^ 31) (ht : ∀ r, r < nr → ∃ t, t < 16 ∧ tg r = nI t) {f : Nat → Int32} (h : lk_la st f ni) : ∀ n, lk_la st (lk_it (lk_sp ow tg st ni) nr n f) ni := by
  intro n
  induction n with
  | zero => exact h
  | succ n ih => exact lk_ps_la hn ht ih nr (Nat.le_refl nr)
def lk_no (op : Nat → Int32) : Nat → Nat
  | 0 => 0
  | i + 1 => lk_no op i + (if op i = 1 then 1 else 0)
def lk_ng (op : Nat → Int32) : Nat → Nat
  | 0 => 0
  | i + 1 => lk_ng op i + (if op i = 8 then 1 else 0)
def lk_is (op : Nat → Int32) : Nat → Bool
  | 0 => false
  | i + 1 => if op i = 1 then true else if op i = 2 then false else lk_is op i
def lk_ig (op : Nat → Int32) : Nat → Bool
  | 0 => false
  | i + 1 => if op i = 8 then true else if op i = 9 then false else lk_ig op i
theorem lk_no_s (op : Nat → Int32) (i : Nat) : lk_no op (i + 1) = lk_no op i + (if op i = 1 then 1 else 0) := rfl
theorem lk_ng_s (op : Nat → Int32) (i : Nat) : lk_ng op (i + 1) = lk_ng op i + (if op i = 8 then 1 else 0) := rfl
theorem lk_is_s (op : Nat → Int32) (i : Nat) : lk_is op (i + 1) = if op i = 1 then true else if op i = 2 then false else lk_is op i := rfl
theorem lk_ig_s (op : Nat → Int32) (i : Nat) : lk_ig op (i + 1) = if op i = 8 then true else if op i = 9 then false else lk_ig op i := rfl
theorem lk_no_u {op : Nat → Int32} {n : Nat} {x : Int32} : ∀ i, i ≤ n → lk_no (upd op n x) i = lk_no op i := by
  intro i
  induction i with
  | zero => intro _; rfl
  | succ i ih => intro h; rw [lk_no_s, lk_no_s, ih (by omega), pk_un (by omega)]
theorem lk_ng_u {op : Nat → Int32} {n : Nat} {x : Int32} : ∀ i, i ≤ n → lk_ng (upd op n x) i = lk_ng op i := by
  intro i
  induction i with
  | zero => intro _; rfl
  | succ i ih => intro h; rw [lk_ng_s, lk_ng_s, ih (by omega), pk_un (by omega)]
theorem lk_is_u {op : Nat → Int32} {n : Nat} {x : Int32} : ∀ i, i ≤ n → lk_is (upd op n x) i = lk_is op i := by
  intro i
  induction i with
  | zero => intro _; rfl
  | succ i ih => intro h; rw [lk_is_s, lk_is_s, ih (by omega), pk_un (by omega)]
theorem lk_ig_u {op : Nat → Int32} {n : Nat} {x : Int32} : ∀ i, i ≤ n → lk_ig (upd op n x) i = lk_ig op i := by
  intro i
  induction i with
  | zero => intro _; rfl
  | succ i ih => intro h; rw [lk_ig_s, lk_ig_s, ih (by omega), pk_un (by omega)]
theorem lk_no_m {op : Nat → Int32} {i : Nat} : ∀ d, lk_no op i ≤ lk_no op (i + d) := by
  intro d
  induction d with
  | zero => exact Nat.le_refl _
  | succ d ih =>
    have := lk_no_s op (i + d)
    rw [show i + (d + 1) = i + d + 1 from rfl]
    omega
theorem lk_ng_m {op : Nat → Int32} {i : Nat} : ∀ d, lk_ng op i ≤ lk_ng op (i + d) := by
  intro d
  induction d with
  | zero => exact Nat.le_refl _
  | succ d ih =>
    have := lk_ng_s op (i + d)
    rw [show i + (d + 1) = i + d + 1 from rfl]
    omega
theorem lk_is_p {op : Nat → Int32} : ∀ i, lk_is op i = true → 1 ≤ lk_no op i := by
  intro i
  induction i with
  | zero => intro h; exact Bool.noConfusion h
  | succ i ih =>
    intro h
    rw [lk_is_s] at h
    rw [lk_no_s]
    by_cases h1 : op i = 1
    · rw [if_pos h1]; omega
    · rw [if_neg h1] at h
      by_cases h2 : op i = 2
      · rw [if_pos h2] at h; exact absurd h (by decide)
      · rw [if_neg h2] at h
        have := ih h
        omega
theorem lk_ig_p {op : Nat → Int32} : ∀ i, lk_ig op i = true → 1 ≤ lk_ng op i := by
  intro i
  induction i with
  | zero => intro h; exact Bool.noConfusion h
  | succ i ih =>
    intro h
    rw [lk_ig_s] at h
    rw [lk_ng_s]
    by_cases h1 : op i = 8
    · rw [if_pos h1]; omega
    · rw [if_neg h1] at h
      by_cases h2 : op i = 9
      · rw [if_pos h2] at h; exact absurd h (by decide)
      · rw [if_neg h2] at h
        have := ih h
        omega
/-- one statement's facts: X's owner ox, Y's stOut oy -/
def lk_sc (op a b ox oy rg ld gp : Nat → Int32) (i : Nat) : Prop :=
  (op i = 1 ∧ lk_is op i = false ∧ ((a i = 0 ∧ b i = 1 ∧ lk_ig op i = false) ∨ (a i = 1 ∧ (b i = 0 ∨ b i = 1))) ∧ ox i = nI (lk_no op i) ∧ oy i = nI (lk_no op i) ∧ rg (lk_no op i) = a i ∧ ld (lk_no op i) = b i ∧ gp (lk_no op i) = (if lk_ig op i = true then nI (lk_ng op i - 1) else -1))
  ∨ ((op i = 2 ∨ op i = 3 ∨ op i = 4) ∧ lk_is op i = true ∧ ox i = nI (lk_no op i - 1) ∧ oy i = nI (lk_no op i - 1))
  ∨ ((op i = 5 ∨ op i = 6 ∨ op i = 7) ∧ (∃ x, x ≤ 1023 ∧ a i = nI x ∧ (op i = 7 → lk_A x)) ∧ ((lk_is op i = true ∧ ox i = nI (lk_no op i - 1) ∧ oy i = nI (lk_no op i - 1)) ∨ (lk_is op i = false ∧ lk_ig op i = false ∧ ox i = -1 ∧ oy i = -1 ∧ (b i = 0 ∨ b i = 1))))
  ∨ (op i = 8 ∧ lk_is op i = false ∧ lk_ig op i = false ∧ ox i = nI (lk_ng op i))
  ∨ (op i = 9 ∧ lk_is op i = false ∧ lk_ig op i = true ∧ ox i = nI (lk_ng op i - 1))
/-- a relocated byte: the fed byte, then the first r relocations -/
def lk_rb (ow fo lo hi : Nat → Int32) (s p : Nat) (b0 : Int32) : Nat → Int32
  | 0 => b0
  | r + 1 => if ow r = nI s ∧ (fo r = nI p ∨ fo r + 1 = nI p) then (if fo r = nI p then lo r else hi r) else lk_rb ow fo lo hi s p b0 r
theorem lk_rb_s (ow fo lo hi : Nat → Int32) (s p : Nat) (b0 : Int32) (r : Nat) : lk_rb ow fo lo hi s p b0 (r + 1) = if ow r = nI s ∧ (fo r = nI p ∨ fo r + 1 = nI p) then (if fo r = nI p then lo r else hi r) else lk_rb ow fo lo hi s p b0 r := rfl
def lk_dj (ni : Nat) (act : Nat → Prop) (Lm len : Nat → Nat) : Prop := ∀ s t, s < ni → t < ni → act s → act t → s ≠ t → Lm s + len s ≤ Lm t ∨ Lm t + len t ≤ Lm s
def lk_I2 (act : Nat → Prop) (Lm len : Nat → Nat) (b0 : Nat → Nat → Int32) (m1 : Nat → Int32) (s : Nat) (m : Nat → Int32) : Prop :=
  (∀ t, t < s → act t → ∀ p, p < len t → m (Lm t + p) = b0 t p) ∧
  (∀ j, (∀ t, t < s → act t → ¬ (Lm t ≤ j ∧ j < Lm t + len t)) → m j = m1 j)
theorem lk_I2_0 {act : Nat → Prop} {Lm len : Nat → Nat} {b0 : Nat → Nat → Int32} {m1 : Nat → Int32} : lk_I2 act Lm len b0 m1 0 m1 :=
  ⟨fun t h => absurd h (Nat.not_lt_zero t), fun _ _ => rfl⟩
theorem lk_I2_n {act : Nat → Prop} {Lm len : Nat → Nat} {b0 : Nat → Nat → Int32} {m1 m : Nat → Int32} {s : Nat} (hI : lk_I2 act Lm len b0 m1 s m) (hn : ¬ act s) : lk_I2 act Lm len b0 m1 (s + 1) m := by
  refine ⟨fun t ht ha => ?_, fun j hj => hI.2 j (fun t ht ha => hj t (by omega) ha)⟩
  have hts : t ≠ s := fun e => hn (e ▸ ha)
  exact hI.1 t (by omega) ha
theorem lk_I2_s {ni : Nat} {act : Nat → Prop} {Lm len : Nat → Nat} {b0 : Nat → Nat → Int32} {m1 m m' : Nat → Int32} {s : Nat} (dj : lk_dj ni act Lm len) (hs : s < ni) (ha : act s) (hI : lk_I2 act Lm len b0 m1 s m) (h1 : ∀ p, p < len s → m' (Lm s + p) = b0 s p) (h2 : ∀ j, ¬ (Lm s ≤ j ∧ j < Lm s + len s) → m' j = m j) : lk_I2 act Lm len b0 m1 (s + 1) m' := by
  refine ⟨fun t ht hat p hp => ?_, fun j hj => ?_⟩
  · by_cases e : t = s
    · subst e; exact h1 p hp
    · have := dj s t hs (by omega) ha hat (fun z => e z.symm)
      rw [h2 _ (by omega)]
      exact hI.1 t (by omega) hat p hp
  · rw [h2 j (hj s (by omega) ha)]
    exact hI.2 j (fun t ht hat => hj t (by omega) hat)
def lk_I3 (ni : Nat) (act : Nat → Prop) (Lm len : Nat → Nat) (ow fo lo hi : Nat → Int32) (b0 : Nat → Nat → Int32) (m1 : Nat → Int32) (r : Nat) (m : Nat → Int32) : Prop :=
  (∀ s, s < ni → act s → ∀ p, p < len s → m (Lm s + p) = lk_rb ow fo lo hi s p (b0 s p) r) ∧
  (∀ j, (∀ s, s < ni → act s → ¬ (Lm s ≤ j ∧ j < Lm s + len s)) → m j = m1 j)
theorem lk_I3_0 {ni : Nat} {act : Nat → Prop} {Lm len : Nat → Nat} {ow fo lo hi : Nat → Int32} {b0 : Nat → Nat → Int32} {m1 m : Nat → Int32} (h : lk_I2 act Lm len b0 m1 ni m) : lk_I3 ni act Lm len ow fo lo hi b0 m1 0 m := h
theorem lk_I3_n {ni : Nat} {act : Nat → Prop} {Lm len : Nat → Nat} {ow fo lo hi : Nat → Int32} {b0 : Nat → Nat → Int32} {m1 m : Nat → Int32} {r o : Nat} (hn : ni < 2 ^ 31) (ho : o < ni) (eo : ow r = nI o) (hna : ¬ act o) (hI : lk_I3 ni act Lm len ow fo lo hi b0 m1 r m) : lk_I3 ni act Lm len ow fo lo hi b0 m1 (r + 1) m := by
  refine ⟨fun s hs ha p hp => ?_, hI.2⟩
  rw [lk_rb_s, if_neg]
  · exact hI.1 s hs ha p hp
  · intro c
    rw [eo, nI_eq (by omega) (by omega)] at c
    exact hna (c.1 ▸ ha)
theorem lk_I3_s {ni : Nat} {act : Nat → Prop} {Lm len : Nat → Nat} {ow fo lo hi : Nat → Int32} {b0 : Nat → Nat → Int32} {m1 m : Nat → Int32} {r o f : Nat} (dj : lk_dj ni act Lm len) (hn : ni < 2 ^ 31) (hl : ∀ s, s < ni → len s < 2 ^ 30) (ho : o < ni) (eo : ow r = nI o) (ef : fo r = nI f) (hf : f + 2 ≤ len o) (ha : act o) (hI : lk_I3 ni act Lm len ow fo lo hi b0 m1 r m) : lk_I3 ni act Lm len ow fo lo hi b0 m1 (r + 1) (upd (upd m (Lm o + f) (lo r)) (Lm o + f + 1) (hi r)) := by
  have hlo := hl o ho
  refine ⟨fun s hs has p hp => ?_, fun j hj => ?_⟩
  · rw [lk_rb_s]
    have hls := hl s hs
    by_cases e : s = o
    · subst e
      by_cases e1 : p = f
      · subst e1
        rw [if_pos ⟨eo, Or.inl ef⟩, if_pos ef, pk_un (by omega), pk_us]
      · have n1 : ¬ fo r = nI p := by rw [ef, nI_eq (by omega) (by omega)]; omega
        by_cases e2 : p = f + 1
        · subst e2
          rw [if_pos ⟨eo, Or.inr (by rw [ef, nI_1])⟩, if_neg n1, ← Nat.add_assoc, pk_us]
        · have n2 : ¬ fo r + 1 = nI p := by rw [ef, nI_1, nI_eq (by omega) (by omega)]; omega
          rw [if_neg (fun c => c.2.elim n1 n2), pk_un (by omega), pk_un (by omega)]
          exact hI.1 s hs has p hp
    · have n1 : ¬ ow r = nI s := by rw [eo, nI_eq (by omega) (by omega)]; exact fun z => e z.symm
      have := dj s o hs ho has ha e
      rw [if_neg (fun c => n1 c.1), pk_un (by omega), pk_un (by omega)]
      exact hI.1 s hs has p hp
  · have := hj o ho ha
    rw [pk_un (by omega), pk_un (by omega)]
    exact hI.2 j hj
end
end
section
section
/-! E: the geometry of the walk, over naturals alone -/
def lk_up (f : Nat → Nat) (k x : Nat) : Nat → Nat := fun j => if j = k then x else f j
theorem lk_ups {f : Nat → Nat} {k x : Nat} : lk_up f k x k = x := if_pos rfl
theorem lk_upn {f : Nat → Nat} {k j x : Nat} (h : j ≠ k) : lk_up f k x j = f j := if_neg h
/-- n outs begun, nc of them closed; B above every number -/
def lk_G (rg ld : Nat → Int32) (ni : Nat) (own sz : Nat → Nat) (pl : Nat → Prop) (B n nc ng C0 C1 : Nat) (V L D G0 GE IV : Nat → Nat) : Prop :=
  (C0 ≤ B ∧ C1 ≤ B ∧ 256 ≤ C1 ∧ nc ≤ n ∧ n ≤ nc + 1) ∧
  (∀ k, k < n → V k ≤ D k ∧ D k ≤ B ∧ L k + (D k - V k) ≤ B ∧ (rg k = 1 → 256 ≤ V k) ∧ (rg k = 0 → L k = V k)) ∧
  (∀ k, k < nc → ld k = 1 → L k + (D k - V k) ≤ C0) ∧
  (∀ j k, j < nc → k < n → j < k → ld j = 1 → ld k = 1 → L j + (D j - V j) ≤ L k) ∧
  (nc < n → ld nc = 1 → C0 ≤ L nc) ∧
  (∀ g, g < ng → 256 ≤ G0 g ∧ G0 g ≤ GE g ∧ GE g ≤ B ∧ (GE g = G0 g ∨ ∃ k, k < nc ∧ rg k = 1 ∧ D k = GE g)) ∧
  (∀ s, s < ni → pl s → own s < n ∧ V (own s) ≤ IV s ∧ IV s + sz s ≤ D (own s)) ∧
  (∀ s t, s < ni → t < ni → pl s → pl t → s ≠ t → own s = own t → IV s + sz s ≤ IV t ∨ IV t + sz t ≤ IV s)
theorem lk_G_0 {rg ld : Nat → Int32} {ni : Nat} {own sz : Nat → Nat} {pl : Nat → Prop} {B : Nat} {V L D G0 GE IV : Nat → Nat} (hB : 256 ≤ B) (hp : ∀ s, s < ni → ¬ pl s) : lk_G rg ld ni own sz pl B 0 0 0 0 256 V L D G0 GE IV :=
  ⟨⟨by omega, hB, by omega, by omega, by omega⟩, fun k h => absurd h (Nat.not_lt_zero k), fun k h => absurd h (Nat.not_lt_zero k), fun j k h => absurd h (Nat.not_lt_zero j), fun h => absurd h (Nat.not_lt_zero 0), fun g h => absurd h (Nat.not_lt_zero g), fun s h1 h2 => absurd h2 (hp s h1), fun s t h1 _ h2 => absurd h2 (hp s h1)⟩
theorem lk_G_pl {rg ld : Nat → Int32} {ni : Nat} {own sz : Nat → Nat} {pl pl' : Nat → Prop} {B n nc ng C0 C1 : Nat} {V L D G0 GE IV : Nat → Nat} (h : lk_G rg ld ni own sz pl B n nc ng C0 C1 V L D G0 GE IV) (hp : ∀ s, s < ni → pl' s → pl s) : lk_G rg ld ni own sz pl' B n nc ng C0 C1 V L D G0 GE IV := by
  obtain ⟨h1, h2, h3, h4, h5, h6, h7, h8⟩ := h
  exact ⟨h1, h2, h3, h4, h5, h6, fun s hs p => h7 s hs (hp s hs p), fun s t hs ht p q => h8 s t hs ht (hp s hs p) (hp t ht q)⟩
theorem lk_G_B {rg ld : Nat → Int32} {ni : Nat} {own sz : Nat → Nat} {pl : Nat → Prop} {B B' n nc ng C0 C1 : Nat} {V L D G0 GE IV : Nat → Nat} (h : lk_G rg ld ni own sz pl B n nc ng C0 C1 V L D G0 GE IV) (hB : B ≤ B') : lk_G rg ld ni own sz pl B' n nc ng C0 C1 V L D G0 GE IV := by
  obtain ⟨⟨a1, a2, a3, a4, a5⟩, h2, h3, h4, h5, h6, h7, h8⟩ := h
  refine ⟨⟨by omega, by omega, a3, a4, a5⟩, fun k hk => ?_, h3, h4, h5, fun g hg => ?_, h7, h8⟩
  · obtain ⟨b1, b2, b3, b4, b5⟩ := h2 k hk
    exact ⟨b1, by omega, by omega, b4, b5⟩
  · obtain ⟨b1, b2, b3, b4⟩ := h6 g hg
    exact ⟨b1, b2, by omega, b4⟩
/-- OP_SECTION -/
theorem lk_G_sec {rg ld : Nat → Int32} {ni : Nat} {own sz : Nat → Nat} {pl : Nat → Prop} {B n ng C0 C1 v l : Nat} {V L D G0 GE IV : Nat → Nat} (h : lk_G rg ld ni own sz pl B n n ng C0 C1 V L D G0 GE IV) (hv : v ≤ B) (hl : l ≤ B) (h256 : rg n = 1 → 256 ≤ v) (hr : rg n = 0 → l = v) (hc : ld n = 1 → C0 ≤ l) : lk_G rg ld ni own sz pl B (n + 1) n ng C0 C1 (lk_up V n v) (lk_up L n l) (lk_up D n v) G0 GE IV := by
  obtain ⟨⟨a1, a2, a3, a4, a5⟩, h2, h3, h4, h5, h6, h7, h8⟩ := h
  refine ⟨⟨a1, a2, a3, by omega, by omega⟩, fun k hk => ?_, fun k hk e => ?_, fun j k hj hk hjk e1 e2 => ?_, fun _ e => ?_, fun g hg => ?_, fun s hs p => ?_, h8⟩
  · by_cases e : k = n
    · subst e
      rw [lk_ups, lk_ups, lk_ups]
      exact ⟨Nat.le_refl v, hv, by omega, h256, hr⟩
    · rw [lk_upn e, lk_upn e, lk_upn e]
      exact h2 k (by omega)
  · have hn : k ≠ n := by omega
    rw [lk_upn hn, lk_upn hn, lk_upn hn]
    exact h3 k hk e
  · have hn : j ≠ n := by omega
    rw [lk_upn hn, lk_upn hn, lk_upn hn]
    by_cases e : k = n
    · subst e
      rw [lk_ups]
      exact Nat.le_trans (h3 j hj e1) (hc e2)
    · rw [lk_upn e]
      exact h4 j k hj (by omega) hjk e1 e2
  · rw [lk_ups]; exact hc e
  · obtain ⟨b1, b2, b3, b4⟩ := h6 g hg
    refine ⟨b1, b2, b3, b4.elim Or.inl (fun ⟨k, hk, e1, e2⟩ => Or.inr ⟨k, hk, e1, ?_⟩)⟩
    rw [lk_upn (show k ≠ n by omega)]; exact e2
  · obtain ⟨b1, b2, b3⟩ := h7 s hs p
    have hn : own s ≠ n := by omega
    rw [lk_upn hn, lk_upn hn]
    exact ⟨by omega, b2, b3⟩
/-- a dot moved inside the open section -/
theorem lk_G_dot {rg ld : Nat → Int32} {ni : Nat} {own sz : Nat → Nat} {pl : Nat → Prop} {B B' nc ng C0 C1 x : Nat} {V L D G0 GE IV : Nat → Nat} (h : lk_G rg ld ni own sz pl B (nc + 1) nc ng C0 C1 V L D G0 GE IV) (hx : D nc ≤ x) (hB : B + (x - D nc) ≤ B') : lk_G rg ld ni own sz pl B' (nc + 1) nc ng C0 C1 V L (lk_up D nc x) G0 GE IV := by
  obtain ⟨⟨a1, a2, a3, a4, a5⟩, h2, h3, h4, h5, h6, h7, h8⟩ := h
  refine ⟨⟨by omega, by omega, a3, a4, a5⟩, fun k hk => ?_, fun k hk e => ?_, fun j k hj hk hjk e1 e2 => ?_, h5, fun g hg => ?_, fun s hs p => ?_, h8⟩
  · obtain ⟨b1, b2, b3, b4, b5⟩ := h2 k hk
    by_cases e : k = nc
    · subst e
      rw [lk_ups]
      exact ⟨by omega, by omega, by omega, b4, b5⟩
    · rw [lk_upn e]
      exact ⟨b1, by omega, by omega, b4, b5⟩
  · rw [lk_upn (show k ≠ nc by omega)]; exact h3 k hk e
  · rw [lk_upn (show j ≠ nc by omega)]; exact h4 j k hj hk hjk e1 e2
  · obtain ⟨b1, b2, b3, b4⟩ := h6 g hg
    refine ⟨b1, b2, by omega, b4.elim Or.inl (fun ⟨k, hk, e1, e2⟩ => Or.inr ⟨k, hk, e1, ?_⟩)⟩
    rw [lk_upn (show k ≠ nc by omega)]; exact e2
  · obtain ⟨b1, b2, b3⟩ := h7 s hs p
    refine ⟨b1, b2, ?_⟩
    by_cases e : own s = nc
    · rw [e, lk_ups]; rw [e] at b3; omega
    · rw [lk_upn e]; exact b3
/-- an input section placed at x -/
theorem lk_G_put {rg ld : Nat → Int32} {ni : Nat} {own sz : Nat → Nat} {pl : Nat → Prop} {B B' nc ng C0 C1 x q : Nat} {V L D G0 GE IV : Nat → Nat} (h : lk_G rg ld ni own sz pl B (nc + 1) nc ng C0 C1 V L D G0 GE IV) (hq : ¬ pl q) (ho : own q = nc) (hx : D nc ≤ x) (hB : B + (x + sz q - D nc) ≤ B') : lk_G rg ld ni own sz (fun t => pl t ∨ t = q) B' (nc + 1) nc ng C0 C1 V L (lk_up D nc (x + sz q)) G0 GE (lk_up IV q x) := by
  have hd := lk_G_dot h (x := x + sz q) (by omega) hB
  obtain ⟨h1, h2, h3, h4, h5, h6, h7, h8⟩ := hd
  obtain ⟨_, g2, _, _, _, _, g7, _⟩ := h
  refine ⟨h1, h2, h3, h4, h5, h6, fun s hs p => ?_, fun s t hs ht p r hne e => ?_⟩
  · by_cases e : s = q
    · subst e
      rw [ho, lk_ups, lk_ups]
      have := (g2 nc (by omega)).1
      exact ⟨by omega, by omega, Nat.le_refl _⟩
    · rw [lk_upn e]
      exact h7 s hs (p.resolve_right e)
  · by_cases es : s = q
    · subst es
      have et : t ≠ s := fun z => hne z.symm
      rw [lk_ups, lk_upn et]
      have g := g7 t ht (r.resolve_right et)
      rw [← e, ho] at g
      exact Or.inr (by omega)
    · by_cases et : t = q
      · subst et
        rw [lk_ups, lk_upn es]
        have g := g7 s hs (p.resolve_right es)
        rw [e, ho] at g
        exact Or.inl (by omega)
      · rw [lk_upn es, lk_upn et]
        exact h8 s t hs ht (p.resolve_right es) (r.resolve_right et) hne e
/-- OP_END -/
theorem lk_G_end {rg ld : Nat → Int32} {ni : Nat} {own sz : Nat → Nat} {pl : Nat → Prop} {B nc ng C0 C1 C0' C1' : Nat} {V L D G0 GE GE' IV : Nat → Nat} (h : lk_G rg ld ni own sz pl B (nc + 1) nc ng C0 C1 V L D G0 GE IV) (h0 : C0' ≤ B) (h0' : C0 ≤ C0') (hl : ld nc = 1 → L nc + (D nc - V nc) ≤ C0') (h1 : C1' ≤ B) (h1' : 256 ≤ C1') (hg : ∀ g, g < ng → GE' g = GE g ∨ (rg nc = 1 ∧ GE' g = D nc ∧ GE g ≤ D nc)) : lk_G rg ld ni own sz pl B (nc + 1) (nc + 1) ng C0' C1' V L D G0 GE' IV := by
  obtain ⟨⟨a1, a2, a3, a4, a5⟩, h2, h3, h4, h5, h6, h7, h8⟩ := h
  refine ⟨⟨h0, h1, h1', by omega, by omega⟩, h2, fun k hk e => ?_, fun j k hj hk hjk e1 e2 => ?_, fun z => absurd z (Nat.lt_irrefl _), fun g hgn => ?_, h7, h8⟩
  · by_cases ek : k = nc
    · subst ek; exact hl e
    · exact Nat.le_trans (h3 k (by omega) e) h0'
  · exact h4 j k (by omega) hk hjk e1 e2
  · obtain ⟨b1, b2, b3, b4⟩ := h6 g hgn
    rcases hg g hgn with e | ⟨e1, e2, e3⟩
    · rw [e]
      exact ⟨b1, b2, b3, b4.elim Or.inl (fun ⟨k, hk, c1, c2⟩ => Or.inr ⟨k, by omega, c1, c2⟩)⟩
    · rw [e2]
      exact ⟨b1, by omega, (h2 nc (by omega)).2.1, Or.inr ⟨nc, by omega, e1, rfl⟩⟩
/-- a counter moved outside, or OP_OVERLAY_END -/
theorem lk_G_cnt {rg ld : Nat → Int32} {ni : Nat} {own sz : Nat → Nat} {pl : Nat → Prop} {B B' n ng C0 C1 C0' C1' : Nat} {V L D G0 GE IV : Nat → Nat} (h : lk_G rg ld ni own sz pl B n n ng C0 C1 V L D G0 GE IV) (hB : B ≤ B') (h0 : C0' ≤ B') (h0' : C0 ≤ C0') (h1 : C1' ≤ B') (h1' : 256 ≤ C1') : lk_G rg ld ni own sz pl B' n n ng C0' C1' V L D G0 GE IV := by
  obtain ⟨⟨a1, a2, a3, a4, a5⟩, h2, h3, h4, h5, h6, h7, h8⟩ := lk_G_B h hB
  exact ⟨⟨h0, h1, h1', a4, a5⟩, h2, fun k hk e => Nat.le_trans (h3 k hk e) h0', h4, fun z => absurd z (Nat.lt_irrefl _), h6, h7, h8⟩
/-- OP_OVERLAY -/
theorem lk_G_ovl {rg ld : Nat → Int32} {ni : Nat} {own sz : Nat → Nat} {pl : Nat → Prop} {B n nc ng C0 C1 : Nat} {V L D G0 GE IV : Nat → Nat} (h : lk_G rg ld ni own sz pl B n nc ng C0 C1 V L D G0 GE IV) : lk_G rg ld ni own sz pl B n nc (ng + 1) C0 C1 V L D (lk_up G0 ng C1) (lk_up GE ng C1) IV := by
  obtain ⟨⟨a1, a2, a3, a4, a5⟩, h2, h3, h4, h5, h6, h7, h8⟩ := h
  refine ⟨⟨a1, a2, a3, a4, a5⟩, h2, h3, h4, h5, fun g hg => ?_, h7, h8⟩
  by_cases e : g = ng
  · subst e
    rw [lk_ups, lk_ups]
    exact ⟨a3, Nat.le_refl _, a2, Or.inl rfl⟩
  · rw [lk_upn e, lk_upn e]
    exact h6 g (by omega)
/-- the load addresses of placed sections never meet -/
theorem lk_G_dj {rg ld : Nat → Int32} {ni : Nat} {own sz len : Nat → Nat} {pl act : Nat → Prop} {B n ng C0 C1 : Nat} {V L D G0 GE IV : Nat → Nat} (h : lk_G rg ld ni own sz pl B n n ng C0 C1 V L D G0 GE IV) (ha : ∀ s, s < ni → act s → pl s ∧ len s = sz s ∧ ld (own s) = 1) : lk_dj ni act (fun s => L (own s) + (IV s - V (own s))) len := by
  obtain ⟨_, _, _, h4, _, _, h7, h8⟩ := h
  intro s t hs ht hs' ht' hne
  obtain ⟨p1, e1, l1⟩ := ha s hs hs'
  obtain ⟨p2, e2, l2⟩ := ha t ht ht'
  obtain ⟨b1, b2, b3⟩ := h7 s hs p1
  obtain ⟨c1, c2, c3⟩ := h7 t ht p2
  show L (own s) + (IV s - V (own s)) + len s ≤ L (own t) + (IV t - V (own t)) ∨ L (own t) + (IV t - V (own t)) + len t ≤ L (own s) + (IV s - V (own s))
  by_cases e : own s = own t
  · have g := h8 s t hs ht p1 p2 hne e
    rw [e] at b2 ⊢
    omega
  · rcases Nat.lt_or_gt_of_ne e with q | q
    · have g := h4 (own s) (own t) b1 c1 q l1 l2
      omega
    · have g := h4 (own t) (own s) c1 b1 q l2 l1
      omega
end
end
section
section
/-! F: the image: X builds it in place, Y reads it section by section -/
theorem lk_img {rg ld : Nat → Int32} {ni : Nat} {own sz len : Nat → Nat} {pl act : Nat → Prop} {B n ng C0 C1 nr k off : Nat} {V L D G0 GE IV : Nat → Nat} {ow fo lo hi m1 m w : Nat → Int32} {b0 : Nat → Nat → Int32} {p : Nat → Bool}
    (hG : lk_G rg ld ni own sz pl B n n ng C0 C1 V L D G0 GE IV)
    (ha : ∀ s, s < ni → act s → pl s ∧ len s = sz s ∧ ld (own s) = 1)
    (hI : lk_I3 ni act (fun s => L (own s) + (IV s - V (own s))) len ow fo lo hi b0 m1 nr m)
    (h1 : ∀ q, q < n → ld q = 1 → ∀ o, o < D q - V q → m1 (L q + o) = 0)
    (hk : k < n) (ho : off < D k - V k)
    (hp : ∀ s, s < ni → (p s = true ↔ act s ∧ own s = k ∧ IV s ≤ V k + off ∧ V k + off < IV s + len s))
    (hw : ∀ s, s < ni → p s = true → w s = lk_rb ow fo lo hi s (V k + off - IV s) (b0 s (V k + off - IV s)) nr) :
    (ld k = 1 → m (L k + off) = lk_fv p w ni 0) ∧ (¬ ld k = 1 → lk_fv p w ni 0 = 0) := by
  obtain ⟨_, _, _, h4, _, _, h7, _⟩ := hG
  rcases lk_fv_or p w ni 0 with ⟨e, hn⟩ | ⟨s, _, hs, hps, e⟩
  · refine ⟨fun hl => ?_, fun _ => e⟩
    rw [e, hI.2 (L k + off), h1 k hk hl off ho]
    intro s hs has c
    have c' : L (own s) + (IV s - V (own s)) ≤ L k + off ∧ L k + off < L (own s) + (IV s - V (own s)) + len s := c
    obtain ⟨p1, e1, l1⟩ := ha s hs has
    obtain ⟨b1, b2, b3⟩ := h7 s hs p1
    by_cases eo : own s = k
    · rw [eo] at c' b2 b3
      exact hn s (Nat.zero_le s) (by omega) ((hp s hs).mpr ⟨has, eo, by omega, by omega⟩)
    · rcases Nat.lt_or_gt_of_ne eo with q | q
      · have g := h4 (own s) k b1 hk q l1 hl
        omega
      · have g := h4 k (own s) hk b1 q hl l1
        omega
  · have hs' : s < ni := by omega
    obtain ⟨has, eo, c1, c2⟩ := (hp s hs').mp hps
    obtain ⟨p1, e1, l1⟩ := ha s hs' has
    obtain ⟨b1, b2, b3⟩ := h7 s hs' p1
    rw [eo] at b2 b3 l1
    refine ⟨fun hl => ?_, fun hl => absurd l1 hl⟩
    have g := hI.1 s hs' has (V k + off - IV s) (by omega)
    have g' : m (L (own s) + (IV s - V (own s)) + (V k + off - IV s)) = lk_rb ow fo lo hi s (V k + off - IV s) (b0 s (V k + off - IV s)) nr := g
    rw [eo, show L k + (IV s - V k) + (V k + off - IV s) = L k + off by omega] at g'
    rw [e, hw s hs' hps]
    exact g'
theorem lk_rom {rg ld : Nat → Int32} {ni : Nat} {own sz len : Nat → Nat} {pl act : Nat → Prop} {B n ng C0 C1 nr : Nat} {V L D G0 GE IV : Nat → Nat} {ow fo lo hi m1 m rom : Nat → Int32} {b0 : Nat → Nat → Int32}
    (hG : lk_G rg ld ni own sz pl B n n ng C0 C1 V L D G0 GE IV)
    (ha : ∀ s, s < ni → act s → pl s ∧ len s = sz s ∧ ld (own s) = 1)
    (hI : lk_I3 ni act (fun s => L (own s) + (IV s - V (own s))) len ow fo lo hi b0 m1 nr m)
    (h1 : ∀ j, j < 128 → (∀ q, q < n → ld q = 1 → ¬ (L q ≤ j ∧ j < L q + (D q - V q))) → m1 j = 255)
    (r1 : ∀ q, q < n → ld q = 1 → ∀ o, o < D q - V q → rom (L q + o) = m (L q + o))
    (r2 : ∀ j, j < 128 → (∀ q, q < n → ld q = 1 → ¬ (L q ≤ j ∧ j < L q + (D q - V q))) → rom j = 255) :
    ∀ j, j < 128 → m j = rom j := by
  obtain ⟨_, _, _, _, _, _, h7, _⟩ := hG
  intro j hj
  by_cases c : ∃ q, q < n ∧ ld q = 1 ∧ L q ≤ j ∧ j < L q + (D q - V q)
  · obtain ⟨q, hq, hl, c1, c2⟩ := c
    have g := r1 q hq hl (j - L q) (by omega)
    rw [show L q + (j - L q) = j by omega] at g
    exact g.symm
  · have hn : ∀ q, q < n → ld q = 1 → ¬ (L q ≤ j ∧ j < L q + (D q - V q)) := fun q hq hl z => c ⟨q, hq, hl, z.1, z.2⟩
    rw [r2 j hj hn, ← h1 j hj hn]
    refine hI.2 j (fun s hs has z => ?_)
    have z' : L (own s) + (IV s - V (own s)) ≤ j ∧ j < L (own s) + (IV s - V (own s)) + len s := z
    obtain ⟨p1, e1, l1⟩ := ha s hs has
    obtain ⟨b1, b2, b3⟩ := h7 s hs p1
    exact hn (own s) b1 l1 (by omega)
end
end
section
section
/-! G: what feeding keeps -/
theorem lk_no_lt {op : Nat → Int32} {i n : Nat} (h : op i = 1) (hi : i < n) : lk_no op i < lk_no op n := by
  have h1 := lk_no_m (op := op) (i := i + 1) (n - (i + 1))
  rw [show i + 1 + (n - (i + 1)) = n by omega, lk_no_s, if_pos h] at h1
  omega
theorem lk_sc_u {op a b ox oy rg ld gp : Nat → Int32} {i n : Nat} {x1 x2 x3 x4 x5 : Int32} (hi : i < n) (h : lk_sc op a b ox oy rg ld gp i) : lk_sc (upd op n x1) (upd a n x2) (upd b n x3) (upd ox n x4) (upd oy n x5) rg ld gp i := by
  have e : ∀ (f : Nat → Int32) (x : Int32), upd f n x i = f i := fun f x => pk_un (by omega)
  unfold lk_sc at h ⊢
  simp only [lk_is_u i (Nat.le_of_lt hi), lk_ig_u i (Nat.le_of_lt hi), lk_no_u i (Nat.le_of_lt hi), lk_ng_u i (Nat.le_of_lt hi), e]
  exact h
theorem lk_sc_o {op a b ox oy rg ld gp : Nat → Int32} {i n no : Nat} {y1 y2 y3 : Int32} (hi : i < n) (hn : no = lk_no op n) (h : lk_sc op a b ox oy rg ld gp i) : lk_sc op a b ox oy (upd rg no y1) (upd ld no y2) (upd gp no y3) i := by
  rcases h with ⟨h1, h2, h3, h4, h5, h6, h7, h8⟩ | h
  · have hl := lk_no_lt h1 hi
    have e : ∀ (f : Nat → Int32) (x : Int32), upd f no x (lk_no op i) = f (lk_no op i) := fun f x => pk_un (by omega)
    exact Or.inl ⟨h1, h2, h3, h4, h5, by rw [e]; exact h6, by rw [e]; exact h7, by rw [e]; exact h8⟩
  · exact Or.inr h
theorem lk_no_a {op : Nat → Int32} {n : Nat} {x : Int32} : lk_no (upd op n x) (n + 1) = lk_no op n + (if x = 1 then 1 else 0) := by
  rw [lk_no_s, lk_no_u n (Nat.le_refl n), pk_us]
theorem lk_ng_a {op : Nat → Int32} {n : Nat} {x : Int32} : lk_ng (upd op n x) (n + 1) = lk_ng op n + (if x = 8 then 1 else 0) := by
  rw [lk_ng_s, lk_ng_u n (Nat.le_refl n), pk_us]
theorem lk_is_a {op : Nat → Int32} {n : Nat} {x : Int32} : lk_is (upd op n x) (n + 1) = if x = 1 then true else if x = 2 then false else lk_is op n := by
  rw [lk_is_s, lk_is_u n (Nat.le_refl n), pk_us]
theorem lk_ig_a {op : Nat → Int32} {n : Nat} {x : Int32} : lk_ig (upd op n x) (n + 1) = if x = 8 then true else if x = 9 then false else lk_ig op n := by
  rw [lk_ig_s, lk_ig_u n (Nat.le_refl n), pk_us]
/-- the script part of the relation: oo the open section on both sides, xg X's open group, yg Y's flag -/
def lk_S (ns no ng : Nat) (op sa sb ox oy rg ld gp : Nat → Int32) (oo xg yg : Int32) : Prop :=
  ns ≤ 32 ∧ no ≤ 8 ∧ ng ≤ 4 ∧ no = lk_no op ns ∧ ng = lk_ng op ns ∧ oo = (if lk_is op ns = true then nI (no - 1) else -1) ∧ xg = (if lk_ig op ns = true then nI (ng - 1) else -1) ∧ yg = (if lk_ig op ns = true then 1 else 0) ∧ ∀ i, i < ns → lk_sc op sa sb ox oy rg ld gp i
/-- a statement that opens no section and no group -/
theorem lk_S_st {ns no ng : Nat} {op sa sb ox oy rg ld gp : Nat → Int32} {oo xg yg oo' xg' yg' x a b o1 o2 : Int32} (h : lk_S ns no ng op sa sb ox oy rg ld gp oo xg yg) (hc : ns < 32) (n1 : ¬ x = 1) (n8 : ¬ x = 8)
    (e1 : oo' = if x = 2 then -1 else oo) (e2 : xg' = if x = 9 then -1 else xg) (e3 : yg' = if x = 9 then 0 else yg)
    (hs : lk_sc (upd op ns x) (upd sa ns a) (upd sb ns b) (upd ox ns o1) (upd oy ns o2) rg ld gp ns) :
    lk_S (ns + 1) no ng (upd op ns x) (upd sa ns a) (upd sb ns b) (upd ox ns o1) (upd oy ns o2) rg ld gp oo' xg' yg' := by
  obtain ⟨c1, c2, c3, c4, c5, c6, c7, c8, c9⟩ := h
  refine ⟨by omega, c2, c3, ?_, ?_, ?_, ?_, ?_, ?_⟩
  · rw [lk_no_a, if_neg n1]; omega
  · rw [lk_ng_a, if_neg n8]; omega
  · rw [lk_is_a, if_neg n1, e1, c6]
    by_cases h2 : x = 2
    · rw [if_pos h2, if_pos h2, if_neg (by decide)]
    · rw [if_neg h2, if_neg h2]
  · rw [lk_ig_a, if_neg n8, e2, c7]
    by_cases h2 : x = 9
    · rw [if_pos h2, if_pos h2, if_neg (by decide)]
    · rw [if_neg h2, if_neg h2]
  · rw [lk_ig_a, if_neg n8, e3, c8]
    by_cases h2 : x = 9
    · rw [if_pos h2, if_pos h2, if_neg (by decide)]
    · rw [if_neg h2, if_neg h2]
  · intro i hi
    by_cases e : i = ns
    · subst e; exact hs
    · exact lk_sc_u (by omega) (c9 i (by omega))
theorem lk_S_sec {ns no ng : Nat} {op sa sb ox oy rg ld gp : Nat → Int32} {oo xg yg a b : Int32} (h : lk_S ns no ng op sa sb ox oy rg ld gp oo xg yg) (hc : ns < 32) (ho : no < 8) (hi : lk_is op ns = false) (hab : (a = 0 ∧ b = 1 ∧ lk_ig op ns = false) ∨ (a = 1 ∧ (b = 0 ∨ b = 1))) :
    lk_S (ns + 1) (no + 1) ng (upd op ns 1) (upd sa ns a) (upd sb ns b) (upd ox ns (nI no)) (upd oy ns (nI no)) (upd rg no a) (upd ld no b) (upd gp no xg) (nI no) xg yg := by
  obtain ⟨c1, c2, c3, c4, c5, c6, c7, c8, c9⟩ := h
  have n8 : ¬ (1 : Int32) = 8 := by decide
  have n9 : ¬ (1 : Int32) = 9 := by decide
  refine ⟨by omega, by omega, c3, ?_, ?_, ?_, ?_, ?_, ?_⟩
  · rw [lk_no_a, if_pos rfl]; omega
  · rw [lk_ng_a, if_neg n8]; omega
  · rw [lk_is_a, if_pos rfl, if_pos rfl, Nat.add_sub_cancel]
  · rw [lk_ig_a, if_neg n8, if_neg n9]; exact c7
  · rw [lk_ig_a, if_neg n8, if_neg n9]; exact c8
  · intro i hin
    by_cases e : i = ns
    · subst e
      refine Or.inl ⟨pk_us, ?_, ?_, ?_, ?_, ?_, ?_, ?_⟩
      · rw [lk_is_u i (Nat.le_refl i)]; exact hi
      · rw [pk_us, pk_us, lk_ig_u i (Nat.le_refl i)]; exact hab
      · rw [pk_us, lk_no_u i (Nat.le_refl i), ← c4]
      · rw [pk_us, lk_no_u i (Nat.le_refl i), ← c4]
      · rw [lk_no_u i (Nat.le_refl i), ← c4, pk_us, pk_us]
      · rw [lk_no_u i (Nat.le_refl i), ← c4, pk_us, pk_us]
      · rw [lk_no_u i (Nat.le_refl i), ← c4, pk_us, lk_ig_u i (Nat.le_refl i), lk_ng_u i (Nat.le_refl i), ← c5]; exact c7
    · have h1 : i < ns := by omega
      have g := lk_sc_o (y1 := a) (y2 := b) (y3 := xg) h1 c4 (c9 i h1)
      exact lk_sc_u h1 g
theorem lk_S_ovl {ns no ng : Nat} {op sa sb ox oy rg ld gp : Nat → Int32} {oo xg yg a b o2 : Int32} (h : lk_S ns no ng op sa sb ox oy rg ld gp oo xg yg) (hc : ns < 32) (hg : ng < 4) (hi : lk_is op ns = false) (hj : lk_ig op ns = false) :
    lk_S (ns + 1) no (ng + 1) (upd op ns 8) (upd sa ns a) (upd sb ns b) (upd ox ns (nI ng)) (upd oy ns o2) rg ld gp oo (nI ng) 1 := by
  obtain ⟨c1, c2, c3, c4, c5, c6, c7, c8, c9⟩ := h
  have n1 : ¬ (8 : Int32) = 1 := by decide
  have n2 : ¬ (8 : Int32) = 2 := by decide
  refine ⟨by omega, c2, by omega, ?_, ?_, ?_, ?_, ?_, ?_⟩
  · rw [lk_no_a, if_neg n1]; omega
  · rw [lk_ng_a, if_pos rfl]; omega
  · rw [lk_is_a, if_neg n1, if_neg n2]; exact c6
  · rw [lk_ig_a, if_pos rfl, if_pos rfl, Nat.add_sub_cancel]
  · rw [lk_ig_a, if_pos rfl, if_pos rfl]
  · intro i hin
    by_cases e : i = ns
    · subst e
      refine Or.inr (Or.inr (Or.inr (Or.inl ⟨pk_us, ?_, ?_, ?_⟩)))
      · rw [lk_is_u i (Nat.le_refl i)]; exact hi
      · rw [lk_ig_u i (Nat.le_refl i)]; exact hj
      · rw [pk_us, lk_ng_u i (Nat.le_refl i), ← c5]
    · exact lk_sc_u (by omega) (c9 i (by omega))
/-- the input sections -/
def lk_n1 (nb : Nat) (kd al sz fb bs ln : Nat → Int32) (s : Nat) : Prop := ∃ A T Z Q : Nat, lk_A A ∧ al s = nI A ∧ fb s = nI T ∧ ln s = nI Z ∧ T + Z ≤ nb ∧ sz s = nI Q ∧ ((kd s = 3 ∧ Z = 0 ∧ Q ≤ 128 ∧ bs s = nI Q) ∨ (¬ kd s = 3 ∧ Q = Z))
def lk_N (ni nb : Nat) (kd al sz fb bs ln : Nat → Int32) : Prop := ni ≤ 16 ∧ nb ≤ 256 ∧ ∀ s, s < ni → lk_n1 nb kd al sz fb bs ln s
theorem lk_N_sec {ni nb A Q : Nat} {kd al sz fb bs ln : Nat → Int32} {k : Int32} (h : lk_N ni nb kd al sz fb bs ln) (hn : ni < 16) (hA : lk_A A) (hQ : (k = 3 ∧ Q ≤ 128) ∨ (¬ k = 3 ∧ Q = 0)) :
    lk_N (ni + 1) nb (upd kd ni k) (upd al ni (nI A)) (upd sz ni (nI Q)) (upd fb ni (nI nb)) (upd bs ni (nI Q)) (upd ln ni 0) := by
  obtain ⟨c1, c2, c3⟩ := h
  refine ⟨by omega, c2, fun s hs => ?_⟩
  by_cases e : s = ni
  · subst e
    refine ⟨A, nb, 0, Q, hA, pk_us, pk_us, pk_us, Nat.le_refl nb, pk_us, ?_⟩
    rw [pk_us, pk_us]
    rcases hQ with ⟨q1, q2⟩ | ⟨q1, q2⟩
    · exact Or.inl ⟨q1, rfl, q2, rfl⟩
    · exact Or.inr ⟨q1, q2⟩
  · obtain ⟨A', T, Z, Q', d1, d2, d3, d4, d5, d6, d7⟩ := c3 s (by omega)
    exact ⟨A', T, Z, Q', d1, by rw [pk_un e]; exact d2, by rw [pk_un e]; exact d3, by rw [pk_un e]; exact d4, d5, by rw [pk_un e]; exact d6, by rw [pk_un e, pk_un e]; exact d7⟩
theorem lk_N_byte {ni nb : Nat} {kd al sz fb bs ln : Nat → Int32} (h : lk_N (ni + 1) nb kd al sz fb bs ln) (hb : nb < 256) (hk : ¬ kd ni = 3) :
    lk_N (ni + 1) (nb + 1) kd al (upd sz ni (sz ni + 1)) fb bs (upd ln ni (ln ni + 1)) := by
  obtain ⟨c1, c2, c3⟩ := h
  refine ⟨c1, by omega, fun s hs => ?_⟩
  obtain ⟨A, T, Z, Q, d1, d2, d3, d4, d5, d6, d7⟩ := c3 s hs
  by_cases e : s = ni
  · subst e
    rcases d7 with ⟨q1, _⟩ | ⟨q1, q2⟩
    · exact absurd q1 hk
    · exact ⟨A, T, Z + 1, Q + 1, d1, d2, d3, by rw [pk_us, d4, nI_1], by omega, by rw [pk_us, d6, nI_1], Or.inr ⟨q1, by omega⟩⟩
  · exact ⟨A, T, Z, Q, d1, d2, d3, by rw [pk_un e]; exact d4, by omega, by rw [pk_un e]; exact d6, d7⟩
/-- the relocations -/
def lk_Q (nr ni : Nat) (kd ln ro rf rt : Nat → Int32) : Prop := nr ≤ 32 ∧ ∀ r, r < nr → ∃ o f t Z : Nat, o < ni ∧ ro r = nI o ∧ ¬ kd o = 3 ∧ ln o = nI Z ∧ Z ≤ 256 ∧ f + 2 ≤ Z ∧ rf r = nI f ∧ t < 16 ∧ rt r = nI t
theorem lk_Q_sec {nr ni : Nat} {kd ln ro rf rt : Nat → Int32} {k z : Int32} (h : lk_Q nr ni kd ln ro rf rt) : lk_Q nr (ni + 1) (upd kd ni k) (upd ln ni z) ro rf rt := by
  refine ⟨h.1, fun r hr => ?_⟩
  obtain ⟨o, f, t, Z, d1, d2, d3, d4, d5, d6, d7, d8, d9⟩ := h.2 r hr
  have e : o ≠ ni := by omega
  exact ⟨o, f, t, Z, by omega, d2, by rw [pk_un e]; exact d3, by rw [pk_un e]; exact d4, d5, d6, d7, d8, d9⟩
theorem lk_Q_byte {nr ni c : Nat} {kd ln ro rf rt : Nat → Int32} (h : lk_Q nr ni kd ln ro rf rt) (hz : ∀ Z, ln c = nI Z → Z ≤ 256 → Z < 256) : lk_Q nr ni kd (upd ln c (ln c + 1)) ro rf rt := by
  refine ⟨h.1, fun r hr => ?_⟩
  obtain ⟨o, f, t, Z, d1, d2, d3, d4, d5, d6, d7, d8, d9⟩ := h.2 r hr
  by_cases e : o = c
  · subst e
    have := hz Z d4 d5
    exact ⟨o, f, t, Z + 1, d1, d2, d3, by rw [pk_us, d4, nI_1], by omega, by omega, d7, d8, d9⟩
  · exact ⟨o, f, t, Z, d1, d2, d3, by rw [pk_un e]; exact d4, d5, d6, d7, d8, d9⟩
theorem lk_Q_rel {nr ni o f t Z : Nat} {kd ln ro rf rt : Nat → Int32} (h : lk_Q nr ni kd ln ro rf rt) (hc : nr < 32) (d1 : o < ni) (d3 : ¬ kd o = 3) (d4 : ln o = nI Z) (d5 : Z ≤ 256) (d6 : f + 2 ≤ Z) (d8 : t < 16) : lk_Q (nr + 1) ni kd ln (upd ro nr (nI o)) (upd rf nr (nI f)) (upd rt nr (nI t)) := by
  refine ⟨by omega, fun r hr => ?_⟩
  by_cases e : r = nr
  · subst e
    exact ⟨o, f, t, Z, d1, pk_us, d3, d4, d5, d6, pk_us, d8, pk_us⟩
  · rw [pk_un e, pk_un e, pk_un e]
    exact h.2 r (by omega)
end
end
section
section
/-! H: what link reckons, without the walk -/
theorem lk_ff_sn (p : Nat → Bool) : ∀ d j : Nat, j + d < 2 ^ 31 → lk_ff p (d + 1) j = if lk_ff p d j = -1 then (if p (j + d) = true then nI (j + d) else -1) else lk_ff p d j := by
  intro d
  induction d with
  | zero => intro j _; rfl
  | succ d ih =>
    intro j hj
    by_cases h : p j = true
    · rw [lk_ff_t h, lk_ff_t h, if_neg]
      intro e
      have := nI_pos (n := j) (by omega)
      rw [e] at this
      exact absurd (by decide : (-1 : Int32) < 0) this
    · rw [lk_ff_f h, lk_ff_f h, ih (j + 1) (by omega), show j + 1 + d = j + (d + 1) by omega]
theorem lk_nn1 {j : Nat} (h : j < 2 ^ 31) : ¬ nI j = -1 := by
  intro e
  have := nI_pos (n := j) h
  rw [e] at this
  exact absurd (by decide : (-1 : Int32) < 0) this
/-- the first n cells written by F -/
def lk_as (f : Nat → Int32) (n : Nat) (F : Nat → Int32) : Nat → Int32 := fun s => if s < n then F s else f s
theorem lk_as_0 {f F : Nat → Int32} : lk_as f 0 F = f := by
  funext s
  exact if_neg (Nat.not_lt_zero s)
theorem lk_as_s {f F : Nat → Int32} {n : Nat} {x : Int32} (h : x = F n) : upd (lk_as f n F) n x = lk_as f (n + 1) F := by
  funext s
  by_cases e : s = n
  · subst e
    rw [pk_us, h]
    exact (if_pos (Nat.lt_succ_self s)).symm
  · rw [pk_un e]
    unfold lk_as
    by_cases c : s < n
    · rw [if_pos c, if_pos (show s < n + 1 by omega)]
    · rw [if_neg c, if_neg (show ¬ s < n + 1 by omega)]
theorem lk_as_t {f F : Nat → Int32} {n s : Nat} (h : s < n) : lk_as f n F s = F s := if_pos h
theorem lk_as_f {f F : Nat → Int32} {n s : Nat} (h : ¬ s < n) : lk_as f n F s = f s := if_neg h
/-- statement i takes section s -/
def lk_mt (op sa sb kd id : Nat → Int32) (s i : Nat) : Bool := decide ((op i = 3 ∨ op i = 4) ∧ (sa i = -1 ∨ sa i = id s) ∧ (sb i = 0 ∨ sb i = kd s))
def lk_fm (op sa sb kd id : Nat → Int32) (ns s : Nat) : Int32 := lk_ff (lk_mt op sa sb kd id s) ns 0
theorem lk_fm_or {op sa sb kd id : Nat → Int32} {ns s : Nat} : lk_fm op sa sb kd id ns s = -1 ∨ ∃ i, i < ns ∧ (op i = 3 ∨ op i = 4) ∧ lk_fm op sa sb kd id ns s = nI i := by
  rcases lk_ff_or (lk_mt op sa sb kd id s) ns 0 with e | ⟨i, _, h2, h3, h4⟩
  · exact Or.inl e
  · exact Or.inr ⟨i, by omega, (of_decide_eq_true h3).1, h4⟩
/-- live at first -/
def lk_l0 (op st : Nat → Int32) (gc : Int32) (s : Nat) : Int32 := if ¬ st s = -1 ∧ (gc = 0 ∨ op (st s).toNatClampNeg = 4) then 1 else 0
theorem lk_l0_a {op st : Nat → Int32} {gc : Int32} {s : Nat} (h : lk_l0 op st gc s = 1) : ¬ st s = -1 := by
  unfold lk_l0 at h
  by_cases c : ¬ st s = -1 ∧ (gc = 0 ∨ op (st s).toNatClampNeg = 4)
  · exact c.1
  · rw [if_neg c] at h
    exact absurd h (by decide)
def lk_lv (op st ro rt : Nat → Int32) (gc : Int32) (ni nr : Nat) (lv : Nat → Int32) : Nat → Int32 := lk_it (lk_sp ro rt st ni) nr ni (lk_as lv ni (lk_l0 op st gc))
/-- a live relocation with an undefined target -/
def lk_ud (ro rt st lv : Nat → Int32) (ni r : Nat) : Bool := decide (lv (ro r).toNatClampNeg = 1 ∧ ¬ lk_on rt st ni r = true)
/-- live bytes in a NOLOAD section -/
def lk_nl (kd st lv ld ow : Nat → Int32) (s : Nat) : Bool := decide (lv s = 1 ∧ ¬ kd s = 3 ∧ ld (ow (st s).toNatClampNeg).toNatClampNeg = 0)
/-- the output sections that the script begins -/
def lk_of (ng : Nat) (rg ld gp : Nat → Int32) (k : Nat) : Prop := (rg k = 0 ∧ ld k = 1 ∧ gp k = -1) ∨ (rg k = 1 ∧ (ld k = 0 ∨ ld k = 1) ∧ (gp k = -1 ∨ ∃ g, g < ng ∧ gp k = nI g))
theorem lk_S_o {op sa sb ox oy rg ld gp : Nat → Int32} {ns : Nat} (h : ∀ i, i < ns → lk_sc op sa sb ox oy rg ld gp i) : ∀ n, n ≤ ns → ∀ k, k < lk_no op n → lk_of (lk_ng op ns) rg ld gp k := by
  intro n
  induction n with
  | zero => intro _ k hk; exact absurd hk (Nat.not_lt_zero k)
  | succ n ih =>
    intro hn k hk
    by_cases c : k < lk_no op n
    · exact ih (by omega) k c
    · rw [lk_no_s] at hk
      by_cases h1 : op n = 1
      · rw [if_pos h1] at hk
        have ek : k = lk_no op n := by omega
        subst ek
        have h2 := h n (by omega)
        unfold lk_sc at h2
        rcases h2 with ⟨_, _, hab, _, _, e1, e2, e3⟩ | ⟨h2, _⟩ | ⟨h2, _⟩ | ⟨h2, _⟩ | ⟨h2, _⟩
        · unfold lk_of
          rw [e1, e2, e3]
          rcases hab with ⟨a1, a2, a3⟩ | ⟨a1, a2⟩
          · rw [a3, if_neg (by decide)]
            exact Or.inl ⟨a1, a2, rfl⟩
          · refine Or.inr ⟨a1, a2, ?_⟩
            by_cases hg : lk_ig op n = true
            · rw [if_pos hg]
              have g1 := lk_ig_p n hg
              have g2 := lk_ng_m (op := op) (i := n) (ns - n)
              rw [show n + (ns - n) = ns by omega] at g2
              exact Or.inr ⟨_, by omega, rfl⟩
            · rw [if_neg hg]
              exact Or.inl rfl
        · rw [h1] at h2; exact absurd h2 (by decide)
        · rw [h1] at h2; exact absurd h2 (by decide)
        · rw [h1] at h2; exact absurd h2 (by decide)
        · rw [h1] at h2; exact absurd h2 (by decide)
      · rw [if_neg h1] at hk
        exact absurd hk c
/-- a statement that takes sections: its owner on both sides -/
theorem lk_S_i {op sa sb ox oy rg ld gp : Nat → Int32} {ns i : Nat} (h : ∀ i, i < ns → lk_sc op sa sb ox oy rg ld gp i) (hi : i < ns) (ho : op i = 3 ∨ op i = 4) : lk_is op i = true ∧ 1 ≤ lk_no op i ∧ lk_no op i ≤ lk_no op ns ∧ ox i = nI (lk_no op i - 1) ∧ oy i = nI (lk_no op i - 1) := by
  have h2 := h i hi
  unfold lk_sc at h2
  have m := lk_no_m (op := op) (i := i) (ns - i)
  rw [show i + (ns - i) = ns by omega] at m
  rcases h2 with ⟨h2, _⟩ | ⟨_, h3, h4, h5⟩ | ⟨h2, _⟩ | ⟨h2, _⟩ | ⟨h2, _⟩
  · rcases ho with e | e <;> rw [e] at h2 <;> exact absurd h2 (by decide)
  · exact ⟨h3, lk_is_p i h3, m, h4, h5⟩
  · rcases ho with e | e <;> rw [e] at h2 <;> exact absurd h2 (by decide)
  · rcases ho with e | e <;> rw [e] at h2 <;> exact absurd h2 (by decide)
  · rcases ho with e | e <;> rw [e] at h2 <;> exact absurd h2 (by decide)
end
end
section
section
/-! I: writes to a stretch of memory -/
def lk_wr (m : Nat → Int32) (s e : Nat) (F : Nat → Int32) : Nat → Int32 := fun j => if s ≤ j ∧ j < e then F j else m j
theorem lk_wr_0 {m F : Nat → Int32} {s : Nat} : lk_wr m s s F = m := by
  funext j
  exact if_neg (by omega)
theorem lk_wr_e {m F : Nat → Int32} {s e : Nat} (h : e ≤ s) : lk_wr m s e F = m := by
  funext j
  exact if_neg (by omega)
theorem lk_wr_t {m F : Nat → Int32} {s e j : Nat} (h1 : s ≤ j) (h2 : j < e) : lk_wr m s e F j = F j := if_pos ⟨h1, h2⟩
theorem lk_wr_f {m F : Nat → Int32} {s e j : Nat} (h : ¬ (s ≤ j ∧ j < e)) : lk_wr m s e F j = m j := if_neg h
theorem lk_wr_s {m F : Nat → Int32} {s x : Nat} {v : Int32} (h : s ≤ x) (hv : v = F x) : upd (lk_wr m s x F) x v = lk_wr m s (x + 1) F := by
  funext j
  by_cases e : j = x
  · subst e
    rw [pk_us, lk_wr_t h (Nat.lt_succ_self j), hv]
  · rw [pk_un e]
    by_cases c : s ≤ j ∧ j < x
    · rw [lk_wr_t c.1 c.2, lk_wr_t c.1 (by omega)]
    · rw [lk_wr_f c, lk_wr_f (by omega)]
/-- X's one memory against Y's ROM and RAM -/
def lk_M (me rom ram : Nat → Int32) : Prop := (∀ j, j < 128 → me j = rom j) ∧ (∀ j, j < 128 → me (256 + j) = ram j)
theorem lk_M_wr {me rom ram F F' : Nat → Int32} {a b : Nat} (h : lk_M me rom ram) (ha : 256 ≤ a) (hF : ∀ j, j < 128 → a ≤ 256 + j → 256 + j < b → F (256 + j) = F' j) : lk_M (lk_wr me a b F) rom (lk_wr ram (a - 256) (b - 256) F') := by
  refine ⟨fun j hj => ?_, fun j hj => ?_⟩
  · rw [lk_wr_f (by omega)]; exact h.1 j hj
  · by_cases c : a ≤ 256 + j ∧ 256 + j < b
    · rw [lk_wr_t c.1 c.2, lk_wr_t (by omega) (by omega)]
      exact hF j hj c.1 c.2
    · rw [lk_wr_f c, lk_wr_f (by omega)]; exact h.2 j hj
end
section
/-! J: the walk's invariant, and what each statement does to it -/
def lk_ga (p : Nat → Bool) (al : Nat → Int32) : Nat → Int32
  | 0 => 1
  | s + 1 => if p s = true ∧ lk_ga p al s < al s then al s else lk_ga p al s
theorem lk_ga_s (p : Nat → Bool) (al : Nat → Int32) (s : Nat) : lk_ga p al (s + 1) = if p s = true ∧ lk_ga p al s < al s then al s else lk_ga p al s := rfl
theorem lk_ga_A {p : Nat → Bool} {al : Nat → Int32} : ∀ n, (∀ s, s < n → ∃ A, lk_A A ∧ al s = nI A) → ∃ A, lk_A A ∧ lk_ga p al n = nI A := by
  intro n
  induction n with
  | zero => intro _; exact ⟨1, Or.inl rfl, rfl⟩
  | succ n ih =>
    intro h
    rw [lk_ga_s]
    by_cases c : p n = true ∧ lk_ga p al n < al n
    · rw [if_pos c]; exact h n (Nat.lt_succ_self n)
    · rw [if_neg c]; exact ih (fun s hs => h s (by omega))
def lk_W (ni : Nat) (rg ld : Nat → Int32) (own sz : Nat → Nat) (pl : Nat → Prop) (B n nc ng : Nat) (ig : Bool) (C0 C1 : Nat) (V L D G0 GE IV : Nat → Nat) (ct vm lm dt gs ge xv os yg0 yg1 yv yl : Nat → Int32) (c0 c1 g0 yge grp k dot vma lma ing : Int32) : Prop :=
  lk_G rg ld ni own sz pl B n nc ng C0 C1 V L D G0 GE IV ∧
  (ct 0 = nI C0 ∧ ct 1 = nI C1 ∧ c0 = nI C0 ∧ c1 = nI C1) ∧
  (∀ j, j < n → vm j = nI (V j) ∧ lm j = nI (L j) ∧ dt j = nI (D j)) ∧
  (∀ j, j < nc → os j = nI (D j - V j)) ∧
  (∀ g, g < ng → gs g = nI (G0 g) ∧ ge g = nI (GE g)) ∧
  (∀ g, g < ng → (ig = true → g + 1 < ng) → yg0 g = nI (G0 g) ∧ yg1 g = nI (GE g)) ∧
  (∀ s, s < ni → pl s → xv s = nI (IV s) ∧ yv s = nI (IV s) ∧ yl s = nI (IV s) + (lm (own s) - vm (own s))) ∧
  (ing = (if ig = true then 1 else 0) ∧ grp = nI ng - 1 ∧ (ig = true → 1 ≤ ng ∧ g0 = nI (G0 (ng - 1)) ∧ yge = nI (GE (ng - 1)))) ∧
  ((nc < n → k = nI nc ∧ dot = nI (D nc) ∧ vma = nI (V nc) ∧ lma = nI (L nc)) ∧ (nc = n → k = -1))
theorem lk_W_pl {ni : Nat} {rg ld : Nat → Int32} {own sz : Nat → Nat} {pl pl' : Nat → Prop} {B B' n nc ng : Nat} {ig : Bool} {C0 C1 : Nat} {V L D G0 GE IV : Nat → Nat} {ct vm lm dt gs ge xv os yg0 yg1 yv yl : Nat → Int32} {c0 c1 g0 yge grp k dot vma lma ing : Int32}
    (h : lk_W ni rg ld own sz pl B n nc ng ig C0 C1 V L D G0 GE IV ct vm lm dt gs ge xv os yg0 yg1 yv yl c0 c1 g0 yge grp k dot vma lma ing) (hB : B ≤ B') (hp : ∀ s, s < ni → pl' s → pl s) :
    lk_W ni rg ld own sz pl' B' n nc ng ig C0 C1 V L D G0 GE IV ct vm lm dt gs ge xv os yg0 yg1 yv yl c0 c1 g0 yge grp k dot vma lma ing := by
  obtain ⟨h1, h2, h3, h4, h5, h6, h7, h8, h9⟩ := h
  exact ⟨lk_G_B (lk_G_pl h1 hp) hB, h2, h3, h4, h5, h6, fun s hs p => h7 s hs (hp s hs p), h8, h9⟩
/-- OP_SECTION -/
theorem lk_W_sec {ni : Nat} {rg ld : Nat → Int32} {own sz : Nat → Nat} {pl : Nat → Prop} {B n ng : Nat} {ig : Bool} {C0 C1 v l : Nat} {V L D G0 GE IV : Nat → Nat} {ct vm lm dt gs ge xv os yg0 yg1 yv yl : Nat → Int32} {c0 c1 g0 yge grp k dot vma lma ing : Int32}
    (h : lk_W ni rg ld own sz pl B n n ng ig C0 C1 V L D G0 GE IV ct vm lm dt gs ge xv os yg0 yg1 yv yl c0 c1 g0 yge grp k dot vma lma ing)
    (hv : v ≤ B) (hl : l ≤ B) (h256 : rg n = 1 → 256 ≤ v) (hr : rg n = 0 → l = v) (hc : ld n = 1 → C0 ≤ l) :
    lk_W ni rg ld own sz pl B (n + 1) n ng ig C0 C1 (lk_up V n v) (lk_up L n l) (lk_up D n v) G0 GE IV ct (upd vm n (nI v)) (upd lm n (nI l)) (upd dt n (nI v)) gs ge xv os yg0 yg1 yv yl c0 c1 g0 yge grp (nI n) (nI v) (nI v) (nI l) ing := by
  obtain ⟨h1, h2, h3, h4, h5, h6, h7, h8, h9⟩ := h
  refine ⟨lk_G_sec h1 hv hl h256 hr hc, h2, fun j hj => ?_, fun j hj => ?_, h5, h6, fun s hs p => ?_, h8, fun _ => ?_, fun z => by omega⟩
  · by_cases e : j = n
    · subst e
      rw [pk_us, pk_us, pk_us, lk_ups, lk_ups, lk_ups]
      exact ⟨rfl, rfl, rfl⟩
    · rw [pk_un e, pk_un e, pk_un e, lk_upn e, lk_upn e, lk_upn e]
      exact h3 j (by omega)
  · have e : j ≠ n := by omega
    rw [lk_upn e, lk_upn e]
    exact h4 j hj
  · have e : own s ≠ n := by
      have := (h1.2.2.2.2.2.2.1 s hs p).1
      omega
    rw [pk_un e, pk_un e]
    exact h7 s hs p
  · rw [lk_ups, lk_ups, lk_ups]
    exact ⟨rfl, rfl, rfl, rfl⟩
/-- the open section's dot moved -/
theorem lk_W_dot {ni : Nat} {rg ld : Nat → Int32} {own sz : Nat → Nat} {pl : Nat → Prop} {B B' nc ng : Nat} {ig : Bool} {C0 C1 x : Nat} {V L D G0 GE IV : Nat → Nat} {ct vm lm dt gs ge xv os yg0 yg1 yv yl : Nat → Int32} {c0 c1 g0 yge grp k dot vma lma ing : Int32}
    (h : lk_W ni rg ld own sz pl B (nc + 1) nc ng ig C0 C1 V L D G0 GE IV ct vm lm dt gs ge xv os yg0 yg1 yv yl c0 c1 g0 yge grp k dot vma lma ing)
    (hx : D nc ≤ x) (hB : B + (x - D nc) ≤ B') :
    lk_W ni rg ld own sz pl B' (nc + 1) nc ng ig C0 C1 V L (lk_up D nc x) G0 GE IV ct vm lm (upd dt nc (nI x)) gs ge xv os yg0 yg1 yv yl c0 c1 g0 yge grp k (nI x) vma lma ing := by
  obtain ⟨h1, h2, h3, h4, h5, h6, h7, h8, h9, h10⟩ := h
  refine ⟨lk_G_dot h1 hx hB, h2, fun j hj => ?_, fun j hj => ?_, h5, h6, h7, h8, fun z => ?_, h10⟩
  · by_cases e : j = nc
    · subst e
      rw [pk_us, lk_ups]
      exact ⟨(h3 j hj).1, (h3 j hj).2.1, rfl⟩
    · rw [pk_un e, lk_upn e]
      exact h3 j hj
  · rw [lk_upn (show j ≠ nc by omega)]
    exact h4 j hj
  · obtain ⟨a1, a2, a3, a4⟩ := h9 z
    rw [lk_ups]
    exact ⟨a1, rfl, a3, a4⟩
/-- an input section placed at x -/
theorem lk_W_put {ni : Nat} {rg ld : Nat → Int32} {own sz : Nat → Nat} {pl : Nat → Prop} {B B' nc ng : Nat} {ig : Bool} {C0 C1 x q : Nat} {V L D G0 GE IV : Nat → Nat} {ct vm lm dt gs ge xv os yg0 yg1 yv yl : Nat → Int32} {c0 c1 g0 yge grp k dot vma lma ing : Int32}
    (h : lk_W ni rg ld own sz pl B (nc + 1) nc ng ig C0 C1 V L D G0 GE IV ct vm lm dt gs ge xv os yg0 yg1 yv yl c0 c1 g0 yge grp k dot vma lma ing)
    (hq : ¬ pl q) (ho : own q = nc) (hx : D nc ≤ x) (hB : B + (x + sz q - D nc) ≤ B') :
    lk_W ni rg ld own sz (fun t => pl t ∨ t = q) B' (nc + 1) nc ng ig C0 C1 V L (lk_up D nc (x + sz q)) G0 GE (lk_up IV q x) ct vm lm (upd dt nc (nI (x + sz q))) gs ge (upd xv q (nI x)) os yg0 yg1 (upd yv q (nI x)) (upd yl q (nI x + (lma - vma))) c0 c1 g0 yge grp k (nI (x + sz q)) vma lma ing := by
  have hd := lk_W_dot h (x := x + sz q) (by omega) hB
  obtain ⟨_, h2, h3, h4, h5, h6, h7, h8, h9, h10⟩ := hd
  refine ⟨lk_G_put h.1 hq ho hx hB, h2, h3, h4, h5, h6, fun s hs p => ?_, h8, h9, h10⟩
  by_cases e : s = q
  · subst e
    obtain ⟨_, _, a3, a4⟩ := h9 (by omega)
    rw [pk_us, pk_us, pk_us, lk_ups, ho]
    obtain ⟨b1, b2, _⟩ := h3 nc (by omega)
    exact ⟨rfl, rfl, by rw [a3, a4, b1, b2]⟩
  · rw [pk_un e, pk_un e, pk_un e, lk_upn e]
    exact h7 s hs (p.resolve_right e)
/-- OP_END -/
theorem lk_W_end {ni : Nat} {rg ld : Nat → Int32} {own sz : Nat → Nat} {pl : Nat → Prop} {B nc ng : Nat} {ig : Bool} {C0 C1 C0' C1' : Nat} {V L D G0 GE GE' IV : Nat → Nat} {ct ct' vm lm dt gs ge ge' xv os yg0 yg1 yv yl : Nat → Int32} {c0 c1 c0' c1' g0 yge yge' grp k dot vma lma ing : Int32}
    (h : lk_W ni rg ld own sz pl B (nc + 1) nc ng ig C0 C1 V L D G0 GE IV ct vm lm dt gs ge xv os yg0 yg1 yv yl c0 c1 g0 yge grp k dot vma lma ing)
    (h0 : C0' ≤ B) (h0' : C0 ≤ C0') (hl : ld nc = 1 → L nc + (D nc - V nc) ≤ C0') (h1 : C1' ≤ B) (h1' : 256 ≤ C1')
    (hg : ∀ g, g < ng → GE' g = GE g ∨ (rg nc = 1 ∧ GE' g = D nc ∧ GE g ≤ D nc))
    (hct : ct' 0 = nI C0' ∧ ct' 1 = nI C1' ∧ c0' = nI C0' ∧ c1' = nI C1')
    (hge : ∀ g, g < ng → ge' g = nI (GE' g))
    (hyg : ∀ g, g < ng → (ig = true → g + 1 < ng) → GE' g = GE g)
    (hye : ig = true → yge' = nI (GE' (ng - 1))) :
    lk_W ni rg ld own sz pl B (nc + 1) (nc + 1) ng ig C0' C1' V L D G0 GE' IV ct' vm lm dt gs ge' xv (upd os nc (nI (D nc - V nc))) yg0 yg1 yv yl c0' c1' g0 yge' grp (-1) dot vma lma ing := by
  obtain ⟨a1, a2, a3, a4, a5, a6, a7, ⟨a8, a9, a10⟩, a11, a12⟩ := h
  refine ⟨lk_G_end a1 h0 h0' hl h1 h1' hg, hct, a3, fun j hj => ?_, fun g hgn => ⟨(a5 g hgn).1, hge g hgn⟩, fun g hgn hi => ?_, a7, ⟨a8, a9, fun e => ⟨(a10 e).1, (a10 e).2.1, hye e⟩⟩, fun z => absurd z (Nat.lt_irrefl _), fun _ => rfl⟩
  · by_cases e : j = nc
    · subst e; rw [pk_us]
    · rw [pk_un e]; exact a4 j (by omega)
  · rw [hyg g hgn hi]; exact a6 g hgn hi
/-- a counter moved outside any section and group -/
theorem lk_W_cnt {ni : Nat} {rg ld : Nat → Int32} {own sz : Nat → Nat} {pl : Nat → Prop} {B B' n ng : Nat} {ig : Bool} {C0 C1 C0' C1' : Nat} {V L D G0 GE IV : Nat → Nat} {ct ct' vm lm dt gs ge xv os yg0 yg1 yv yl : Nat → Int32} {c0 c1 c0' c1' g0 yge grp k dot vma lma ing : Int32}
    (h : lk_W ni rg ld own sz pl B n n ng ig C0 C1 V L D G0 GE IV ct vm lm dt gs ge xv os yg0 yg1 yv yl c0 c1 g0 yge grp k dot vma lma ing)
    (hB : B ≤ B') (h0 : C0' ≤ B') (h0' : C0 ≤ C0') (h1 : C1' ≤ B') (h1' : 256 ≤ C1')
    (hct : ct' 0 = nI C0' ∧ ct' 1 = nI C1' ∧ c0' = nI C0' ∧ c1' = nI C1') :
    lk_W ni rg ld own sz pl B' n n ng ig C0' C1' V L D G0 GE IV ct' vm lm dt gs ge xv os yg0 yg1 yv yl c0' c1' g0 yge grp k dot vma lma ing := by
  obtain ⟨a1, a2, a3, a4, a5, a6, a7, a8, a9⟩ := h
  exact ⟨lk_G_cnt a1 hB h0 h0' h1 h1', hct, a3, a4, a5, a6, a7, a8, a9⟩
/-- OP_OVERLAY -/
theorem lk_W_ovl {ni : Nat} {rg ld : Nat → Int32} {own sz : Nat → Nat} {pl : Nat → Prop} {B n ng : Nat} {C0 C1 : Nat} {V L D G0 GE IV : Nat → Nat} {ct vm lm dt gs ge xv os yg0 yg1 yv yl : Nat → Int32} {c0 c1 g0 yge grp k dot vma lma ing : Int32}
    (h : lk_W ni rg ld own sz pl B n n ng false C0 C1 V L D G0 GE IV ct vm lm dt gs ge xv os yg0 yg1 yv yl c0 c1 g0 yge grp k dot vma lma ing) :
    lk_W ni rg ld own sz pl B n n (ng + 1) true C0 C1 V L D (lk_up G0 ng C1) (lk_up GE ng C1) IV ct vm lm dt (upd gs ng (nI C1)) (upd ge ng (nI C1)) xv os yg0 yg1 yv yl c0 c1 (nI C1) (nI C1) (nI ng) k dot vma lma 1 := by
  obtain ⟨a1, a2, a3, a4, a5, a6, a7, ⟨a8, a9, a10⟩, a11⟩ := h
  refine ⟨lk_G_ovl a1, a2, a3, a4, fun g hg => ?_, fun g hg hi => ?_, a7, ⟨rfl, ?_, fun _ => ⟨by omega, ?_, ?_⟩⟩, a11⟩
  · by_cases e : g = ng
    · subst e
      rw [pk_us, pk_us, lk_ups, lk_ups]
      exact ⟨rfl, rfl⟩
    · rw [pk_un e, pk_un e, lk_upn e, lk_upn e]
      exact a5 g (by omega)
  · have := hi rfl
    have e : g ≠ ng := by omega
    rw [lk_upn e, lk_upn e]
    exact a6 g (by omega) (fun z => absurd z (by decide))
  · exact (nI_pred ng).symm
  · rw [Nat.add_sub_cancel, lk_ups]
  · rw [Nat.add_sub_cancel, lk_ups]
/-- OP_OVERLAY_END -/
theorem lk_W_ove {ni : Nat} {rg ld : Nat → Int32} {own sz : Nat → Nat} {pl : Nat → Prop} {B n ng : Nat} {C0 C1 : Nat} {V L D G0 GE IV : Nat → Nat} {ct vm lm dt gs ge xv os yg0 yg1 yv yl : Nat → Int32} {c0 c1 g0 yge grp k dot vma lma ing : Int32}
    (h : lk_W ni rg ld own sz pl B n n (ng + 1) true C0 C1 V L D G0 GE IV ct vm lm dt gs ge xv os yg0 yg1 yv yl c0 c1 g0 yge grp k dot vma lma ing) :
    lk_W ni rg ld own sz pl B n n (ng + 1) false C0 (GE ng) V L D G0 GE IV (upd ct 1 (nI (GE ng))) vm lm dt gs ge xv os (upd yg0 ng g0) (upd yg1 ng yge) yv yl c0 yge g0 yge grp k dot vma lma 0 := by
  obtain ⟨a1, ⟨b1, b2, b3, b4⟩, a3, a4, a5, a6, a7, ⟨a8, a9, a10⟩, a11⟩ := h
  obtain ⟨_, e1, e2⟩ := a10 rfl
  rw [Nat.add_sub_cancel] at e1 e2
  obtain ⟨d1, d2, d3, _⟩ := a1.2.2.2.2.2.1 ng (by omega)
  refine ⟨lk_G_cnt a1 (Nat.le_refl B) a1.1.1 (Nat.le_refl C0) d3 (by omega), ⟨?_, pk_us, b3, e2⟩, a3, a4, a5, fun g hg _ => ?_, a7, ⟨rfl, a9, fun z => absurd z (by decide)⟩, a11⟩
  · rw [pk_un (by decide)]; exact b1
  · by_cases e : g = ng
    · subst e
      rw [pk_us, pk_us]
      exact ⟨e1, e2⟩
    · rw [pk_un e, pk_un e]
      exact a6 g hg (fun _ => by omega)
end
end
section

section
def lk_rv (ni : Nat) (ro rf ty rt ra yv yl : Nat → Int32) (r : Nat) : Int32 := if nI ni ≤ rt r then 0 else if ty r = 1 then yv (rt r).toNatClampNeg + ra r else if ty r = 2 then yl (rt r).toNatClampNeg + ra r else yv (rt r).toNatClampNeg + ra r - (yv (ro r).toNatClampNeg + rf r)
def lk_lo (ni : Nat) (ro rf ty rt ra yv yl : Nat → Int32) (r : Nat) : Int32 := lk_rv ni ro rf ty rt ra yv yl r &&& 255
def lk_hi (ni : Nat) (ro rf ty rt ra yv yl : Nat → Int32) (r : Nat) : Int32 := lk_rv ni ro rf ty rt ra yv yl r >>> ((8 : Int32) &&& 31) &&& 255
def lk_Z (rs : Nat → Int32) (R0 R1 : Nat) : Prop := rs 0 = nI R0 ∧ rs 1 = nI R1 ∧ 16 ≤ R0 ∧ R0 ≤ 128 ∧ 16 ≤ R1 ∧ R1 ≤ 128
theorem lk_asc (a b c : Int32) : a + b - c = a + (b - c) := by
  rw [Int32.sub_eq_add_neg, Int32.sub_eq_add_neg, Int32.add_assoc]
theorem lk_S_of {ns no ng : Nat} {op sa sb ox oy rg ld gp : Nat → Int32} {oo xg yg : Int32} (h : lk_S ns no ng op sa sb ox oy rg ld gp oo xg yg) : ∀ k, k < no → lk_of ng rg ld gp k := by
  obtain ⟨_, _, _, c4, c5, _, _, _, c9⟩ := h
  intro k hk
  rw [c5]
  exact lk_S_o c9 ns (Nat.le_refl ns) k (by omega)
theorem lk_e0 : (0 : Int32).toNatClampNeg = 0 := by decide
theorem lk_e1 : (1 : Int32).toNatClampNeg = 1 := by decide
theorem lk_256 (n : Nat) : (256 : Int32) + nI n = nI (256 + n) := nI_add 256 n
theorem lk_ix2 (x : Int32) {a n : Nat} (ha : a < 2 ^ 30) (hn : n < 2 ^ 30) : x < nI a ∨ nI (a + n) ≤ x ∨ ∃ j : Nat, j < n ∧ x = nI (a + j) := by
  rcases pk_ix x (n := a) (by omega) with h | h | ⟨j, hj, e⟩
  · exact Or.inl (Int32.lt_of_lt_of_le h (nI_pos' (by omega)))
  · rcases pk_ix x (n := a + n) (by omega) with h2 | h2 | ⟨j, hj, e⟩
    · exact absurd (Int32.lt_of_lt_of_le h2 (nI_pos' (by omega))) (Int32.not_lt.mpr h)
    · exact Or.inr (Or.inl h2)
    · subst e
      rw [nI_leI (by omega) (by omega)] at h
      exact Or.inr (Or.inr ⟨j - a, by omega, by rw [show a + (j - a) = j by omega]⟩)
  · subst e
    exact Or.inl (nI_lt hj (by omega))
theorem lk_34 {x : Int32} (a : 3 < x) (b : x < 4) : False := by
  rw [Int32.lt_iff_toInt_lt] at a b
  have h3 : (3 : Int32).toInt = 3 := by decide
  have h4 : (4 : Int32).toInt = 4 := by decide
  omega
theorem lx_fill {post : St2 → Prop} {xphase xstmtCount xopenOut xopenGroup xoutCount xgroupCount xinCount xbyteCount xrelocCount : Int32} {xregionSize xcounter xmemory xstmtOp xstmtA xstmtB xstmtOwner xoutRegion xoutLoaded xoutGroup xoutAlign xoutVma xoutLma xoutDot xgroupStart xgroupEnd xgroupResident xinKind xinId xinAlign xinSize xinFirstByte xinStmt xinLive xinVma xfedBytes xrelocOwner xrelocOffset xrelocType xrelocTarget xrelocAddend : Nat → Int32} {s e : Nat} {v : Int32} (he : e ≤ 384) (hs : s < 2 ^ 31) (h : post (xphase, xstmtCount, xopenOut, xopenGroup, xoutCount, xgroupCount, xinCount, xbyteCount, xrelocCount, xregionSize, xcounter, (lk_wr xmemory s e (fun _ => v)), xstmtOp, xstmtA, xstmtB, xstmtOwner, xoutRegion, xoutLoaded, xoutGroup, xoutAlign, xoutVma, xoutLma, xoutDot, xgroupStart, xgroupEnd, xgroupResident, xinKind, xinId, xinAlign, xinSize, xinFirstByte, xinStmt, xinLive, xinVma, xfedBytes, xrelocOwner, xrelocOffset, xrelocType, xrelocTarget, xrelocAddend)) : wpX_fill post (xphase, xstmtCount, xopenOut, xopenGroup, xoutCount, xgroupCount, xinCount, xbyteCount, xrelocCount, xregionSize, xcounter, xmemory, xstmtOp, xstmtA, xstmtB, xstmtOwner, xoutRegion, xoutLoaded, xoutGroup, xoutAlign, xoutVma, xoutLma, xoutDot, xgroupStart, xgroupEnd, xgroupResident, xinKind, xinId, xinAlign, xinSize, xinFirstByte, xinStmt, xinLive, xinVma, xfedBytes, xrelocOwner, xrelocOffset, xrelocType, xrelocTarget, xrelocAddend) (nI s) (nI e) v := by
  by_cases c : e ≤ s
  · rw [lk_wr_e c] at h
    exact ⟨1, br_t (nI_le c hs) h⟩
  · have H : ∀ d x, x + d = e → s ≤ x → wX_fill_3 post (nI e) v xphase xstmtCount xopenOut xopenGroup xoutCount xgroupCount xinCount xbyteCount xrelocCount (d + 1) (nI x) xregionSize xcounter (lk_wr xmemory s x (fun _ => v)) xstmtOp xstmtA xstmtB xstmtOwner xoutRegion xoutLoaded xoutGroup xoutAlign xoutVma xoutLma xoutDot xgroupStart xgroupEnd xgroupResident xinKind xinId xinAlign xinSize xinFirstByte xinStmt xinLive xinVma xfedBytes xrelocOwner xrelocOffset xrelocType xrelocTarget xrelocAddend := by
      intro d
      induction d with
      | zero =>
        intro x hx _
        have e1 : x = e := hx
        subst e1
        exact br_t (nI_le (Nat.le_refl x) (by omega)) h
      | succ d ih =>
        intro x hx hsx
        exact br_f (nI_ge (by omega) (by omega)) ⟨vp_in_nI (by omega) (by omega), nm_r (by rw [nI_clamp (by omega)]; exact lk_wr_s hsx rfl) (nm_r (nI_1 x) (ih (x + 1) (by omega) (by omega)))⟩
    have H2 := H (e - s) s (by omega) (Nat.le_refl s)
    rw [lk_wr_0] at H2
    exact ⟨_, H2⟩
theorem lk_cl (x : Int32) : ∃ n : Nat, 16 ≤ n ∧ n ≤ 128 ∧ ((16 ≤ x ∧ x ≤ 128 ∧ x = nI n) ∨ (16 ≤ x ∧ ¬ x ≤ 128 ∧ n = 128) ∨ (¬ 16 ≤ x ∧ n = 16)) := by
  by_cases h1 : 16 ≤ x
  · by_cases h2 : x ≤ 128
    · have h0 : ¬ x < 0 := Int32.not_lt.mpr (Int32.le_trans (by decide) h1)
      obtain ⟨q, hq, e⟩ := nI_of2 (M := 128) (n := 128) (by decide) h0 h2
      refine ⟨q, ?_, hq, Or.inl ⟨h1, h2, e⟩⟩
      rw [e, show (16 : Int32) = nI 16 from rfl, nI_leI (by omega) (by omega)] at h1
      exact h1
    · exact ⟨128, by omega, by omega, Or.inr (Or.inl ⟨h1, h2, rfl⟩)⟩
  · exact ⟨16, by omega, by omega, Or.inr (Or.inr ⟨h1, rfl⟩)⟩
theorem lx_cl {post : Int32 → Prop} {x : Int32} {n : Nat} (h : (16 ≤ x ∧ x ≤ 128 ∧ x = nI n) ∨ (16 ≤ x ∧ ¬ x ≤ 128 ∧ n = 128) ∨ (¬ 16 ≤ x ∧ n = 16)) (p : post (nI n)) : wpX_clampedSize post () x := by
  rcases h with ⟨h1, h2, e⟩ | ⟨h1, h2, e⟩ | ⟨h1, e⟩
  · rw [← e] at p
    exact br_t h1 (br_t h2 p)
  · rw [e] at p
    exact br_t h1 (br_f h2 p)
  · rw [e] at p
    exact br_f h1 p
def lk_Ai (m : Int32) : Prop := m = 1 ∨ m = 2 ∨ m = 4 ∨ m = 8 ∨ m = 16
theorem lk_Ai_A {m : Int32} (h : lk_Ai m) : ∃ A, lk_A A ∧ m = nI A := by
  rcases h with h | h | h | h | h
  · exact ⟨1, Or.inl rfl, h⟩
  · exact ⟨2, Or.inr (Or.inl rfl), h⟩
  · exact ⟨4, Or.inr (Or.inr (Or.inl rfl)), h⟩
  · exact ⟨8, Or.inr (Or.inr (Or.inr (Or.inl rfl))), h⟩
  · exact ⟨16, Or.inr (Or.inr (Or.inr (Or.inr rfl))), h⟩
theorem lx_isA {post : Int32 → Prop} {m : Int32} (h : lk_Ai m) (p : post 1) : wpX_isAlignment post () m := by
  by_cases h1 : m = 1
  · exact br_t h1 p
  · by_cases h2 : m = 2
    · exact br_f h1 (br_t h2 p)
    · by_cases h3 : m = 4
      · exact br_f h1 (br_f h2 (br_t h3 p))
      · by_cases h4 : m = 8
        · exact br_f h1 (br_f h2 (br_f h3 (br_t h4 p)))
        · have h5 : m = 16 := by
            rcases h with h | h | h | h | h
            · exact absurd h h1
            · exact absurd h h2
            · exact absurd h h3
            · exact absurd h h4
            · exact h
          exact br_f h1 (br_f h2 (br_f h3 (br_f h4 (br_t h5 p))))
theorem lx_nA {post : Int32 → Prop} {m : Int32} (h : ¬ lk_Ai m) (p : post 0) : wpX_isAlignment post () m :=
  br_f (fun z => h (Or.inl z)) (br_f (fun z => h (Or.inr (Or.inl z))) (br_f (fun z => h (Or.inr (Or.inr (Or.inl z)))) (br_f (fun z => h (Or.inr (Or.inr (Or.inr (Or.inl z))))) (br_f (fun z => h (Or.inr (Or.inr (Or.inr (Or.inr z))))) p))))
theorem lk_le2 {x y : Int32} {Z : Nat} (hZ : Z ≤ 256) (hy : y = nI Z) (h0 : ¬ x < 0) (h : x ≤ y - 2) : ∃ f, f + 2 ≤ Z ∧ x = nI f := by
  obtain ⟨f, hf, e⟩ := nI_of h0
  refine ⟨f, ?_, e⟩
  rw [hy, e] at h
  by_cases c : 2 ≤ Z
  · have e2 : nI Z - 2 = nI (Z - 2) := pk_sub (b := 2) c
    rw [e2, nI_leI hf (by omega)] at h
    omega
  · have e2 : nI Z - 2 < 0 := pk_sneg (b := 2) (by omega) (by omega)
    exact absurd (Int32.lt_of_le_of_lt h e2) (nI_pos hf)
theorem lk_01 (x : Int32) : x = 0 ∨ x = 1 ∨ (¬ x = 0 ∧ ¬ x = 1 ∧ x < 0) ∨ (¬ x = 0 ∧ ¬ x = 1 ∧ ¬ x < 0 ∧ 1 < x ∧ ¬ x ≤ 1) := by
  by_cases h0 : x = 0
  · exact Or.inl h0
  by_cases h1 : x = 1
  · exact Or.inr (Or.inl h1)
  by_cases h2 : x < 0
  · exact Or.inr (Or.inr (Or.inl ⟨h0, h1, h2⟩))
  have h3 : ¬ x ≤ 1 := by
    intro h
    obtain ⟨j, hj, e⟩ := nI_of2 (M := 1) (n := 1) (by decide) h2 h
    rcases Nat.le_one_iff_eq_zero_or_eq_one.mp hj with z | z
    · exact h0 (by rw [e, z]; rfl)
    · exact h1 (by rw [e, z]; rfl)
  exact Or.inr (Or.inr (Or.inr ⟨h0, h1, h2, Int32.not_le.mp h3, h3⟩))
theorem lk_19 {x : Int32} (h1 : ¬ x < 1) (h9 : x ≤ 9) : x = 1 ∨ x = 2 ∨ x = 3 ∨ x = 4 ∨ x = 5 ∨ x = 6 ∨ x = 7 ∨ x = 8 ∨ x = 9 := by
  have h0 : ¬ x < 0 := fun h => h1 (Int32.lt_trans h (by decide))
  obtain ⟨j, hj, e⟩ := nI_of2 (M := 9) (n := 9) (by decide) h0 h9
  have hj0 : j ≠ 0 := by
    intro z
    rw [e, z] at h1
    exact h1 (by decide)
  have hc : j = 1 ∨ j = 2 ∨ j = 3 ∨ j = 4 ∨ j = 5 ∨ j = 6 ∨ j = 7 ∨ j = 8 ∨ j = 9 := by omega
  rcases hc with z | z | z | z | z | z | z | z | z <;> subst z
  · exact Or.inl e
  · exact Or.inr (Or.inl e)
  · exact Or.inr (Or.inr (Or.inl e))
  · exact Or.inr (Or.inr (Or.inr (Or.inl e)))
  · exact Or.inr (Or.inr (Or.inr (Or.inr (Or.inl e))))
  · exact Or.inr (Or.inr (Or.inr (Or.inr (Or.inr (Or.inl e)))))
  · exact Or.inr (Or.inr (Or.inr (Or.inr (Or.inr (Or.inr (Or.inl e))))))
  · exact Or.inr (Or.inr (Or.inr (Or.inr (Or.inr (Or.inr (Or.inr (Or.inl e)))))))
  · exact Or.inr (Or.inr (Or.inr (Or.inr (Or.inr (Or.inr (Or.inr (Or.inr e)))))))
end
end
section
section
/-! L: what holds behind the walk -/
def lk_ov (R0 R1 : Nat) (rg ld : Nat → Int32) (V L D : Nat → Nat) (k : Nat) : Bool := decide ((if rg k = 0 then R0 else 256 + R1) < D k ∨ (ld k = 1 ∧ R0 < L k + (D k - V k)))
theorem lk_W_fin {ni : Nat} {rg ld gp : Nat → Int32} {own sz : Nat → Nat} {pl : Nat → Prop} {B n ng R0 R1 : Nat} {C0 C1 : Nat} {V L D G0 GE IV : Nat → Nat} {ct vm lm dt gs ge xv os yg0 yg1 yv yl : Nat → Int32} {c0 c1 g0 yge grp k dot vma lma ing : Int32}
    (h : lk_W ni rg ld own sz pl B n n ng false C0 C1 V L D G0 GE IV ct vm lm dt gs ge xv os yg0 yg1 yv yl c0 c1 g0 yge grp k dot vma lma ing) (hB : B < 2 ^ 30) (ho : ∀ k, k < n → lk_of ng rg ld gp k) (hv : lk_ex (lk_ov R0 R1 rg ld V L D) n 0 = false) :
    (∀ k, k < n → vm k = nI (V k) ∧ lm k = nI (L k) ∧ dt k = nI (D k) ∧ os k = nI (D k - V k) ∧ V k ≤ D k ∧ (rg k = 1 → 256 ≤ V k ∧ D k ≤ 256 + R1) ∧ (rg k = 0 → D k ≤ R0) ∧ (ld k = 1 → L k + (D k - V k) ≤ R0)) ∧
    (∀ g, g < ng → ∃ a b, gs g = nI a ∧ yg0 g = nI a ∧ ge g = nI b ∧ yg1 g = nI b ∧ 256 ≤ a ∧ a ≤ b ∧ b < 2 ^ 30 ∧ (b = a ∨ b ≤ 256 + R1)) := by
  obtain ⟨⟨_, b2, _, _, _, b6, _, _⟩, _, h3, h4, h5, h6, _⟩ := h
  have hk : ∀ k, k < n → (rg k = 1 → 256 ≤ V k ∧ D k ≤ 256 + R1) ∧ (rg k = 0 → D k ≤ R0) ∧ (ld k = 1 → L k + (D k - V k) ≤ R0) := by
    intro k hk
    have hn := lk_ex_no n 0 hv k (Nat.zero_le k) (by omega)
    have hn2 : ¬ ((if rg k = 0 then R0 else 256 + R1) < D k ∨ (ld k = 1 ∧ R0 < L k + (D k - V k))) := fun z => hn (decide_eq_true z)
    refine ⟨fun e => ⟨(b2 k hk).2.2.2.1 e, ?_⟩, fun e => ?_, fun e => ?_⟩
    · rw [e, if_neg (by decide)] at hn2
      have : ¬ 256 + R1 < D k := fun z => hn2 (Or.inl z)
      omega
    · rw [if_pos e] at hn2
      have : ¬ R0 < D k := fun z => hn2 (Or.inl z)
      omega
    · have : ¬ R0 < L k + (D k - V k) := fun z => hn2 (Or.inr ⟨e, z⟩)
      omega
  refine ⟨fun k hkn => ?_, fun g hg => ?_⟩
  · obtain ⟨e1, e2, e3⟩ := h3 k hkn
    exact ⟨e1, e2, e3, h4 k hkn, (b2 k hkn).1, hk k hkn⟩
  · obtain ⟨e1, e2⟩ := h5 g hg
    obtain ⟨e3, e4⟩ := h6 g hg (fun z => absurd z (by decide))
    obtain ⟨d1, d2, d3, d4⟩ := b6 g hg
    refine ⟨G0 g, GE g, e1, e3, e2, e4, d1, d2, by omega, ?_⟩
    rcases d4 with d4 | ⟨k, hkn, er, ed⟩
    · exact Or.inl d4
    · have := ((hk k hkn).1 er).2
      exact Or.inr (by omega)
/-- X's zeroes -/
def lk_I1 (ld : Nat → Int32) (L D V : Nat → Nat) (me : Nat → Int32) (k : Nat) (m : Nat → Int32) : Prop :=
  (∀ q, q < k → ld q = 1 → ∀ o, o < D q - V q → m (L q + o) = 0) ∧
  (∀ j, (∀ q, q < k → ld q = 1 → ¬ (L q ≤ j ∧ j < L q + (D q - V q))) → m j = me j)
theorem lk_I1_0 {ld : Nat → Int32} {L D V : Nat → Nat} {me : Nat → Int32} : lk_I1 ld L D V me 0 me := ⟨fun q h => absurd h (Nat.not_lt_zero q), fun _ _ => rfl⟩
theorem lk_I1_n {ld : Nat → Int32} {L D V : Nat → Nat} {me m : Nat → Int32} {k : Nat} (h : lk_I1 ld L D V me k m) (hn : ¬ ld k = 1) : lk_I1 ld L D V me (k + 1) m := by
  refine ⟨fun q hq e => ?_, fun j hj => h.2 j (fun q hq e => hj q (by omega) e)⟩
  have : q ≠ k := fun z => hn (z ▸ e)
  exact h.1 q (by omega) e
theorem lk_I1_s {ld : Nat → Int32} {L D V : Nat → Nat} {me m : Nat → Int32} {k : Nat} (h : lk_I1 ld L D V me k m) (hl : ld k = 1) : lk_I1 ld L D V me (k + 1) (lk_wr m (L k) (L k + (D k - V k)) (fun _ => 0)) := by
  refine ⟨fun q hq e o ho => ?_, fun j hj => ?_⟩
  · by_cases c : L k ≤ L q + o ∧ L q + o < L k + (D k - V k)
    · rw [lk_wr_t c.1 c.2]
    · rw [lk_wr_f c]
      by_cases eq : q = k
      · subst eq; exact absurd ⟨by omega, by omega⟩ c
      · exact h.1 q (by omega) e o ho
  · rw [lk_wr_f (hj k (by omega) hl)]
    exact h.2 j (fun q hq e => hj q (by omega) e)
/-- Y's ROM while it is written: mf is X's at the end -/
def lk_J (ld : Nat → Int32) (L D V : Nat → Nat) (mf : Nat → Int32) (k : Nat) (rom : Nat → Int32) : Prop :=
  (∀ q, q < k → ld q = 1 → ∀ o, o < D q - V q → rom (L q + o) = mf (L q + o)) ∧
  (∀ j, j < 128 → (∀ q, q < k → ld q = 1 → ¬ (L q ≤ j ∧ j < L q + (D q - V q))) → rom j = 255)
theorem lk_J_0 {ld : Nat → Int32} {L D V : Nat → Nat} {mf rom : Nat → Int32} (h : ∀ j, j < 128 → rom j = 255) : lk_J ld L D V mf 0 rom := ⟨fun q h => absurd h (Nat.not_lt_zero q), fun j hj _ => h j hj⟩
theorem lk_J_n {ld : Nat → Int32} {L D V : Nat → Nat} {mf rom : Nat → Int32} {k : Nat} (h : lk_J ld L D V mf k rom) (hn : ¬ ld k = 1) : lk_J ld L D V mf (k + 1) rom := by
  refine ⟨fun q hq e => ?_, fun j hj hc => h.2 j hj (fun q hq e => hc q (by omega) e)⟩
  have : q ≠ k := fun z => hn (z ▸ e)
  exact h.1 q (by omega) e
theorem lk_J_s {ld : Nat → Int32} {L D V : Nat → Nat} {mf rom F : Nat → Int32} {k : Nat} (h : lk_J ld L D V mf k rom) (hl : ld k = 1) (hF : ∀ o, o < D k - V k → F (L k + o) = mf (L k + o)) : lk_J ld L D V mf (k + 1) (lk_wr rom (L k) (L k + (D k - V k)) F) := by
  refine ⟨fun q hq e o ho => ?_, fun j hj hc => ?_⟩
  · by_cases c : L k ≤ L q + o ∧ L q + o < L k + (D k - V k)
    · rw [lk_wr_t c.1 c.2]
      have g := hF (L q + o - L k) (by omega)
      rw [show L k + (L q + o - L k) = L q + o by omega] at g
      exact g
    · rw [lk_wr_f c]
      by_cases eq : q = k
      · subst eq; exact absurd ⟨by omega, by omega⟩ c
      · exact h.1 q (by omega) e o ho
  · rw [lk_wr_f (hc k (by omega) hl)]
    exact h.2 j hj (fun q hq e => hc q (by omega) e)
end
end
section
section
/-! M: the invariant at statement i -/
def lk_nc (op : Nat → Int32) (i : Nat) : Nat := lk_no op i - (if lk_is op i = true then 1 else 0)
theorem lk_nc_f {op : Nat → Int32} {i : Nat} (h : lk_is op i = false) : lk_nc op i = lk_no op i := by
  unfold lk_nc
  rw [h, if_neg (by decide)]
  exact Nat.sub_zero _
theorem lk_nc_t {op : Nat → Int32} {i : Nat} (h : lk_is op i = true) : lk_no op i = lk_nc op i + 1 := by
  have := lk_is_p i h
  unfold lk_nc
  rw [if_pos h]
  omega
def lk_pl (st lv : Nat → Int32) (i s : Nat) : Prop := lv s = 1 ∧ ∃ q, q < i ∧ st s = nI q
def lk_hA (ni ns : Nat) (op st lv : Nat → Int32) : Prop := ns ≤ 32 ∧ ∀ s, s < ni → lv s = 1 → ∃ q, q < ns ∧ (op q = 3 ∨ op q = 4) ∧ st s = nI q
theorem lk_pl_n {ni ns i : Nat} {op st lv : Nat → Int32} (hA : lk_hA ni ns op st lv) (hi : i < ns) (h : ¬ (op i = 3 ∨ op i = 4)) : ∀ s, s < ni → lk_pl st lv (i + 1) s → lk_pl st lv i s := by
  intro s hs ⟨hl, q, hq, e⟩
  refine ⟨hl, q, ?_, e⟩
  obtain ⟨q', h1, h2, h3⟩ := hA.2 s hs hl
  have h32 := hA.1
  have e2 : q = q' := (nI_eq (by omega) (by omega)).mp (e.symm.trans h3)
  have : q ≠ i := fun z => h (by rw [← z, e2]; exact h2)
  omega
end
section
variable {ni ns i : Nat} {op rg ld st lv : Nat → Int32} {own sz : Nat → Nat} {C0 C1 : Nat} {V L D G0 GE IV : Nat → Nat} {ct vm lm dt gs ge xv os yg0 yg1 yv yl : Nat → Int32} {c0 c1 g0 yge grp k dot vma lma ing : Int32}
def lk_WI (ni : Nat) (op rg ld st lv : Nat → Int32) (own sz : Nat → Nat) (i : Nat) (C0 C1 : Nat) (V L D G0 GE IV : Nat → Nat) (ct vm lm dt gs ge xv os yg0 yg1 yv yl : Nat → Int32) (c0 c1 g0 yge grp k dot vma lma ing : Int32) : Prop :=
  lk_W ni rg ld own sz (lk_pl st lv i) (2000 + 4700 * i) (lk_no op i) (lk_nc op i) (lk_ng op i) (lk_ig op i) C0 C1 V L D G0 GE IV ct vm lm dt gs ge xv os yg0 yg1 yv yl c0 c1 g0 yge grp k dot vma lma ing
/-- at the beginning -/
theorem lk_WI_0 (h0 : ct 0 = 0) (h1 : ct 1 = 256) : lk_WI ni op rg ld st lv own sz 0 0 256 V L D G0 GE IV ct vm lm dt gs ge xv os yg0 yg1 yv yl 0 256 g0 yge (-1) (-1) dot vma lma 0 := by
  refine ⟨lk_G_0 (by omega) (fun s _ p => ?_), ⟨h0, h1, rfl, rfl⟩, fun j h => absurd h (Nat.not_lt_zero j), fun j h => absurd h (Nat.not_lt_zero j), fun j h => absurd h (Nat.not_lt_zero j), fun j h => absurd h (Nat.not_lt_zero j), fun s _ p => ?_, ⟨rfl, (show (-1 : Int32) = nI 0 - 1 by decide), fun z => Bool.noConfusion z⟩, fun z => absurd z (Nat.lt_irrefl 0), fun _ => rfl⟩
  · obtain ⟨_, q, hq, _⟩ := p
    exact absurd hq (Nat.not_lt_zero q)
  · obtain ⟨_, q, hq, _⟩ := p
    exact absurd hq (Nat.not_lt_zero q)
/-- OP_SECTION -/
theorem lk_V_sec {v l : Nat} (h : lk_WI ni op rg ld st lv own sz i C0 C1 V L D G0 GE IV ct vm lm dt gs ge xv os yg0 yg1 yv yl c0 c1 g0 yge grp k dot vma lma ing) (hA : lk_hA ni ns op st lv) (hi : i < ns) (ho : op i = 1) (his : lk_is op i = false)
    (hv : v ≤ 2000 + 4700 * i + 15) (hl : l ≤ 2000 + 4700 * i + 15) (h256 : rg (lk_no op i) = 1 → 256 ≤ v) (hr : rg (lk_no op i) = 0 → l = v) (hc : ld (lk_no op i) = 1 → C0 ≤ l) :
    lk_WI ni op rg ld st lv own sz (i + 1) C0 C1 (lk_up V (lk_no op i) v) (lk_up L (lk_no op i) l) (lk_up D (lk_no op i) v) G0 GE IV ct (upd vm (lk_no op i) (nI v)) (upd lm (lk_no op i) (nI l)) (upd dt (lk_no op i) (nI v)) gs ge xv os yg0 yg1 yv yl c0 c1 g0 yge grp (nI (lk_no op i)) (nI v) (nI v) (nI l) ing := by
  have e1 : lk_no op (i + 1) = lk_no op i + 1 := by rw [lk_no_s, if_pos ho]
  have e2 : lk_nc op (i + 1) = lk_no op i := by
    unfold lk_nc
    rw [e1, lk_is_s, if_pos ho, if_pos rfl]
    omega
  have e3 : lk_ng op (i + 1) = lk_ng op i := by rw [lk_ng_s, ho, if_neg (by decide)]; rfl
  have e4 : lk_ig op (i + 1) = lk_ig op i := by rw [lk_ig_s, ho, if_neg (by decide), if_neg (by decide)]
  unfold lk_WI at h ⊢
  rw [e1, e2, e3, e4]
  rw [lk_nc_f his] at h
  exact lk_W_sec (lk_W_pl h (B' := 2000 + 4700 * (i + 1)) (by omega) (lk_pl_n hA hi (by rw [ho]; decide))) (by omega) (by omega) h256 hr hc
/-- a dot op in the open section -/
theorem lk_V_dot {x : Nat} (h : lk_WI ni op rg ld st lv own sz i C0 C1 V L D G0 GE IV ct vm lm dt gs ge xv os yg0 yg1 yv yl c0 c1 g0 yge grp k dot vma lma ing) (hA : lk_hA ni ns op st lv) (hi : i < ns) (ho : op i = 5 ∨ op i = 6 ∨ op i = 7) (his : lk_is op i = true)
    (hx : D (lk_nc op i) ≤ x) (hx2 : x ≤ D (lk_nc op i) + 1023) :
    lk_WI ni op rg ld st lv own sz (i + 1) C0 C1 V L (lk_up D (lk_nc op i) x) G0 GE IV ct vm lm (upd dt (lk_nc op i) (nI x)) gs ge xv os yg0 yg1 yv yl c0 c1 g0 yge grp k (nI x) vma lma ing := by
  have n1 : ¬ op i = 1 := by rcases ho with e | e | e <;> rw [e] <;> decide
  have n2 : ¬ op i = 2 := by rcases ho with e | e | e <;> rw [e] <;> decide
  have n3 : ¬ (op i = 3 ∨ op i = 4) := by rcases ho with e | e | e <;> rw [e] <;> decide
  have n8 : ¬ op i = 8 := by rcases ho with e | e | e <;> rw [e] <;> decide
  have n9 : ¬ op i = 9 := by rcases ho with e | e | e <;> rw [e] <;> decide
  have e1 : lk_no op (i + 1) = lk_no op i := by rw [lk_no_s, if_neg n1]; rfl
  have e2 : lk_nc op (i + 1) = lk_nc op i := by
    unfold lk_nc
    rw [e1, lk_is_s, if_neg n1, if_neg n2]
  have e3 : lk_ng op (i + 1) = lk_ng op i := by rw [lk_ng_s, if_neg n8]; rfl
  have e4 : lk_ig op (i + 1) = lk_ig op i := by rw [lk_ig_s, if_neg n8, if_neg n9]
  unfold lk_WI at h ⊢
  rw [e1, e2, e3, e4]
  rw [lk_nc_t his] at h ⊢
  exact lk_W_pl (lk_W_dot h (B' := 2000 + 4700 * (i + 1)) hx (by omega)) (Nat.le_refl _) (lk_pl_n hA hi n3)
/-- OP_END -/
theorem lk_V_end {C0' C1' : Nat} {GE' : Nat → Nat} {ct' ge' : Nat → Int32} {c0' c1' yge' : Int32} (h : lk_WI ni op rg ld st lv own sz i C0 C1 V L D G0 GE IV ct vm lm dt gs ge xv os yg0 yg1 yv yl c0 c1 g0 yge grp k dot vma lma ing) (hA : lk_hA ni ns op st lv) (hi : i < ns) (ho : op i = 2) (his : lk_is op i = true)
    (h0 : C0' ≤ 2000 + 4700 * i) (h0' : C0 ≤ C0') (hl : ld (lk_nc op i) = 1 → L (lk_nc op i) + (D (lk_nc op i) - V (lk_nc op i)) ≤ C0') (h1 : C1' ≤ 2000 + 4700 * i) (h1' : 256 ≤ C1')
    (hg : ∀ g, g < lk_ng op i → GE' g = GE g ∨ (rg (lk_nc op i) = 1 ∧ GE' g = D (lk_nc op i) ∧ GE g ≤ D (lk_nc op i)))
    (hct : ct' 0 = nI C0' ∧ ct' 1 = nI C1' ∧ c0' = nI C0' ∧ c1' = nI C1')
    (hge : ∀ g, g < lk_ng op i → ge' g = nI (GE' g))
    (hyg : ∀ g, g < lk_ng op i → (lk_ig op i = true → g + 1 < lk_ng op i) → GE' g = GE g)
    (hye : lk_ig op i = true → yge' = nI (GE' (lk_ng op i - 1))) :
    lk_WI ni op rg ld st lv own sz (i + 1) C0' C1' V L D G0 GE' IV ct' vm lm dt gs ge' xv (upd os (lk_nc op i) (nI (D (lk_nc op i) - V (lk_nc op i)))) yg0 yg1 yv yl c0' c1' g0 yge' grp (-1) dot vma lma ing := by
  have e1 : lk_no op (i + 1) = lk_no op i := by rw [lk_no_s, ho, if_neg (by decide)]; rfl
  have e2 : lk_nc op (i + 1) = lk_no op i := by
    rw [lk_nc_f, e1]
    rw [lk_is_s, ho, if_neg (by decide), if_pos rfl]
  have e3 : lk_ng op (i + 1) = lk_ng op i := by rw [lk_ng_s, ho, if_neg (by decide)]; rfl
  have e4 : lk_ig op (i + 1) = lk_ig op i := by rw [lk_ig_s, ho, if_neg (by decide), if_neg (by decide)]
  unfold lk_WI at h ⊢
  rw [e1, e2, e3, e4]
  rw [lk_nc_t his] at h ⊢
  exact lk_W_pl (lk_W_end h h0 h0' hl h1 h1' hg hct hge hyg hye) (by omega) (lk_pl_n hA hi (by rw [ho]; decide))
/-- a counter op outside -/
theorem lk_V_cnt {C0' C1' : Nat} {ct' : Nat → Int32} {c0' c1' : Int32} (h : lk_WI ni op rg ld st lv own sz i C0 C1 V L D G0 GE IV ct vm lm dt gs ge xv os yg0 yg1 yv yl c0 c1 g0 yge grp k dot vma lma ing) (hA : lk_hA ni ns op st lv) (hi : i < ns) (ho : op i = 5 ∨ op i = 6 ∨ op i = 7) (his : lk_is op i = false)
    (h0 : C0' ≤ 2000 + 4700 * i + 1023) (h0' : C0 ≤ C0') (h1 : C1' ≤ 2000 + 4700 * i + 1023) (h1' : 256 ≤ C1')
    (hct : ct' 0 = nI C0' ∧ ct' 1 = nI C1' ∧ c0' = nI C0' ∧ c1' = nI C1') :
    lk_WI ni op rg ld st lv own sz (i + 1) C0' C1' V L D G0 GE IV ct' vm lm dt gs ge xv os yg0 yg1 yv yl c0' c1' g0 yge grp k dot vma lma ing := by
  have n1 : ¬ op i = 1 := by rcases ho with e | e | e <;> rw [e] <;> decide
  have n2 : ¬ op i = 2 := by rcases ho with e | e | e <;> rw [e] <;> decide
  have n3 : ¬ (op i = 3 ∨ op i = 4) := by rcases ho with e | e | e <;> rw [e] <;> decide
  have n8 : ¬ op i = 8 := by rcases ho with e | e | e <;> rw [e] <;> decide
  have n9 : ¬ op i = 9 := by rcases ho with e | e | e <;> rw [e] <;> decide
  have e1 : lk_no op (i + 1) = lk_no op i := by rw [lk_no_s, if_neg n1]; rfl
  have e2 : lk_nc op (i + 1) = lk_no op i := by
    rw [lk_nc_f, e1]
    rw [lk_is_s, if_neg n1, if_neg n2]; exact his
  have e3 : lk_ng op (i + 1) = lk_ng op i := by rw [lk_ng_s, if_neg n8]; rfl
  have e4 : lk_ig op (i + 1) = lk_ig op i := by rw [lk_ig_s, if_neg n8, if_neg n9]
  unfold lk_WI at h ⊢
  rw [e1, e2, e3, e4]
  rw [lk_nc_f his] at h
  exact lk_W_pl (lk_W_cnt h (B' := 2000 + 4700 * (i + 1)) (by omega) (by omega) h0' (by omega) h1' hct) (Nat.le_refl _) (lk_pl_n hA hi n3)
/-- OP_OVERLAY -/
theorem lk_V_ovl (h : lk_WI ni op rg ld st lv own sz i C0 C1 V L D G0 GE IV ct vm lm dt gs ge xv os yg0 yg1 yv yl c0 c1 g0 yge grp k dot vma lma ing) (hA : lk_hA ni ns op st lv) (hi : i < ns) (ho : op i = 8) (his : lk_is op i = false) (hig : lk_ig op i = false) :
    lk_WI ni op rg ld st lv own sz (i + 1) C0 C1 V L D (lk_up G0 (lk_ng op i) C1) (lk_up GE (lk_ng op i) C1) IV ct vm lm dt (upd gs (lk_ng op i) (nI C1)) (upd ge (lk_ng op i) (nI C1)) xv os yg0 yg1 yv yl c0 c1 (nI C1) (nI C1) (nI (lk_ng op i)) k dot vma lma 1 := by
  have e1 : lk_no op (i + 1) = lk_no op i := by rw [lk_no_s, ho, if_neg (by decide)]; rfl
  have e2 : lk_nc op (i + 1) = lk_no op i := by
    rw [lk_nc_f, e1]
    rw [lk_is_s, ho, if_neg (by decide), if_neg (by decide)]; exact his
  have e3 : lk_ng op (i + 1) = lk_ng op i + 1 := by rw [lk_ng_s, ho, if_pos rfl]
  have e4 : lk_ig op (i + 1) = true := by rw [lk_ig_s, ho, if_pos rfl]
  unfold lk_WI at h ⊢
  rw [e1, e2, e3, e4]
  rw [lk_nc_f his, hig] at h
  exact lk_W_pl (lk_W_ovl h) (by omega) (lk_pl_n hA hi (by rw [ho]; decide))
/-- OP_OVERLAY_END -/
theorem lk_V_ove {g : Nat} (h : lk_WI ni op rg ld st lv own sz i C0 C1 V L D G0 GE IV ct vm lm dt gs ge xv os yg0 yg1 yv yl c0 c1 g0 yge grp k dot vma lma ing) (hA : lk_hA ni ns op st lv) (hi : i < ns) (ho : op i = 9) (his : lk_is op i = false) (hig : lk_ig op i = true) (hg : lk_ng op i = g + 1) :
    lk_WI ni op rg ld st lv own sz (i + 1) C0 (GE g) V L D G0 GE IV (upd ct 1 (nI (GE g))) vm lm dt gs ge xv os (upd yg0 g g0) (upd yg1 g yge) yv yl c0 yge g0 yge grp k dot vma lma 0 := by
  have e1 : lk_no op (i + 1) = lk_no op i := by rw [lk_no_s, ho, if_neg (by decide)]; rfl
  have e2 : lk_nc op (i + 1) = lk_no op i := by
    rw [lk_nc_f, e1]
    rw [lk_is_s, ho, if_neg (by decide), if_neg (by decide)]; exact his
  have e3 : lk_ng op (i + 1) = lk_ng op i := by rw [lk_ng_s, ho, if_neg (by decide)]; rfl
  have e4 : lk_ig op (i + 1) = false := by rw [lk_ig_s, ho, if_neg (by decide), if_pos rfl]
  unfold lk_WI at h ⊢
  rw [e1, e2, e3, e4]
  rw [lk_nc_f his, hig, hg] at h
  rw [hg]
  exact lk_W_pl (lk_W_ove h) (by omega) (lk_pl_n hA hi (by rw [ho]; decide))
/-- inside OP_INPUT, OP_KEEP: the sections below t are through -/
def lk_pp (st lv : Nat → Int32) (i t s : Nat) : Prop := lk_pl st lv i s ∨ (lv s = 1 ∧ st s = nI i ∧ s < t)
def lk_WP (ni : Nat) (op rg ld st lv : Nat → Int32) (own sz : Nat → Nat) (i t : Nat) (C0 C1 : Nat) (V L D G0 GE IV : Nat → Nat) (ct vm lm dt gs ge xv os yg0 yg1 yv yl : Nat → Int32) (c0 c1 g0 yge grp k dot vma lma ing : Int32) : Prop :=
  lk_W ni rg ld own sz (lk_pp st lv i t) (2000 + 4700 * i + 271 * t) (lk_nc op i + 1) (lk_nc op i) (lk_ng op i) (lk_ig op i) C0 C1 V L D G0 GE IV ct vm lm dt gs ge xv os yg0 yg1 yv yl c0 c1 g0 yge grp k dot vma lma ing
theorem lk_WP_0 (h : lk_WI ni op rg ld st lv own sz i C0 C1 V L D G0 GE IV ct vm lm dt gs ge xv os yg0 yg1 yv yl c0 c1 g0 yge grp k dot vma lma ing) (his : lk_is op i = true) :
    lk_WP ni op rg ld st lv own sz i 0 C0 C1 V L D G0 GE IV ct vm lm dt gs ge xv os yg0 yg1 yv yl c0 c1 g0 yge grp k dot vma lma ing := by
  unfold lk_WI at h
  unfold lk_WP
  rw [lk_nc_t his] at h
  exact lk_W_pl h (by omega) (fun s _ p => p.elim id (fun z => absurd z.2.2 (Nat.not_lt_zero s)))
theorem lk_WP_n {t : Nat} (h : lk_WP ni op rg ld st lv own sz i t C0 C1 V L D G0 GE IV ct vm lm dt gs ge xv os yg0 yg1 yv yl c0 c1 g0 yge grp k dot vma lma ing) (hn : ¬ (lv t = 1 ∧ st t = nI i)) :
    lk_WP ni op rg ld st lv own sz i (t + 1) C0 C1 V L D G0 GE IV ct vm lm dt gs ge xv os yg0 yg1 yv yl c0 c1 g0 yge grp k dot vma lma ing := by
  refine lk_W_pl h (by omega) (fun s _ p => p.elim Or.inl (fun z => Or.inr ⟨z.1, z.2.1, ?_⟩))
  have h1 := z.2.2
  have : s ≠ t := fun e => hn ⟨e ▸ z.1, e ▸ z.2.1⟩
  omega
theorem lk_WP_s {t x : Nat} (h : lk_WP ni op rg ld st lv own sz i t C0 C1 V L D G0 GE IV ct vm lm dt gs ge xv os yg0 yg1 yv yl c0 c1 g0 yge grp k dot vma lma ing) (hi : i < 2 ^ 31) (hs : st t = nI i) (ho : own t = lk_nc op i) (hx : D (lk_nc op i) ≤ x) (hx2 : x ≤ D (lk_nc op i) + 15) (hz : sz t ≤ 256) :
    lk_WP ni op rg ld st lv own sz i (t + 1) C0 C1 V L (lk_up D (lk_nc op i) (x + sz t)) G0 GE (lk_up IV t x) ct vm lm (upd dt (lk_nc op i) (nI (x + sz t))) gs ge (upd xv t (nI x)) os yg0 yg1 (upd yv t (nI x)) (upd yl t (nI x + (lma - vma))) c0 c1 g0 yge grp k (nI (x + sz t)) vma lma ing := by
  have hq : ¬ lk_pp st lv i t t := by
    intro z
    rcases z with ⟨_, q, hq, e⟩ | z
    · have := (nI_eq (by omega) hi).mp (e.symm.trans hs)
      omega
    · exact absurd z.2.2 (Nat.lt_irrefl t)
  refine lk_W_pl (lk_W_put h hq ho hx (B' := 2000 + 4700 * i + 271 * (t + 1)) (by omega)) (Nat.le_refl _) (fun s _ p => ?_)
  rcases p with p | ⟨p1, p2, p3⟩
  · exact Or.inl (Or.inl p)
  · by_cases e : s = t
    · exact Or.inr e
    · exact Or.inl (Or.inr ⟨p1, p2, by omega⟩)
theorem lk_WP_e (h : lk_WP ni op rg ld st lv own sz i ni C0 C1 V L D G0 GE IV ct vm lm dt gs ge xv os yg0 yg1 yv yl c0 c1 g0 yge grp k dot vma lma ing) (hn : ni ≤ 16) (ho : op i = 3 ∨ op i = 4) (his : lk_is op i = true) :
    lk_WI ni op rg ld st lv own sz (i + 1) C0 C1 V L D G0 GE IV ct vm lm dt gs ge xv os yg0 yg1 yv yl c0 c1 g0 yge grp k dot vma lma ing := by
  have n1 : ¬ op i = 1 := by rcases ho with e | e <;> rw [e] <;> decide
  have n2 : ¬ op i = 2 := by rcases ho with e | e <;> rw [e] <;> decide
  have n8 : ¬ op i = 8 := by rcases ho with e | e <;> rw [e] <;> decide
  have n9 : ¬ op i = 9 := by rcases ho with e | e <;> rw [e] <;> decide
  have e1 : lk_no op (i + 1) = lk_no op i := by rw [lk_no_s, if_neg n1]; rfl
  have e2 : lk_nc op (i + 1) = lk_nc op i := by
    unfold lk_nc
    rw [e1, lk_is_s, if_neg n1, if_neg n2]
  have e3 : lk_ng op (i + 1) = lk_ng op i := by rw [lk_ng_s, if_neg n8]; rfl
  have e4 : lk_ig op (i + 1) = lk_ig op i := by rw [lk_ig_s, if_neg n8, if_neg n9]
  unfold lk_WP at h
  unfold lk_WI
  rw [e1, e2, e3, e4, lk_nc_t his]
  refine lk_W_pl h (by omega) (fun s hs p => ?_)
  obtain ⟨p1, q, hq, e⟩ := p
  by_cases z : q = i
  · exact Or.inr ⟨p1, z ▸ e, hs⟩
  · exact Or.inl ⟨p1, q, by omega, e⟩
end
end
section
section
/-! run addresses never meet. n begun, nc closed, ng groups begun, ig: a group runs -/
def lk_G2 (rg gp : Nat → Int32) (n nc ng : Nat) (ig : Bool) (C1 : Nat) (V D G0 GE : Nat → Nat) : Prop :=
  (∀ k, k < nc → rg k = 1 → gp k = -1 → D k ≤ C1) ∧
  (∀ k g, k < n → g < ng → rg k = 1 → gp k = nI g → G0 g ≤ V k ∧ (k < nc → D k ≤ GE g)) ∧
  (∀ g, g < ng → (ig = true → g + 1 < ng) → GE g ≤ C1) ∧
  (ig = true → 1 ≤ ng ∧ G0 (ng - 1) = C1) ∧
  (∀ g, g < ng → G0 g ≤ GE g) ∧
  (∀ g h, g < h → h < ng → GE g ≤ G0 h) ∧
  (∀ j k, j < k → k < n → rg j = 1 → rg k = 1 → (gp j = -1 ∨ ¬ gp j = gp k) → D j ≤ V k) ∧
  (∀ k g, k < n → g < ng → rg k = 1 → gp k = -1 → (k < nc ∧ D k ≤ G0 g) ∨ GE g ≤ V k) ∧
  (nc < n → rg nc = 1 → C1 ≤ V nc)
theorem lk_G2_0 {rg gp : Nat → Int32} {V D G0 GE : Nat → Nat} : lk_G2 rg gp 0 0 0 false 256 V D G0 GE :=
  ⟨fun k h => absurd h (Nat.not_lt_zero k), fun k _ h => absurd h (Nat.not_lt_zero k), fun g h => absurd h (Nat.not_lt_zero g), fun z => Bool.noConfusion z, fun g h => absurd h (Nat.not_lt_zero g), fun _ h _ z => absurd z (Nat.not_lt_zero h), fun _ k _ z => absurd z (Nat.not_lt_zero k), fun k _ h => absurd h (Nat.not_lt_zero k), fun z => absurd z (Nat.lt_irrefl 0)⟩
theorem lk_G2_sec {rg gp : Nat → Int32} {n ng v : Nat} {ig : Bool} {C1 : Nat} {V D G0 GE : Nat → Nat} (h : lk_G2 rg gp n n ng ig C1 V D G0 GE) (hng : ng < 2 ^ 31)
    (hgp : gp n = if ig = true then nI (ng - 1) else -1) (hof : ∀ k, k < n → rg k = 1 → gp k = -1 ∨ ∃ g, g < ng ∧ gp k = nI g) (hv : rg n = 1 → C1 ≤ v) :
    lk_G2 rg gp (n + 1) n ng ig C1 (lk_up V n v) (lk_up D n v) G0 GE := by
  obtain ⟨h1, h2, h3, h4, h5, h6, h7, h8, h9⟩ := h
  refine ⟨fun k hk => ?_, fun k g hk hg r e => ?_, h3, h4, h5, h6, fun j k hjk hk r1 r2 hne => ?_, fun k g hk hg r e => ?_, fun _ r => ?_⟩
  · rw [lk_upn (show k ≠ n by omega)]
    exact h1 k hk
  · by_cases c : k = n
    · subst c
      rw [lk_ups]
      refine ⟨?_, fun z => absurd z (Nat.lt_irrefl k)⟩
      rcases Bool.eq_false_or_eq_true ig with z | z
      · rw [hgp, if_pos z] at e
        obtain ⟨p1, p2⟩ := h4 z
        have eg : ng - 1 = g := (nI_eq (by omega) (by omega)).mp e
        rw [← eg, p2]
        exact hv r
      · rw [hgp, z, if_neg (by decide)] at e
        exact absurd e.symm (lk_nn1 (by omega))
    · rw [lk_upn c, lk_upn c]
      exact h2 k g (by omega) hg r e
  · have cj : j ≠ n := by omega
    rw [lk_upn cj]
    by_cases c : k = n
    · subst c
      rw [lk_ups]
      refine Nat.le_trans ?_ (hv r2)
      rcases hof j (by omega) r1 with z | ⟨g, hg, z⟩
      · exact h1 j (by omega) r1 z
      · refine Nat.le_trans ((h2 j g (by omega) hg r1 z).2 (by omega)) (h3 g hg (fun y => ?_))
        rw [hgp, if_pos y, z] at hne
        have nz : ¬ nI g = -1 := lk_nn1 (by omega)
        have : g ≠ ng - 1 := fun w => (hne.resolve_left nz) (by rw [w])
        omega
    · rw [lk_upn c]
      exact h7 j k hjk (by omega) r1 r2 hne
  · by_cases c : k = n
    · subst c
      rw [lk_ups, lk_ups]
      refine Or.inr (Nat.le_trans (h3 g hg (fun y => ?_)) (hv r))
      rw [hgp, if_pos y] at e
      exact absurd e (lk_nn1 (by omega))
    · rw [lk_upn c, lk_upn c]
      exact h8 k g (by omega) hg r e
  · rw [lk_ups]
    exact hv r
theorem lk_G2_D {rg gp : Nat → Int32} {nc ng : Nat} {ig : Bool} {C1 : Nat} {V D D' G0 GE : Nat → Nat} (h : lk_G2 rg gp (nc + 1) nc ng ig C1 V D G0 GE) (hD : ∀ k, k ≠ nc → D' k = D k) : lk_G2 rg gp (nc + 1) nc ng ig C1 V D' G0 GE := by
  obtain ⟨h1, h2, h3, h4, h5, h6, h7, h8, h9⟩ := h
  refine ⟨fun k hk => ?_, fun k g hk hg r e => ⟨(h2 k g hk hg r e).1, fun z => ?_⟩, h3, h4, h5, h6, fun j k hjk hk r1 r2 hne => ?_, fun k g hk hg r e => ?_, h9⟩
  · rw [hD k (by omega)]
    exact h1 k hk
  · rw [hD k (by omega)]
    exact (h2 k g hk hg r e).2 z
  · rw [hD j (by omega)]
    exact h7 j k hjk hk r1 r2 hne
  · rcases h8 k g hk hg r e with ⟨z1, z2⟩ | z
    · refine Or.inl ⟨z1, ?_⟩
      rw [hD k (by omega)]
      exact z2
    · exact Or.inr z
/-- OP_END of a ROM section -/
theorem lk_G2_e0 {rg gp : Nat → Int32} {nc ng : Nat} {ig : Bool} {C1 : Nat} {V D G0 GE : Nat → Nat} (h : lk_G2 rg gp (nc + 1) nc ng ig C1 V D G0 GE) (hr : rg nc = 0) : lk_G2 rg gp (nc + 1) (nc + 1) ng ig C1 V D G0 GE := by
  obtain ⟨h1, h2, h3, h4, h5, h6, h7, h8, h9⟩ := h
  have ne : ∀ k, rg k = 1 → k ≠ nc := by
    intro k r z
    rw [z, hr] at r
    exact absurd r (by decide)
  refine ⟨fun k hk r e => h1 k (by have := ne k r; omega) r e, fun k g hk hg r e => ⟨(h2 k g hk hg r e).1, fun _ => (h2 k g hk hg r e).2 (by have := ne k r; omega)⟩, h3, h4, h5, h6, h7, fun k g hk hg r e => ?_, fun z => absurd z (Nat.lt_irrefl _)⟩
  rcases h8 k g hk hg r e with ⟨z1, z2⟩ | z
  · exact Or.inl ⟨by omega, z2⟩
  · exact Or.inr z
/-- OP_END of a RAM section outside a group -/
theorem lk_G2_e1 {rg gp : Nat → Int32} {nc ng : Nat} {C1 : Nat} {V D G0 GE : Nat → Nat} (h : lk_G2 rg gp (nc + 1) nc ng false C1 V D G0 GE) (hr : rg nc = 1) (hg : gp nc = -1) (hng : ng < 2 ^ 31) (hvd : V nc ≤ D nc) : lk_G2 rg gp (nc + 1) (nc + 1) ng false (D nc) V D G0 GE := by
  obtain ⟨h1, h2, h3, h4, h5, h6, h7, h8, h9⟩ := h
  have h10 := h9 (by omega) hr
  refine ⟨fun k hk r e => ?_, fun k g hk hgn r e => ⟨(h2 k g hk hgn r e).1, fun _ => (h2 k g hk hgn r e).2 ?_⟩, fun g hgn z => Nat.le_trans (h3 g hgn z) (by omega), fun z => Bool.noConfusion z, h5, h6, h7, fun k g hk hgn r e => ?_, fun z => absurd z (Nat.lt_irrefl _)⟩
  · by_cases c : k = nc
    · subst c; exact Nat.le_refl _
    · have := h1 k (by omega) r e
      omega
  · have : k ≠ nc := by
      intro z
      rw [z, hg] at e
      exact absurd e.symm (lk_nn1 (by omega))
    omega
  · rcases h8 k g hk hgn r e with ⟨z1, z2⟩ | z
    · exact Or.inl ⟨by omega, z2⟩
    · exact Or.inr z
/-- OP_END of a member of the running group gs -/
theorem lk_G2_e2 {rg gp : Nat → Int32} {nc gs : Nat} {C1 : Nat} {V D G0 GE GE' : Nat → Nat} (h : lk_G2 rg gp (nc + 1) nc (gs + 1) true C1 V D G0 GE) (hr : rg nc = 1) (hg : gp nc = nI gs) (hgs : gs + 1 < 2 ^ 31) (h1' : ∀ g, g < gs → GE' g = GE g) (h2' : GE gs ≤ GE' gs) (h3' : D nc ≤ GE' gs) : lk_G2 rg gp (nc + 1) (nc + 1) (gs + 1) true C1 V D G0 GE' := by
  obtain ⟨h1, h2, h3, h4, h5, h6, h7, h8, h9⟩ := h
  have h4' := (h4 rfl).2
  rw [Nat.add_sub_cancel] at h4'
  have nu : ∀ k, gp k = -1 → k ≠ nc := by
    intro k e z
    rw [z, hg] at e
    exact lk_nn1 (by omega) e
  refine ⟨fun k hk r e => h1 k (by have := nu k e; omega) r e, fun k g hk hgn r e => ⟨(h2 k g hk hgn r e).1, fun hk2 => ?_⟩, fun g hgn z => ?_, fun _ => h4 rfl, fun g hgn => ?_, fun g hh hgh hhn => ?_, h7, fun k g hk hgn r e => ?_, fun z => absurd z (Nat.lt_irrefl _)⟩
  · by_cases c : g = gs
    · subst c
      by_cases ck : k = nc
      · subst ck; exact h3'
      · exact Nat.le_trans ((h2 k g hk hgn r e).2 (by omega)) h2'
    · rw [h1' g (by omega)]
      have ck : k ≠ nc := by
        intro z
        rw [z, hg] at e
        exact c ((nI_eq (by omega) (by omega)).mp e).symm
      exact (h2 k g hk hgn r e).2 (by omega)
  · have := z rfl
    rw [h1' g (by omega)]
    exact h3 g hgn z
  · by_cases c : g = gs
    · subst c
      exact Nat.le_trans (h5 g hgn) h2'
    · rw [h1' g (by omega)]
      exact h5 g hgn
  · rw [h1' g (by omega)]
    exact h6 g hh hgh hhn
  · by_cases c : g = gs
    · subst c
      refine Or.inl ⟨by have := nu k e; omega, ?_⟩
      rw [h4']
      exact h1 k (by have := nu k e; omega) r e
    · rw [h1' g (by omega)]
      rcases h8 k g hk hgn r e with ⟨z1, z2⟩ | z
      · exact Or.inl ⟨by omega, z2⟩
      · exact Or.inr z
theorem lk_G2_cnt {rg gp : Nat → Int32} {n ng : Nat} {C1 C1' : Nat} {V D G0 GE : Nat → Nat} (h : lk_G2 rg gp n n ng false C1 V D G0 GE) (hc : C1 ≤ C1') : lk_G2 rg gp n n ng false C1' V D G0 GE := by
  obtain ⟨h1, h2, h3, h4, h5, h6, h7, h8, h9⟩ := h
  exact ⟨fun k hk r e => Nat.le_trans (h1 k hk r e) hc, h2, fun g hg z => Nat.le_trans (h3 g hg z) hc, fun z => Bool.noConfusion z, h5, h6, h7, h8, fun z => absurd z (Nat.lt_irrefl _)⟩
theorem lk_G2_ovl {rg gp : Nat → Int32} {n ng : Nat} {C1 : Nat} {V D G0 GE : Nat → Nat} (h : lk_G2 rg gp n n ng false C1 V D G0 GE) (hng : ng < 2 ^ 30) (hof : ∀ k, k < n → rg k = 1 → gp k = -1 ∨ ∃ g, g < ng ∧ gp k = nI g) : lk_G2 rg gp n n (ng + 1) true C1 V D (lk_up G0 ng C1) (lk_up GE ng C1) := by
  obtain ⟨h1, h2, h3, h4, h5, h6, h7, h8, h9⟩ := h
  have h3' : ∀ g, g < ng → GE g ≤ C1 := fun g hg => h3 g hg (fun z => Bool.noConfusion z)
  refine ⟨h1, fun k g hk hg r e => ?_, fun g hg z => ?_, fun _ => ⟨by omega, by rw [Nat.add_sub_cancel, lk_ups]⟩, fun g hg => ?_, fun g hh hgh hhn => ?_, h7, fun k g hk hg r e => ?_, fun z => absurd z (Nat.lt_irrefl _)⟩
  · have c : g ≠ ng := by
      intro z
      rcases hof k hk r with y | ⟨q, hq, y⟩
      · rw [y] at e
        exact lk_nn1 (by omega) e.symm
      · rw [y] at e
        have := (nI_eq (by omega) (by omega)).mp e
        omega
    rw [lk_upn c, lk_upn c]
    exact h2 k g hk (by omega) r e
  · have := z rfl
    rw [lk_upn (show g ≠ ng by omega)]
    exact h3' g (by omega)
  · by_cases c : g = ng
    · subst c; rw [lk_ups, lk_ups]; exact Nat.le_refl _
    · rw [lk_upn c, lk_upn c]; exact h5 g (by omega)
  · rw [lk_upn (show g ≠ ng by omega)]
    by_cases c : hh = ng
    · subst c; rw [lk_ups]; exact h3' g (by omega)
    · rw [lk_upn c]; exact h6 g hh hgh (by omega)
  · by_cases c : g = ng
    · subst c
      rw [lk_ups]
      exact Or.inl ⟨hk, h1 k hk r e⟩
    · rw [lk_upn c, lk_upn c]
      exact h8 k g hk (by omega) r e
theorem lk_G2_ove {rg gp : Nat → Int32} {n gs : Nat} {C1 : Nat} {V D G0 GE : Nat → Nat} (h : lk_G2 rg gp n n (gs + 1) true C1 V D G0 GE) : lk_G2 rg gp n n (gs + 1) false (GE gs) V D G0 GE := by
  obtain ⟨h1, h2, h3, h4, h5, h6, h7, h8, h9⟩ := h
  have h4' := (h4 rfl).2
  rw [Nat.add_sub_cancel] at h4'
  have hle : C1 ≤ GE gs := by
    rw [← h4']
    exact h5 gs (by omega)
  refine ⟨fun k hk r e => Nat.le_trans (h1 k hk r e) hle, h2, fun g hg _ => ?_, fun z => Bool.noConfusion z, h5, h6, h7, h8, fun z => absurd z (Nat.lt_irrefl _)⟩
  by_cases c : g = gs
  · subst c; exact Nat.le_refl _
  · exact Nat.le_trans (h3 g hg (fun _ => by omega)) hle
end
end
section
section
/-! the run addresses at statement i -/
theorem lk_S_oi {op sa sb ox oy rg ld gp : Nat → Int32} {ns : Nat} (h : ∀ i, i < ns → lk_sc op sa sb ox oy rg ld gp i) : ∀ n, n ≤ ns → ∀ k, k < lk_no op n → rg k = 1 → gp k = -1 ∨ ∃ g, g < lk_ng op n ∧ gp k = nI g := by
  intro n
  induction n with
  | zero => intro _ k hk; exact absurd hk (Nat.not_lt_zero k)
  | succ n ih =>
    intro hn k hk r
    have mono : lk_ng op n ≤ lk_ng op (n + 1) := by rw [lk_ng_s]; omega
    by_cases c : k < lk_no op n
    · rcases ih (by omega) k c r with z | ⟨g, hg, z⟩
      · exact Or.inl z
      · exact Or.inr ⟨g, by omega, z⟩
    · rw [lk_no_s] at hk
      by_cases h1 : op n = 1
      · rw [if_pos h1] at hk
        have ek : k = lk_no op n := by omega
        subst ek
        rcases h n (by omega) with ⟨_, _, _, _, _, _, _, e3⟩ | ⟨h2, _⟩ | ⟨h2, _⟩ | ⟨h2, _⟩ | ⟨h2, _⟩
        · rw [e3]
          by_cases hg : lk_ig op n = true
          · rw [if_pos hg]
            have g1 := lk_ig_p n hg
            exact Or.inr ⟨_, by omega, rfl⟩
          · rw [if_neg hg]
            exact Or.inl rfl
        · rw [h1] at h2; exact absurd h2 (by decide)
        · rw [h1] at h2; exact absurd h2 (by decide)
        · rw [h1] at h2; exact absurd h2 (by decide)
        · rw [h1] at h2; exact absurd h2 (by decide)
      · rw [if_neg h1] at hk
        exact absurd hk c
section
variable {i : Nat} {op rg gp : Nat → Int32} {C1 : Nat} {V D G0 GE : Nat → Nat}
def lk_U (op rg gp : Nat → Int32) (i C1 : Nat) (V D G0 GE : Nat → Nat) : Prop := lk_G2 rg gp (lk_no op i) (lk_nc op i) (lk_ng op i) (lk_ig op i) C1 V D G0 GE
theorem lk_U_sec {v : Nat} (h : lk_U op rg gp i C1 V D G0 GE) (ho : op i = 1) (his : lk_is op i = false) (hng : lk_ng op i < 2 ^ 31) (hgp : gp (lk_no op i) = if lk_ig op i = true then nI (lk_ng op i - 1) else -1) (hof : ∀ k, k < lk_no op i → rg k = 1 → gp k = -1 ∨ ∃ g, g < lk_ng op i ∧ gp k = nI g) (hv : rg (lk_no op i) = 1 → C1 ≤ v) : lk_U op rg gp (i + 1) C1 (lk_up V (lk_no op i) v) (lk_up D (lk_no op i) v) G0 GE := by
  have e1 : lk_no op (i + 1) = lk_no op i + 1 := by rw [lk_no_s, if_pos ho]
  have e2 : lk_nc op (i + 1) = lk_no op i := by
    unfold lk_nc
    rw [e1, lk_is_s, if_pos ho, if_pos rfl]
    omega
  have e3 : lk_ng op (i + 1) = lk_ng op i := by rw [lk_ng_s, ho, if_neg (by decide)]; rfl
  have e4 : lk_ig op (i + 1) = lk_ig op i := by rw [lk_ig_s, ho, if_neg (by decide), if_neg (by decide)]
  unfold lk_U at h ⊢
  rw [e1, e2, e3, e4]
  rw [lk_nc_f his] at h
  exact lk_G2_sec h hng hgp hof hv
theorem lk_U_D {D' : Nat → Nat} (h : lk_U op rg gp i C1 V D G0 GE) (ho : op i = 3 ∨ op i = 4 ∨ op i = 5 ∨ op i = 6 ∨ op i = 7) (his : lk_is op i = true) (hD : ∀ k, k ≠ lk_nc op i → D' k = D k) : lk_U op rg gp (i + 1) C1 V D' G0 GE := by
  have n1 : ¬ op i = 1 := by rcases ho with e | e | e | e | e <;> rw [e] <;> decide
  have n2 : ¬ op i = 2 := by rcases ho with e | e | e | e | e <;> rw [e] <;> decide
  have n8 : ¬ op i = 8 := by rcases ho with e | e | e | e | e <;> rw [e] <;> decide
  have n9 : ¬ op i = 9 := by rcases ho with e | e | e | e | e <;> rw [e] <;> decide
  have e1 : lk_no op (i + 1) = lk_no op i := by rw [lk_no_s, if_neg n1]; rfl
  have e2 : lk_nc op (i + 1) = lk_nc op i := by
    unfold lk_nc
    rw [e1, lk_is_s, if_neg n1, if_neg n2]
  have e3 : lk_ng op (i + 1) = lk_ng op i := by rw [lk_ng_s, if_neg n8]; rfl
  have e4 : lk_ig op (i + 1) = lk_ig op i := by rw [lk_ig_s, if_neg n8, if_neg n9]
  unfold lk_U at h ⊢
  rw [e1, e2, e3, e4]
  rw [lk_nc_t his] at h ⊢
  exact lk_G2_D h hD
theorem lk_U_end {C1' : Nat} {GE' : Nat → Nat} (ho : op i = 2) (his : lk_is op i = true) (h : lk_G2 rg gp (lk_nc op i + 1) (lk_nc op i + 1) (lk_ng op i) (lk_ig op i) C1' V D G0 GE') : lk_U op rg gp (i + 1) C1' V D G0 GE' := by
  have e1 : lk_no op (i + 1) = lk_no op i := by rw [lk_no_s, ho, if_neg (by decide)]; rfl
  have e2 : lk_nc op (i + 1) = lk_no op i := by
    rw [lk_nc_f, e1]
    rw [lk_is_s, ho, if_neg (by decide), if_pos rfl]
  have e3 : lk_ng op (i + 1) = lk_ng op i := by rw [lk_ng_s, ho, if_neg (by decide)]; rfl
  have e4 : lk_ig op (i + 1) = lk_ig op i := by rw [lk_ig_s, ho, if_neg (by decide), if_neg (by decide)]
  unfold lk_U
  rw [e1, e2, e3, e4, lk_nc_t his]
  exact h
theorem lk_U_cnt {C1' : Nat} (h : lk_U op rg gp i C1 V D G0 GE) (ho : op i = 5 ∨ op i = 6 ∨ op i = 7) (his : lk_is op i = false) (hig : lk_ig op i = false) (hc : C1 ≤ C1') : lk_U op rg gp (i + 1) C1' V D G0 GE := by
  have n1 : ¬ op i = 1 := by rcases ho with e | e | e <;> rw [e] <;> decide
  have n2 : ¬ op i = 2 := by rcases ho with e | e | e <;> rw [e] <;> decide
  have n8 : ¬ op i = 8 := by rcases ho with e | e | e <;> rw [e] <;> decide
  have n9 : ¬ op i = 9 := by rcases ho with e | e | e <;> rw [e] <;> decide
  have e1 : lk_no op (i + 1) = lk_no op i := by rw [lk_no_s, if_neg n1]; rfl
  have e2 : lk_nc op (i + 1) = lk_no op i := by
    rw [lk_nc_f, e1]
    rw [lk_is_s, if_neg n1, if_neg n2]; exact his
  have e3 : lk_ng op (i + 1) = lk_ng op i := by rw [lk_ng_s, if_neg n8]; rfl
  have e4 : lk_ig op (i + 1) = false := by rw [lk_ig_s, if_neg n8, if_neg n9]; exact hig
  unfold lk_U at h ⊢
  rw [e1, e2, e3, e4]
  rw [lk_nc_f his, hig] at h
  exact lk_G2_cnt h hc
theorem lk_U_ovl (h : lk_U op rg gp i C1 V D G0 GE) (ho : op i = 8) (his : lk_is op i = false) (hig : lk_ig op i = false) (hng : lk_ng op i < 2 ^ 30) (hof : ∀ k, k < lk_no op i → rg k = 1 → gp k = -1 ∨ ∃ g, g < lk_ng op i ∧ gp k = nI g) : lk_U op rg gp (i + 1) C1 V D (lk_up G0 (lk_ng op i) C1) (lk_up GE (lk_ng op i) C1) := by
  have e1 : lk_no op (i + 1) = lk_no op i := by rw [lk_no_s, ho, if_neg (by decide)]; rfl
  have e2 : lk_nc op (i + 1) = lk_no op i := by
    rw [lk_nc_f, e1]
    rw [lk_is_s, ho, if_neg (by decide), if_neg (by decide)]; exact his
  have e3 : lk_ng op (i + 1) = lk_ng op i + 1 := by rw [lk_ng_s, ho, if_pos rfl]
  have e4 : lk_ig op (i + 1) = true := by rw [lk_ig_s, ho, if_pos rfl]
  unfold lk_U at h ⊢
  rw [e1, e2, e3, e4]
  rw [lk_nc_f his, hig] at h
  exact lk_G2_ovl h hng hof
theorem lk_U_ove {g : Nat} (h : lk_U op rg gp i C1 V D G0 GE) (ho : op i = 9) (his : lk_is op i = false) (hig : lk_ig op i = true) (hg : lk_ng op i = g + 1) : lk_U op rg gp (i + 1) (GE g) V D G0 GE := by
  have e1 : lk_no op (i + 1) = lk_no op i := by rw [lk_no_s, ho, if_neg (by decide)]; rfl
  have e2 : lk_nc op (i + 1) = lk_no op i := by
    rw [lk_nc_f, e1]
    rw [lk_is_s, ho, if_neg (by decide), if_neg (by decide)]; exact his
  have e3 : lk_ng op (i + 1) = lk_ng op i := by rw [lk_ng_s, ho, if_neg (by decide)]; rfl
  have e4 : lk_ig op (i + 1) = false := by rw [lk_ig_s, ho, if_neg (by decide), if_pos rfl]
  unfold lk_U at h ⊢
  rw [e1, e2, e3, e4]
  rw [lk_nc_f his, hig, hg] at h
  rw [hg]
  exact lk_G2_ove h
end
end
end
section
section
/-! RAM behind startup: what lies at x -/
def lq_im (ld : Nat → Int32) (L V : Nat → Nat) (me : Nat → Int32) (q x : Nat) : Int32 := if ld q = 1 then me (L q + (x - V q)) else 0
def lq_P (R1 g : Nat) (G0 GE : Nat → Nat) (me m : Nat → Int32) : Prop :=
  (∀ j, j < 256 → m j = me j) ∧ ∀ x, 256 ≤ x → x < 256 + R1 →
  (∀ h, h < g → G0 h ≤ x → x < GE h → m x = 0) ∧ ((∀ h, h < g → ¬ (G0 h ≤ x ∧ x < GE h)) → m x = 255)
def lq_M (R1 k ng : Nat) (rg ld gp gr : Nat → Int32) (V L D G0 GE : Nat → Nat) (me m : Nat → Int32) : Prop :=
  (∀ j, j < 256 → m j = me j) ∧ ∀ x, 256 ≤ x → x < 256 + R1 →
  (∀ q, q < k → rg q = 1 → gp q = -1 → V q ≤ x → x < D q → m x = lq_im ld L V me q x) ∧
  (∀ g q, g < ng → G0 g ≤ x → x < GE g → gr g = nI q → q < k → V q ≤ x → x < D q → m x = lq_im ld L V me q x) ∧
  (∀ g, g < ng → G0 g ≤ x → x < GE g → (∀ q, gr g = nI q → q < k → ¬ (V q ≤ x ∧ x < D q)) → m x = 0) ∧
  ((∀ q, q < k → rg q = 1 → gp q = -1 → ¬ (V q ≤ x ∧ x < D q)) → (∀ g, g < ng → ¬ (G0 g ≤ x ∧ x < GE g)) → m x = 255)
section
variable {R1 k no ng C1 : Nat} {rg ld gp gr : Nat → Int32} {V L D G0 GE : Nat → Nat} {me m : Nat → Int32}
theorem lq_P_0 (hR : R1 ≤ 128) (h : ∀ x, 256 ≤ x → x < 384 → me x = 255) : lq_P R1 0 G0 GE me me :=
  ⟨fun _ _ => rfl, fun x h1 h2 => ⟨fun g hg => absurd hg (Nat.not_lt_zero g), fun _ => h x h1 (by omega)⟩⟩
theorem lq_P_s {g : Nat} (h : lq_P R1 g G0 GE me m) (hg : 256 ≤ G0 g) : lq_P R1 (g + 1) G0 GE me (lk_wr m (G0 g) (GE g) (fun _ => 0)) := by
  obtain ⟨h1, h2⟩ := h
  refine ⟨fun j hj => ?_, fun x x1 x2 => ?_⟩
  · rw [lk_wr_f (by omega)]
    exact h1 j hj
  · obtain ⟨a, b⟩ := h2 x x1 x2
    by_cases c : G0 g ≤ x ∧ x < GE g
    · rw [lk_wr_t c.1 c.2]
      exact ⟨fun _ _ _ _ => rfl, fun z => absurd c (z g (by omega))⟩
    · rw [lk_wr_f c]
      refine ⟨fun q hq s1 s2 => ?_, fun z => b (fun q hq => z q (by omega))⟩
      have : q ≠ g := fun e => c (by rw [← e]; exact ⟨s1, s2⟩)
      exact a q (by omega) s1 s2
theorem lq_M_0 (h : lq_P R1 ng G0 GE me m) : lq_M R1 0 ng rg ld gp gr V L D G0 GE me m :=
  ⟨h.1, fun x x1 x2 => ⟨fun q hq => absurd hq (Nat.not_lt_zero q), fun _ q _ _ _ _ hq => absurd hq (Nat.not_lt_zero q), fun g hg s1 s2 _ => (h.2 x x1 x2).1 g hg s1 s2, fun _ z => (h.2 x x1 x2).2 z⟩⟩
/-- section k is laid -/
theorem lq_M_w (hG : lk_G2 rg gp no no ng false C1 V D G0 GE) (h8 : no ≤ 8) (hk : k < no) (r : rg k = 1) (hw : gp k = -1 ∨ ∃ g, g < ng ∧ gp k = nI g ∧ gr g = nI k) (hV : 256 ≤ V k) (hL : ld k = 1 → L k + (D k - V k) ≤ 128)
    (h : lq_M R1 k ng rg ld gp gr V L D G0 GE me m) : lq_M R1 (k + 1) ng rg ld gp gr V L D G0 GE me (lk_wr m (V k) (D k) (fun j => if ld k = 1 then m (L k + (j - V k)) else 0)) := by
  obtain ⟨h1, h2, h3, h4, h5, h6, h7, h8', h9⟩ := hG
  obtain ⟨hm, hx⟩ := h
  refine ⟨fun j hj => ?_, fun x x1 x2 => ?_⟩
  · rw [lk_wr_f (by omega)]
    exact hm j hj
  obtain ⟨a, b1, b2, c⟩ := hx x x1 x2
  by_cases cov : V k ≤ x ∧ x < D k
  · have e : lk_wr m (V k) (D k) (fun j => if ld k = 1 then m (L k + (j - V k)) else 0) x = lq_im ld L V me k x := by
      rw [lk_wr_t cov.1 cov.2]
      unfold lq_im
      by_cases l1 : ld k = 1
      · have := hL l1
        rw [if_pos l1, if_pos l1]
        exact hm _ (by omega)
      · rw [if_neg l1, if_neg l1]
    have key : ∀ g, g < ng → G0 g ≤ x → x < GE g → gr g = nI k := by
      intro g hg s1 s2
      rcases hw with z | ⟨g0, hg0, z, zr⟩
      · rcases h8' k g hk hg r z with ⟨_, y⟩ | y
        · omega
        · omega
      · obtain ⟨y1, y2⟩ := h2 k g0 hk hg0 r z
        have y3 := y2 hk
        have eg : g = g0 := by
          rcases Nat.lt_trichotomy g g0 with w | w | w
          · have := h6 g g0 w hg0
            omega
          · exact w
          · have := h6 g0 g w hg
            omega
        rw [eg]
        exact zr
    refine ⟨fun q hq r1 g1 v1 v2 => ?_, fun g q hg s1 s2 eg hq v1 v2 => ?_, fun g hg s1 s2 hn => ?_, fun hn1 hn2 => ?_⟩
    · by_cases cq : q = k
      · rw [cq]; exact e
      · have := h7 q k (by omega) hk r1 r (Or.inl g1)
        omega
    · have e2 := key g hg s1 s2
      have cq : q = k := (nI_eq (by omega) (by omega)).mp (eg.symm.trans e2)
      rw [cq]; exact e
    · exact absurd cov (hn k (key g hg s1 s2) (by omega))
    · rcases hw with z | ⟨g0, hg0, z, zr⟩
      · exact absurd cov (hn1 k (by omega) r z)
      · obtain ⟨y1, y2⟩ := h2 k g0 hk hg0 r z
        have y3 := y2 hk
        exact absurd ⟨by omega, by omega⟩ (hn2 g0 hg0)
  · rw [lk_wr_f cov]
    refine ⟨fun q hq r1 g1 v1 v2 => ?_, fun g q hg s1 s2 eg hq v1 v2 => ?_, fun g hg s1 s2 hn => b2 g hg s1 s2 (fun q eg hq => hn q eg (by omega)), fun hn1 hn2 => c (fun q hq => hn1 q (by omega)) hn2⟩
    · have cq : q ≠ k := fun z => cov (by rw [← z]; exact ⟨v1, v2⟩)
      exact a q (by omega) r1 g1 v1 v2
    · have cq : q ≠ k := fun z => cov (by rw [← z]; exact ⟨v1, v2⟩)
      exact b1 g q hg s1 s2 eg (by omega) v1 v2
/-- section k isn't laid -/
theorem lq_M_n (n1 : ¬ (rg k = 1 ∧ gp k = -1)) (n2 : ∀ g, g < ng → ¬ gr g = nI k) (h : lq_M R1 k ng rg ld gp gr V L D G0 GE me m) : lq_M R1 (k + 1) ng rg ld gp gr V L D G0 GE me m := by
  obtain ⟨hm, hx⟩ := h
  refine ⟨hm, fun x x1 x2 => ?_⟩
  obtain ⟨a, b1, b2, c⟩ := hx x x1 x2
  refine ⟨fun q hq r1 g1 v1 v2 => ?_, fun g q hg s1 s2 eg hq v1 v2 => ?_, fun g hg s1 s2 hn => b2 g hg s1 s2 (fun q eg hq => hn q eg (by omega)), fun hn1 hn2 => c (fun q hq => hn1 q (by omega)) hn2⟩
  · have cq : q ≠ k := fun z => n1 (by rw [← z]; exact ⟨r1, g1⟩)
    exact a q (by omega) r1 g1 v1 v2
  · have cq : q ≠ k := fun z => n2 g hg (by rw [← z]; exact eg)
    exact b1 g q hg s1 s2 eg (by omega) v1 v2
/-- member k of group g is loaded -/
theorem lq_M_o {g : Nat} (hG : lk_G2 rg gp no no ng false C1 V D G0 GE) (h8 : no ≤ 8) (hk : k < no) (hg : g < ng) (r : rg k = 1) (eg : gp k = nI g) (hg0 : 256 ≤ G0 g) (hV : 256 ≤ V k) (hL : ld k = 1 → L k + (D k - V k) ≤ 128)
    (h : lq_M R1 no ng rg ld gp gr V L D G0 GE me m) : lq_M R1 no ng rg ld gp (upd gr g (nI k)) V L D G0 GE me (lk_wr (lk_wr m (G0 g) (GE g) (fun _ => 0)) (V k) (D k) (fun j => if ld k = 1 then lk_wr m (G0 g) (GE g) (fun _ => 0) (L k + (j - V k)) else 0)) := by
  obtain ⟨h1, h2, h3, h4, h5, h6, h7, h8', h9⟩ := hG
  obtain ⟨hm, hx⟩ := h
  obtain ⟨y1, y2⟩ := h2 k g hk hg r eg
  have y3 := y2 hk
  refine ⟨fun j hj => ?_, fun x x1 x2 => ?_⟩
  · rw [lk_wr_f (by omega), lk_wr_f (by omega)]
    exact hm j hj
  obtain ⟨a, b1, b2, c⟩ := hx x x1 x2
  by_cases sp : G0 g ≤ x ∧ x < GE g
  · have nA : ∀ q, q < no → rg q = 1 → gp q = -1 → V q ≤ x → x < D q → False := by
      intro q hq r1 g1 v1 v2
      rcases h8' q g hq hg r1 g1 with ⟨_, y⟩ | y
      · omega
      · omega
    have key : ∀ f, f < ng → G0 f ≤ x → x < GE f → f = g := by
      intro f hf s1 s2
      rcases Nat.lt_trichotomy f g with w | w | w
      · have := h6 f g w hg
        omega
      · exact w
      · have := h6 g f w hf
        omega
    by_cases cov : V k ≤ x ∧ x < D k
    · have e : lk_wr (lk_wr m (G0 g) (GE g) (fun _ => 0)) (V k) (D k) (fun j => if ld k = 1 then lk_wr m (G0 g) (GE g) (fun _ => 0) (L k + (j - V k)) else 0) x = lq_im ld L V me k x := by
        rw [lk_wr_t cov.1 cov.2]
        unfold lq_im
        by_cases l1 : ld k = 1
        · have := hL l1
          rw [if_pos l1, if_pos l1, lk_wr_f (by omega)]
          exact hm _ (by omega)
        · rw [if_neg l1, if_neg l1]
      refine ⟨fun q hq r1 g1 v1 v2 => (nA q hq r1 g1 v1 v2).elim, fun f q hf s1 s2 ef hq v1 v2 => ?_, fun f hf s1 s2 hn => ?_, fun _ hn2 => absurd sp (hn2 g hg)⟩
      · have fg := key f hf s1 s2
        rw [fg, pk_us] at ef
        have cq : k = q := (nI_eq (by omega) (by omega)).mp ef
        rw [← cq]; exact e
      · have fg := key f hf s1 s2
        exact absurd cov (hn k (by rw [fg, pk_us]) hk)
    · rw [lk_wr_f cov, lk_wr_t sp.1 sp.2]
      refine ⟨fun q hq r1 g1 v1 v2 => (nA q hq r1 g1 v1 v2).elim, fun f q hf s1 s2 ef hq v1 v2 => ?_, fun _ _ _ _ _ => rfl, fun _ hn2 => absurd sp (hn2 g hg)⟩
      have fg := key f hf s1 s2
      rw [fg, pk_us] at ef
      have cq : k = q := (nI_eq (by omega) (by omega)).mp ef
      rw [← cq] at v1 v2
      exact absurd ⟨v1, v2⟩ cov
  · have cov : ¬ (V k ≤ x ∧ x < D k) := fun z => sp ⟨by omega, by omega⟩
    rw [lk_wr_f cov, lk_wr_f sp]
    refine ⟨a, fun f q hf s1 s2 ef hq v1 v2 => ?_, fun f hf s1 s2 hn => ?_, c⟩
    · have fg : f ≠ g := fun z => sp (by rw [← z]; exact ⟨s1, s2⟩)
      rw [pk_un fg] at ef
      exact b1 f q hf s1 s2 ef hq v1 v2
    · have fg : f ≠ g := fun z => sp (by rw [← z]; exact ⟨s1, s2⟩)
      exact b2 f hf s1 s2 (fun q ef hq => hn q (by rw [pk_un fg]; exact ef) hq)
end
end
end
section
section
/-! feeding over any P -/
theorem lk_fbyte {P : St2 → Prop} {ns no ng ni nb nr : Nat} {xphase xopenOut xopenGroup : Int32} {xregionSize xcounter xmemory xstmtOp xstmtA xstmtB xstmtOwner xoutRegion xoutLoaded xoutGroup xoutAlign xoutVma xoutLma xoutDot xgroupStart xgroupEnd xgroupResident xinKind xinId xinAlign xinSize xinFirstByte xinStmt xinLive xinVma xfedBytes xrelocOwner xrelocOffset xrelocType xrelocTarget xrelocAddend : Nat → Int32} {yinBss yinLen : Nat → Int32} {v1 : Int32} (J : P (xphase, (nI ns), xopenOut, xopenGroup, (nI no), (nI ng), (nI ni), (nI nb), (nI nr), xregionSize, xcounter, xmemory, xstmtOp, xstmtA, xstmtB, xstmtOwner, xoutRegion, xoutLoaded, xoutGroup, xoutAlign, xoutVma, xoutLma, xoutDot, xgroupStart, xgroupEnd, xgroupResident, xinKind, xinId, xinAlign, xinSize, xinFirstByte, xinStmt, xinLive, xinVma, xfedBytes, xrelocOwner, xrelocOffset, xrelocType, xrelocTarget, xrelocAddend)) (hN : lk_N ni nb xinKind xinAlign xinSize xinFirstByte yinBss yinLen) (hQ : lk_Q nr ni xinKind yinLen xrelocOwner xrelocOffset xrelocTarget) (K : ∀ {nb : Nat} {xinSize xfedBytes yinLen : Nat → Int32}, lk_N ni nb xinKind xinAlign xinSize xinFirstByte yinBss yinLen → lk_Q nr ni xinKind yinLen xrelocOwner xrelocOffset xrelocTarget → P (xphase, (nI ns), xopenOut, xopenGroup, (nI no), (nI ng), (nI ni), (nI nb), (nI nr), xregionSize, xcounter, xmemory, xstmtOp, xstmtA, xstmtB, xstmtOwner, xoutRegion, xoutLoaded, xoutGroup, xoutAlign, xoutVma, xoutLma, xoutDot, xgroupStart, xgroupEnd, xgroupResident, xinKind, xinId, xinAlign, xinSize, xinFirstByte, xinStmt, xinLive, xinVma, xfedBytes, xrelocOwner, xrelocOffset, xrelocType, xrelocTarget, xrelocAddend)) (hp : xphase = 0) : wpX_addByte (fun _ u => P u) (xphase, (nI ns), xopenOut, xopenGroup, (nI no), (nI ng), (nI ni), (nI nb), (nI nr), xregionSize, xcounter, xmemory, xstmtOp, xstmtA, xstmtB, xstmtOwner, xoutRegion, xoutLoaded, xoutGroup, xoutAlign, xoutVma, xoutLma, xoutDot, xgroupStart, xgroupEnd, xgroupResident, xinKind, xinId, xinAlign, xinSize, xinFirstByte, xinStmt, xinLive, xinVma, xfedBytes, xrelocOwner, xrelocOffset, xrelocType, xrelocTarget, xrelocAddend) v1 := by
  rcases Nat.eq_zero_or_pos ni with h0 | h0
  · subst h0
    have a1 : nI 0 ≤ 0 := by decide
    repeat (first | refine br_t (by assumption) ?_ | refine br_f (by assumption) ?_ | refine br_t (by decide) ?_ | refine br_f (by decide) ?_ | refine nm_e ?_ | refine And.intro (by assumption) ?_ | refine And.intro rfl ?_ | refine lx_isA (by assumption) ?_ | refine lx_nA (by assumption) ?_)
    exact J
  · obtain ⟨m, rfl⟩ : ∃ m, ni = m + 1 := ⟨ni - 1, by omega⟩
    have n16 := hN.1
    have e : (nI (m + 1) - 1).toNatClampNeg = m := by rw [nI_pred, nI_clamp (by omega)]
    have a1 : ¬ nI (m + 1) ≤ 0 := nI_nle (by omega) (by omega)
    have a3 : vp_in (nI (m + 1) - 1) 16 := by rw [nI_pred]; exact vp_in_nI (by omega) (by omega)
    by_cases hk3 : xinKind (nI (m + 1) - 1).toNatClampNeg = 3
    · repeat (first | refine br_t (by assumption) ?_ | refine br_f (by assumption) ?_ | refine br_t (by decide) ?_ | refine br_f (by decide) ?_ | refine nm_e ?_ | refine And.intro (by assumption) ?_ | refine And.intro rfl ?_ | refine lx_isA (by assumption) ?_ | refine lx_nA (by assumption) ?_)
      exact J
    · by_cases hb : nb < 256
      · have b1 : nI nb < 256 := nI_lt (b := 256) hb (by omega)
        have b2 : vp_in (nI nb) 256 := vp_in_nI hb (by omega)
        repeat (first | refine br_t (by assumption) ?_ | refine br_f (by assumption) ?_ | refine br_t (by decide) ?_ | refine br_f (by decide) ?_ | refine nm_e ?_ | refine And.intro (by assumption) ?_ | refine And.intro rfl ?_ | refine lx_isA (by assumption) ?_ | refine lx_nA (by assumption) ?_)
        rw [e, nI_clamp (show nb < 2 ^ 31 by omega), nI_1 nb]
        rw [e] at hk3
        refine K (lk_N_byte hN hb hk3) (lk_Q_byte hQ ?_)
        intro Z hz hz2
        obtain ⟨A, T, Z', Q', d1, d2, d3, d4, d5, d6, d7⟩ := hN.2.2 m (by omega)
        have : Z = Z' := (nI_eq (by omega) (by omega)).mp (hz.symm.trans d4)
        omega
      · have b1 : ¬ nI nb < 256 := nI_nlt (b := 256) (by omega) (by have := hN.2.1; omega)
        repeat (first | refine br_t (by assumption) ?_ | refine br_f (by assumption) ?_ | refine br_t (by decide) ?_ | refine br_f (by decide) ?_ | refine nm_e ?_ | refine And.intro (by assumption) ?_ | refine And.intro rfl ?_ | refine lx_isA (by assumption) ?_ | refine lx_nA (by assumption) ?_)
        exact J
theorem lk_freloc {P : St2 → Prop} {ns no ng ni nb nr : Nat} {xphase xopenOut xopenGroup : Int32} {xregionSize xcounter xmemory xstmtOp xstmtA xstmtB xstmtOwner xoutRegion xoutLoaded xoutGroup xoutAlign xoutVma xoutLma xoutDot xgroupStart xgroupEnd xgroupResident xinKind xinId xinAlign xinSize xinFirstByte xinStmt xinLive xinVma xfedBytes xrelocOwner xrelocOffset xrelocType xrelocTarget xrelocAddend : Nat → Int32} {yinBss yinLen : Nat → Int32} {v1 v2 v3 v4 : Int32} (J : P (xphase, (nI ns), xopenOut, xopenGroup, (nI no), (nI ng), (nI ni), (nI nb), (nI nr), xregionSize, xcounter, xmemory, xstmtOp, xstmtA, xstmtB, xstmtOwner, xoutRegion, xoutLoaded, xoutGroup, xoutAlign, xoutVma, xoutLma, xoutDot, xgroupStart, xgroupEnd, xgroupResident, xinKind, xinId, xinAlign, xinSize, xinFirstByte, xinStmt, xinLive, xinVma, xfedBytes, xrelocOwner, xrelocOffset, xrelocType, xrelocTarget, xrelocAddend)) (hN : lk_N ni nb xinKind xinAlign xinSize xinFirstByte yinBss yinLen) (hQ : lk_Q nr ni xinKind yinLen xrelocOwner xrelocOffset xrelocTarget) (K : ∀ {nr : Nat} {xrelocOwner xrelocOffset xrelocType xrelocTarget xrelocAddend : Nat → Int32}, lk_Q nr ni xinKind yinLen xrelocOwner xrelocOffset xrelocTarget → P (xphase, (nI ns), xopenOut, xopenGroup, (nI no), (nI ng), (nI ni), (nI nb), (nI nr), xregionSize, xcounter, xmemory, xstmtOp, xstmtA, xstmtB, xstmtOwner, xoutRegion, xoutLoaded, xoutGroup, xoutAlign, xoutVma, xoutLma, xoutDot, xgroupStart, xgroupEnd, xgroupResident, xinKind, xinId, xinAlign, xinSize, xinFirstByte, xinStmt, xinLive, xinVma, xfedBytes, xrelocOwner, xrelocOffset, xrelocType, xrelocTarget, xrelocAddend)) (hp : xphase = 0) : wpX_addReloc (fun _ u => P u) (xphase, (nI ns), xopenOut, xopenGroup, (nI no), (nI ng), (nI ni), (nI nb), (nI nr), xregionSize, xcounter, xmemory, xstmtOp, xstmtA, xstmtB, xstmtOwner, xoutRegion, xoutLoaded, xoutGroup, xoutAlign, xoutVma, xoutLma, xoutDot, xgroupStart, xgroupEnd, xgroupResident, xinKind, xinId, xinAlign, xinSize, xinFirstByte, xinStmt, xinLive, xinVma, xfedBytes, xrelocOwner, xrelocOffset, xrelocType, xrelocTarget, xrelocAddend) v1 v2 v3 v4 := by
  rcases Nat.eq_zero_or_pos ni with h0 | h0
  · subst h0
    have a1 : nI 0 ≤ 0 := by decide
    repeat (first | refine br_t (by assumption) ?_ | refine br_f (by assumption) ?_ | refine br_t (by decide) ?_ | refine br_f (by decide) ?_ | refine nm_e ?_ | refine And.intro (by assumption) ?_ | refine And.intro rfl ?_ | refine lx_isA (by assumption) ?_ | refine lx_nA (by assumption) ?_)
    exact J
  · obtain ⟨m, rfl⟩ : ∃ m, ni = m + 1 := ⟨ni - 1, by omega⟩
    have n16 := hN.1
    have r32 := hQ.1
    have e : (nI (m + 1) - 1).toNatClampNeg = m := by rw [nI_pred, nI_clamp (by omega)]
    have a1 : ¬ nI (m + 1) ≤ 0 := nI_nle (by omega) (by omega)
    have a3 : vp_in (nI (m + 1) - 1) 16 := by rw [nI_pred]; exact vp_in_nI (by omega) (by omega)
    by_cases hk3 : xinKind (nI (m + 1) - 1).toNatClampNeg = 3
    · repeat (first | refine br_t (by assumption) ?_ | refine br_f (by assumption) ?_ | refine br_t (by decide) ?_ | refine br_f (by decide) ?_ | refine nm_e ?_ | refine And.intro (by assumption) ?_ | refine And.intro rfl ?_ | refine lx_isA (by assumption) ?_ | refine lx_nA (by assumption) ?_)
      exact J
    obtain ⟨A, T, Z, Q', d1, d2, d3, d4, d5, d6, d7⟩ := hN.2.2 m (by omega)
    have hb := hN.2.1
    have hZQ : Q' = Z := by
      rw [e] at hk3
      rcases d7 with ⟨z, _⟩ | ⟨_, z⟩
      · exact absurd z hk3
      · exact z
    by_cases b1 : v2 < 1
    · repeat (first | refine br_t (by assumption) ?_ | refine br_f (by assumption) ?_ | refine br_t (by decide) ?_ | refine br_f (by decide) ?_ | refine nm_e ?_ | refine And.intro (by assumption) ?_ | refine And.intro rfl ?_ | refine lx_isA (by assumption) ?_ | refine lx_nA (by assumption) ?_)
      exact J
    by_cases b2 : 3 < v2
    · repeat (first | refine br_t (by assumption) ?_ | refine br_f (by assumption) ?_ | refine br_t (by decide) ?_ | refine br_f (by decide) ?_ | refine nm_e ?_ | refine And.intro (by assumption) ?_ | refine And.intro rfl ?_ | refine lx_isA (by assumption) ?_ | refine lx_nA (by assumption) ?_)
      exact J
    by_cases b3 : v1 < 0
    · repeat (first | refine br_t (by assumption) ?_ | refine br_f (by assumption) ?_ | refine br_t (by decide) ?_ | refine br_f (by decide) ?_ | refine nm_e ?_ | refine And.intro (by assumption) ?_ | refine And.intro rfl ?_ | refine lx_isA (by assumption) ?_ | refine lx_nA (by assumption) ?_)
      exact J
    by_cases b4 : v1 ≤ xinSize (nI (m + 1) - 1).toNatClampNeg - 2
    · by_cases b6 : v3 < 0
      · repeat (first | refine br_t (by assumption) ?_ | refine br_f (by assumption) ?_ | refine br_t (by decide) ?_ | refine br_f (by decide) ?_ | refine nm_e ?_ | refine And.intro (by assumption) ?_ | refine And.intro rfl ?_ | refine lx_isA (by assumption) ?_ | refine lx_nA (by assumption) ?_)
        exact J
      by_cases b7 : 15 < v3
      · repeat (first | refine br_t (by assumption) ?_ | refine br_f (by assumption) ?_ | refine br_t (by decide) ?_ | refine br_f (by decide) ?_ | refine nm_e ?_ | refine And.intro (by assumption) ?_ | refine And.intro rfl ?_ | refine lx_isA (by assumption) ?_ | refine lx_nA (by assumption) ?_)
        exact J
      by_cases b8 : v4 < -256
      · repeat (first | refine br_t (by assumption) ?_ | refine br_f (by assumption) ?_ | refine br_t (by decide) ?_ | refine br_f (by decide) ?_ | refine nm_e ?_ | refine And.intro (by assumption) ?_ | refine And.intro rfl ?_ | refine lx_isA (by assumption) ?_ | refine lx_nA (by assumption) ?_)
        exact J
      by_cases b9 : v4 ≤ 255
      · by_cases hr : nr < 32
        · have r1 : nI nr < 32 := nI_lt (b := 32) hr (by omega)
          have r2 : vp_in (nI nr) 32 := vp_in_nI hr (by omega)
          repeat (first | refine br_t (by assumption) ?_ | refine br_f (by assumption) ?_ | refine br_t (by decide) ?_ | refine br_f (by decide) ?_ | refine nm_e ?_ | refine And.intro (by assumption) ?_ | refine And.intro rfl ?_ | refine lx_isA (by assumption) ?_ | refine lx_nA (by assumption) ?_)
          rw [nI_clamp (show nr < 2 ^ 31 by omega), nI_1 nr]
          rw [e] at hk3
          rw [e, d6, hZQ] at b4
          obtain ⟨f, hf, ef⟩ := lk_le2 (by omega) rfl b3 b4
          obtain ⟨t, ht, et⟩ := nI_of2 (M := 15) (n := 15) (by decide) b6 (Int32.not_lt.mp b7)
          have hQ' : lk_Q (nr + 1) (m + 1) xinKind yinLen (upd xrelocOwner nr (nI (m + 1) - 1)) (upd xrelocOffset nr v1) (upd xrelocTarget nr v3) := by
            rw [nI_pred, ef, et]
            exact lk_Q_rel hQ hr (by omega) hk3 d4 (by omega) hf (by omega)
          exact K hQ'
        · have r1 : ¬ nI nr < 32 := nI_nlt (b := 32) (by omega) (by omega)
          repeat (first | refine br_t (by assumption) ?_ | refine br_f (by assumption) ?_ | refine br_t (by decide) ?_ | refine br_f (by decide) ?_ | refine nm_e ?_ | refine And.intro (by assumption) ?_ | refine And.intro rfl ?_ | refine lx_isA (by assumption) ?_ | refine lx_nA (by assumption) ?_)
          exact J
      · repeat (first | refine br_t (by assumption) ?_ | refine br_f (by assumption) ?_ | refine br_t (by decide) ?_ | refine br_f (by decide) ?_ | refine nm_e ?_ | refine And.intro (by assumption) ?_ | refine And.intro rfl ?_ | refine lx_isA (by assumption) ?_ | refine lx_nA (by assumption) ?_)
        exact J
    · repeat (first | refine br_t (by assumption) ?_ | refine br_f (by assumption) ?_ | refine br_t (by decide) ?_ | refine br_f (by decide) ?_ | refine nm_e ?_ | refine And.intro (by assumption) ?_ | refine And.intro rfl ?_ | refine lx_isA (by assumption) ?_ | refine lx_nA (by assumption) ?_)
      exact J
theorem lk_fbegin {P : St2 → Prop} {ns no ng ni nb nr : Nat} {xphase xopenOut xopenGroup : Int32} {xregionSize xcounter xmemory xstmtOp xstmtA xstmtB xstmtOwner xoutRegion xoutLoaded xoutGroup xoutAlign xoutVma xoutLma xoutDot xgroupStart xgroupEnd xgroupResident xinKind xinId xinAlign xinSize xinFirstByte xinStmt xinLive xinVma xfedBytes xrelocOwner xrelocOffset xrelocType xrelocTarget xrelocAddend : Nat → Int32} {yinBss yinLen : Nat → Int32} {v1 v2 v3 v4 : Int32} (J : P (xphase, (nI ns), xopenOut, xopenGroup, (nI no), (nI ng), (nI ni), (nI nb), (nI nr), xregionSize, xcounter, xmemory, xstmtOp, xstmtA, xstmtB, xstmtOwner, xoutRegion, xoutLoaded, xoutGroup, xoutAlign, xoutVma, xoutLma, xoutDot, xgroupStart, xgroupEnd, xgroupResident, xinKind, xinId, xinAlign, xinSize, xinFirstByte, xinStmt, xinLive, xinVma, xfedBytes, xrelocOwner, xrelocOffset, xrelocType, xrelocTarget, xrelocAddend)) (hN : lk_N ni nb xinKind xinAlign xinSize xinFirstByte yinBss yinLen) (hQ : lk_Q nr ni xinKind yinLen xrelocOwner xrelocOffset xrelocTarget) (K : ∀ {ni : Nat} {xinKind xinId xinAlign xinSize xinFirstByte yinBss yinLen : Nat → Int32}, lk_N ni nb xinKind xinAlign xinSize xinFirstByte yinBss yinLen → lk_Q nr ni xinKind yinLen xrelocOwner xrelocOffset xrelocTarget → P (xphase, (nI ns), xopenOut, xopenGroup, (nI no), (nI ng), (nI ni), (nI nb), (nI nr), xregionSize, xcounter, xmemory, xstmtOp, xstmtA, xstmtB, xstmtOwner, xoutRegion, xoutLoaded, xoutGroup, xoutAlign, xoutVma, xoutLma, xoutDot, xgroupStart, xgroupEnd, xgroupResident, xinKind, xinId, xinAlign, xinSize, xinFirstByte, xinStmt, xinLive, xinVma, xfedBytes, xrelocOwner, xrelocOffset, xrelocType, xrelocTarget, xrelocAddend)) (hp : xphase = 0) : wpX_beginSection (fun _ u => P u) (xphase, (nI ns), xopenOut, xopenGroup, (nI no), (nI ng), (nI ni), (nI nb), (nI nr), xregionSize, xcounter, xmemory, xstmtOp, xstmtA, xstmtB, xstmtOwner, xoutRegion, xoutLoaded, xoutGroup, xoutAlign, xoutVma, xoutLma, xoutDot, xgroupStart, xgroupEnd, xgroupResident, xinKind, xinId, xinAlign, xinSize, xinFirstByte, xinStmt, xinLive, xinVma, xfedBytes, xrelocOwner, xrelocOffset, xrelocType, xrelocTarget, xrelocAddend) v1 v2 v3 v4 := by
  have n16 := hN.1
  by_cases b1 : v1 < 1
  · repeat (first | refine br_t (by assumption) ?_ | refine br_f (by assumption) ?_ | refine br_t (by decide) ?_ | refine br_f (by decide) ?_ | refine nm_e ?_ | refine And.intro (by assumption) ?_ | refine And.intro rfl ?_ | refine lx_isA (by assumption) ?_ | refine lx_nA (by assumption) ?_)
    exact J
  by_cases b2 : 3 < v1
  · repeat (first | refine br_t (by assumption) ?_ | refine br_f (by assumption) ?_ | refine br_t (by decide) ?_ | refine br_f (by decide) ?_ | refine nm_e ?_ | refine And.intro (by assumption) ?_ | refine And.intro rfl ?_ | refine lx_isA (by assumption) ?_ | refine lx_nA (by assumption) ?_)
    exact J
  by_cases b3 : v2 < 0
  · repeat (first | refine br_t (by assumption) ?_ | refine br_f (by assumption) ?_ | refine br_t (by decide) ?_ | refine br_f (by decide) ?_ | refine nm_e ?_ | refine And.intro (by assumption) ?_ | refine And.intro rfl ?_ | refine lx_isA (by assumption) ?_ | refine lx_nA (by assumption) ?_)
    exact J
  by_cases b4 : 15 < v2
  · repeat (first | refine br_t (by assumption) ?_ | refine br_f (by assumption) ?_ | refine br_t (by decide) ?_ | refine br_f (by decide) ?_ | refine nm_e ?_ | refine And.intro (by assumption) ?_ | refine And.intro rfl ?_ | refine lx_isA (by assumption) ?_ | refine lx_nA (by assumption) ?_)
    exact J
  rcases Classical.em (lk_Ai v3) with b5 | b5
  · by_cases hn : ni < 16
    · have r1 : nI ni < 16 := nI_lt (b := 16) hn (by omega)
      have r2 : vp_in (nI ni) 16 := vp_in_nI hn (by omega)
      obtain ⟨A, hA, eA⟩ := lk_Ai_A b5
      by_cases b6 : v1 = 3
      · by_cases b7 : v4 < 0
        · repeat (first | refine br_t (by assumption) ?_ | refine br_f (by assumption) ?_ | refine br_t (by decide) ?_ | refine br_f (by decide) ?_ | refine nm_e ?_ | refine And.intro (by assumption) ?_ | refine And.intro rfl ?_ | refine lx_isA (by assumption) ?_ | refine lx_nA (by assumption) ?_)
          exact J
        by_cases b8 : v4 ≤ 128
        · repeat (first | refine br_t (by assumption) ?_ | refine br_f (by assumption) ?_ | refine br_t (by decide) ?_ | refine br_f (by decide) ?_ | refine nm_e ?_ | refine And.intro (by assumption) ?_ | refine And.intro rfl ?_ | refine lx_isA (by assumption) ?_ | refine lx_nA (by assumption) ?_)
          obtain ⟨Qn, hq, eq⟩ := nI_of2 (M := 128) (n := 128) (by decide) b7 b8
          rw [nI_clamp (show ni < 2 ^ 31 by omega), nI_1 ni]
          exact K (yinBss := upd yinBss ni v4) (yinLen := upd yinLen ni 0) (by rw [eA, eq]; exact lk_N_sec hN hn hA (Or.inl ⟨b6, hq⟩)) (lk_Q_sec hQ)
        · repeat (first | refine br_t (by assumption) ?_ | refine br_f (by assumption) ?_ | refine br_t (by decide) ?_ | refine br_f (by decide) ?_ | refine nm_e ?_ | refine And.intro (by assumption) ?_ | refine And.intro rfl ?_ | refine lx_isA (by assumption) ?_ | refine lx_nA (by assumption) ?_)
          exact J
      · repeat (first | refine br_t (by assumption) ?_ | refine br_f (by assumption) ?_ | refine br_t (by decide) ?_ | refine br_f (by decide) ?_ | refine nm_e ?_ | refine And.intro (by assumption) ?_ | refine And.intro rfl ?_ | refine lx_isA (by assumption) ?_ | refine lx_nA (by assumption) ?_)
        rw [nI_clamp (show ni < 2 ^ 31 by omega), nI_1 ni]
        exact K (yinBss := upd yinBss ni 0) (yinLen := upd yinLen ni 0) (by rw [eA]; exact lk_N_sec (Q := 0) hN hn hA (Or.inr ⟨b6, rfl⟩)) (lk_Q_sec hQ)
    · have r1 : ¬ nI ni < 16 := nI_nlt (b := 16) (by omega) (by omega)
      by_cases b6 : v1 = 3
      · by_cases b7 : v4 < 0
        · repeat (first | refine br_t (by assumption) ?_ | refine br_f (by assumption) ?_ | refine br_t (by decide) ?_ | refine br_f (by decide) ?_ | refine nm_e ?_ | refine And.intro (by assumption) ?_ | refine And.intro rfl ?_ | refine lx_isA (by assumption) ?_ | refine lx_nA (by assumption) ?_)
          exact J
        by_cases b8 : v4 ≤ 128
        · repeat (first | refine br_t (by assumption) ?_ | refine br_f (by assumption) ?_ | refine br_t (by decide) ?_ | refine br_f (by decide) ?_ | refine nm_e ?_ | refine And.intro (by assumption) ?_ | refine And.intro rfl ?_ | refine lx_isA (by assumption) ?_ | refine lx_nA (by assumption) ?_)
          exact J
        · repeat (first | refine br_t (by assumption) ?_ | refine br_f (by assumption) ?_ | refine br_t (by decide) ?_ | refine br_f (by decide) ?_ | refine nm_e ?_ | refine And.intro (by assumption) ?_ | refine And.intro rfl ?_ | refine lx_isA (by assumption) ?_ | refine lx_nA (by assumption) ?_)
          exact J
      · repeat (first | refine br_t (by assumption) ?_ | refine br_f (by assumption) ?_ | refine br_t (by decide) ?_ | refine br_f (by decide) ?_ | refine nm_e ?_ | refine And.intro (by assumption) ?_ | refine And.intro rfl ?_ | refine lx_isA (by assumption) ?_ | refine lx_nA (by assumption) ?_)
        exact J
  · repeat (first | refine br_t (by assumption) ?_ | refine br_f (by assumption) ?_ | refine br_t (by decide) ?_ | refine br_f (by decide) ?_ | refine nm_e ?_ | refine And.intro (by assumption) ?_ | refine And.intro rfl ?_ | refine lx_isA (by assumption) ?_ | refine lx_nA (by assumption) ?_)
    exact J
end
end
section
section
theorem lk_scr1 {P : St2 → Prop} {ns no ng ni nb nr : Nat} {xphase xopenOut xopenGroup : Int32} {xregionSize xcounter xmemory xstmtOp xstmtA xstmtB xstmtOwner xoutRegion xoutLoaded xoutGroup xoutAlign xoutVma xoutLma xoutDot xgroupStart xgroupEnd xgroupResident xinKind xinId xinAlign xinSize xinFirstByte xinStmt xinLive xinVma xfedBytes xrelocOwner xrelocOffset xrelocType xrelocTarget xrelocAddend : Nat → Int32} {ystOut : Nat → Int32} {yinGroup : Int32} {v2 v3 : Int32} (J : P (xphase, (nI ns), xopenOut, xopenGroup, (nI no), (nI ng), (nI ni), (nI nb), (nI nr), xregionSize, xcounter, xmemory, xstmtOp, xstmtA, xstmtB, xstmtOwner, xoutRegion, xoutLoaded, xoutGroup, xoutAlign, xoutVma, xoutLma, xoutDot, xgroupStart, xgroupEnd, xgroupResident, xinKind, xinId, xinAlign, xinSize, xinFirstByte, xinStmt, xinLive, xinVma, xfedBytes, xrelocOwner, xrelocOffset, xrelocType, xrelocTarget, xrelocAddend)) (hS : lk_S ns no ng xstmtOp xstmtA xstmtB xstmtOwner ystOut xoutRegion xoutLoaded xoutGroup xopenOut xopenGroup yinGroup) (K : ∀ {ns no ng : Nat} {xopenOut xopenGroup yinGroup : Int32} {xstmtOp xstmtA xstmtB xstmtOwner xoutRegion xoutLoaded xoutGroup ystOut : Nat → Int32}, lk_S ns no ng xstmtOp xstmtA xstmtB xstmtOwner ystOut xoutRegion xoutLoaded xoutGroup xopenOut xopenGroup yinGroup → P (xphase, (nI ns), xopenOut, xopenGroup, (nI no), (nI ng), (nI ni), (nI nb), (nI nr), xregionSize, xcounter, xmemory, xstmtOp, xstmtA, xstmtB, xstmtOwner, xoutRegion, xoutLoaded, xoutGroup, xoutAlign, xoutVma, xoutLma, xoutDot, xgroupStart, xgroupEnd, xgroupResident, xinKind, xinId, xinAlign, xinSize, xinFirstByte, xinStmt, xinLive, xinVma, xfedBytes, xrelocOwner, xrelocOffset, xrelocType, xrelocTarget, xrelocAddend)) (hp : xphase = 0) : wpX_script (fun _ u => P u) (xphase, (nI ns), xopenOut, xopenGroup, (nI no), (nI ng), (nI ni), (nI nb), (nI nr), xregionSize, xcounter, xmemory, xstmtOp, xstmtA, xstmtB, xstmtOwner, xoutRegion, xoutLoaded, xoutGroup, xoutAlign, xoutVma, xoutLma, xoutDot, xgroupStart, xgroupEnd, xgroupResident, xinKind, xinId, xinAlign, xinSize, xinFirstByte, xinStmt, xinLive, xinVma, xfedBytes, xrelocOwner, xrelocOffset, xrelocType, xrelocTarget, xrelocAddend) 1 v2 v3 := by
  obtain ⟨c1, c2, c3, c4, c5, c6, c7, c8, c9⟩ := id hS
  rcases Bool.eq_false_or_eq_true (lk_is xstmtOp ns) with his | his
  · have hno := lk_is_p ns his
    rw [← c4] at hno
    rw [his, if_pos rfl] at c6
    subst c6
    have o1 : ¬ nI (no - 1) = -1 := lk_nn1 (by omega)
    have o2 : ¬ nI (no - 1) < 0 := nI_pos (by omega)
    rcases Bool.eq_false_or_eq_true (lk_ig xstmtOp ns) with hig | hig
    · have hng := lk_ig_p ns hig
      rw [← c5] at hng
      rw [hig, if_pos rfl] at c7 c8
      subst c7
      subst c8
      have g1 : ¬ nI (ng - 1) = -1 := lk_nn1 (by omega)
      repeat (first | refine br_t (by assumption) ?_ | refine br_f (by assumption) ?_ | refine br_t (by decide) ?_ | refine br_f (by decide) ?_ | refine nm_e ?_ | refine And.intro (by assumption) ?_ | refine And.intro rfl ?_ | refine lx_isA (by assumption) ?_ | refine lx_nA (by assumption) ?_)
      exact J
    · rw [hig, if_neg (by decide)] at c7 c8
      subst c7
      subst c8
      repeat (first | refine br_t (by assumption) ?_ | refine br_f (by assumption) ?_ | refine br_t (by decide) ?_ | refine br_f (by decide) ?_ | refine nm_e ?_ | refine And.intro (by assumption) ?_ | refine And.intro rfl ?_ | refine lx_isA (by assumption) ?_ | refine lx_nA (by assumption) ?_)
      exact J
  · rw [his, if_neg (by decide)] at c6
    subst c6
    rcases Bool.eq_false_or_eq_true (lk_ig xstmtOp ns) with hig | hig
    · have hng := lk_ig_p ns hig
      rw [← c5] at hng
      rw [hig, if_pos rfl] at c7 c8
      subst c7
      subst c8
      have g1 : ¬ nI (ng - 1) = -1 := lk_nn1 (by omega)
      rcases lk_01 v2 with rfl | rfl | ⟨a1, a2, a3⟩ | ⟨a1, a2, a3, a4, a5⟩
      · rcases lk_01 v3 with rfl | rfl | ⟨b1, b2, b3⟩ | ⟨b1, b2, b3, b4, b5⟩
        · repeat (first | refine br_t (by assumption) ?_ | refine br_f (by assumption) ?_ | refine br_t (by decide) ?_ | refine br_f (by decide) ?_ | refine nm_e ?_ | refine And.intro (by assumption) ?_ | refine And.intro rfl ?_ | refine lx_isA (by assumption) ?_ | refine lx_nA (by assumption) ?_)
          exact J
        · repeat (first | refine br_t (by assumption) ?_ | refine br_f (by assumption) ?_ | refine br_t (by decide) ?_ | refine br_f (by decide) ?_ | refine nm_e ?_ | refine And.intro (by assumption) ?_ | refine And.intro rfl ?_ | refine lx_isA (by assumption) ?_ | refine lx_nA (by assumption) ?_)
          exact J
        · repeat (first | refine br_t (by assumption) ?_ | refine br_f (by assumption) ?_ | refine br_t (by decide) ?_ | refine br_f (by decide) ?_ | refine nm_e ?_ | refine And.intro (by assumption) ?_ | refine And.intro rfl ?_ | refine lx_isA (by assumption) ?_ | refine lx_nA (by assumption) ?_)
          exact J
        · repeat (first | refine br_t (by assumption) ?_ | refine br_f (by assumption) ?_ | refine br_t (by decide) ?_ | refine br_f (by decide) ?_ | refine nm_e ?_ | refine And.intro (by assumption) ?_ | refine And.intro rfl ?_ | refine lx_isA (by assumption) ?_ | refine lx_nA (by assumption) ?_)
          exact J
      · rcases lk_01 v3 with rfl | rfl | ⟨b1, b2, b3⟩ | ⟨b1, b2, b3, b4, b5⟩
        · by_cases hn : ns < 32
          · have n1 : nI ns < 32 := nI_lt (b := 32) hn (by omega)
            have n2 : vp_in (nI ns) 32 := vp_in_nI hn (by omega)
            by_cases ho : no < 8
            · have n3 : nI no < 8 := nI_lt (b := 8) ho (by omega)
              have n4 : ¬ 8 ≤ nI no := nI_ge (b := 8) ho (by omega)
              have n5 : vp_in (nI no) 8 := vp_in_nI ho (by omega)
              repeat (first | refine br_t (by assumption) ?_ | refine br_f (by assumption) ?_ | refine br_t (by decide) ?_ | refine br_f (by decide) ?_ | refine nm_e ?_ | refine And.intro (by assumption) ?_ | refine And.intro rfl ?_ | refine lx_isA (by assumption) ?_ | refine lx_nA (by assumption) ?_)
              have eg : nI ng - 1 = nI (ng - 1) := pk_sub (b := 1) hng
              rw [nI_clamp (show ns < 2 ^ 31 by omega), nI_1 ns, nI_clamp (show no < 2 ^ 31 by omega), nI_1 no]
              exact K (lk_S_sec hS hn ho his (Or.inr ⟨rfl, Or.inl rfl⟩))
            · have n3 : ¬ nI no < 8 := nI_nlt (b := 8) (by omega) (by omega)
              have n4 : 8 ≤ nI no := nI_le (a := 8) (by omega) (by omega)
              repeat (first | refine br_t (by assumption) ?_ | refine br_f (by assumption) ?_ | refine br_t (by decide) ?_ | refine br_f (by decide) ?_ | refine nm_e ?_ | refine And.intro (by assumption) ?_ | refine And.intro rfl ?_ | refine lx_isA (by assumption) ?_ | refine lx_nA (by assumption) ?_)
              exact J
          · have n1 : ¬ nI ns < 32 := nI_nlt (b := 32) (by omega) (by omega)
            repeat (first | refine br_t (by assumption) ?_ | refine br_f (by assumption) ?_ | refine br_t (by decide) ?_ | refine br_f (by decide) ?_ | refine nm_e ?_ | refine And.intro (by assumption) ?_ | refine And.intro rfl ?_ | refine lx_isA (by assumption) ?_ | refine lx_nA (by assumption) ?_)
            exact J
        · by_cases hn : ns < 32
          · have n1 : nI ns < 32 := nI_lt (b := 32) hn (by omega)
            have n2 : vp_in (nI ns) 32 := vp_in_nI hn (by omega)
            by_cases ho : no < 8
            · have n3 : nI no < 8 := nI_lt (b := 8) ho (by omega)
              have n4 : ¬ 8 ≤ nI no := nI_ge (b := 8) ho (by omega)
              have n5 : vp_in (nI no) 8 := vp_in_nI ho (by omega)
              repeat (first | refine br_t (by assumption) ?_ | refine br_f (by assumption) ?_ | refine br_t (by decide) ?_ | refine br_f (by decide) ?_ | refine nm_e ?_ | refine And.intro (by assumption) ?_ | refine And.intro rfl ?_ | refine lx_isA (by assumption) ?_ | refine lx_nA (by assumption) ?_)
              have eg : nI ng - 1 = nI (ng - 1) := pk_sub (b := 1) hng
              rw [nI_clamp (show ns < 2 ^ 31 by omega), nI_1 ns, nI_clamp (show no < 2 ^ 31 by omega), nI_1 no]
              exact K (lk_S_sec hS hn ho his (Or.inr ⟨rfl, Or.inr rfl⟩))
            · have n3 : ¬ nI no < 8 := nI_nlt (b := 8) (by omega) (by omega)
              have n4 : 8 ≤ nI no := nI_le (a := 8) (by omega) (by omega)
              repeat (first | refine br_t (by assumption) ?_ | refine br_f (by assumption) ?_ | refine br_t (by decide) ?_ | refine br_f (by decide) ?_ | refine nm_e ?_ | refine And.intro (by assumption) ?_ | refine And.intro rfl ?_ | refine lx_isA (by assumption) ?_ | refine lx_nA (by assumption) ?_)
              exact J
          · have n1 : ¬ nI ns < 32 := nI_nlt (b := 32) (by omega) (by omega)
            repeat (first | refine br_t (by assumption) ?_ | refine br_f (by assumption) ?_ | refine br_t (by decide) ?_ | refine br_f (by decide) ?_ | refine nm_e ?_ | refine And.intro (by assumption) ?_ | refine And.intro rfl ?_ | refine lx_isA (by assumption) ?_ | refine lx_nA (by assumption) ?_)
            exact J
        · repeat (first | refine br_t (by assumption) ?_ | refine br_f (by assumption) ?_ | refine br_t (by decide) ?_ | refine br_f (by decide) ?_ | refine nm_e ?_ | refine And.intro (by assumption) ?_ | refine And.intro rfl ?_ | refine lx_isA (by assumption) ?_ | refine lx_nA (by assumption) ?_)
          exact J
        · repeat (first | refine br_t (by assumption) ?_ | refine br_f (by assumption) ?_ | refine br_t (by decide) ?_ | refine br_f (by decide) ?_ | refine nm_e ?_ | refine And.intro (by assumption) ?_ | refine And.intro rfl ?_ | refine lx_isA (by assumption) ?_ | refine lx_nA (by assumption) ?_)
          exact J
      · repeat (first | refine br_t (by assumption) ?_ | refine br_f (by assumption) ?_ | refine br_t (by decide) ?_ | refine br_f (by decide) ?_ | refine nm_e ?_ | refine And.intro (by assumption) ?_ | refine And.intro rfl ?_ | refine lx_isA (by assumption) ?_ | refine lx_nA (by assumption) ?_)
        exact J
      · repeat (first | refine br_t (by assumption) ?_ | refine br_f (by assumption) ?_ | refine br_t (by decide) ?_ | refine br_f (by decide) ?_ | refine nm_e ?_ | refine And.intro (by assumption) ?_ | refine And.intro rfl ?_ | refine lx_isA (by assumption) ?_ | refine lx_nA (by assumption) ?_)
        exact J
    · rw [hig, if_neg (by decide)] at c7 c8
      subst c7
      subst c8
      rcases lk_01 v2 with rfl | rfl | ⟨a1, a2, a3⟩ | ⟨a1, a2, a3, a4, a5⟩
      · rcases lk_01 v3 with rfl | rfl | ⟨b1, b2, b3⟩ | ⟨b1, b2, b3, b4, b5⟩
        · repeat (first | refine br_t (by assumption) ?_ | refine br_f (by assumption) ?_ | refine br_t (by decide) ?_ | refine br_f (by decide) ?_ | refine nm_e ?_ | refine And.intro (by assumption) ?_ | refine And.intro rfl ?_ | refine lx_isA (by assumption) ?_ | refine lx_nA (by assumption) ?_)
          exact J
        · by_cases hn : ns < 32
          · have n1 : nI ns < 32 := nI_lt (b := 32) hn (by omega)
            have n2 : vp_in (nI ns) 32 := vp_in_nI hn (by omega)
            by_cases ho : no < 8
            · have n3 : nI no < 8 := nI_lt (b := 8) ho (by omega)
              have n4 : ¬ 8 ≤ nI no := nI_ge (b := 8) ho (by omega)
              have n5 : vp_in (nI no) 8 := vp_in_nI ho (by omega)
              repeat (first | refine br_t (by assumption) ?_ | refine br_f (by assumption) ?_ | refine br_t (by decide) ?_ | refine br_f (by decide) ?_ | refine nm_e ?_ | refine And.intro (by assumption) ?_ | refine And.intro rfl ?_ | refine lx_isA (by assumption) ?_ | refine lx_nA (by assumption) ?_)
              rw [nI_clamp (show ns < 2 ^ 31 by omega), nI_1 ns, nI_clamp (show no < 2 ^ 31 by omega), nI_1 no]
              exact K (lk_S_sec hS hn ho his (Or.inl ⟨rfl, rfl, hig⟩))
            · have n3 : ¬ nI no < 8 := nI_nlt (b := 8) (by omega) (by omega)
              have n4 : 8 ≤ nI no := nI_le (a := 8) (by omega) (by omega)
              repeat (first | refine br_t (by assumption) ?_ | refine br_f (by assumption) ?_ | refine br_t (by decide) ?_ | refine br_f (by decide) ?_ | refine nm_e ?_ | refine And.intro (by assumption) ?_ | refine And.intro rfl ?_ | refine lx_isA (by assumption) ?_ | refine lx_nA (by assumption) ?_)
              exact J
          · have n1 : ¬ nI ns < 32 := nI_nlt (b := 32) (by omega) (by omega)
            repeat (first | refine br_t (by assumption) ?_ | refine br_f (by assumption) ?_ | refine br_t (by decide) ?_ | refine br_f (by decide) ?_ | refine nm_e ?_ | refine And.intro (by assumption) ?_ | refine And.intro rfl ?_ | refine lx_isA (by assumption) ?_ | refine lx_nA (by assumption) ?_)
            exact J
        · repeat (first | refine br_t (by assumption) ?_ | refine br_f (by assumption) ?_ | refine br_t (by decide) ?_ | refine br_f (by decide) ?_ | refine nm_e ?_ | refine And.intro (by assumption) ?_ | refine And.intro rfl ?_ | refine lx_isA (by assumption) ?_ | refine lx_nA (by assumption) ?_)
          exact J
        · repeat (first | refine br_t (by assumption) ?_ | refine br_f (by assumption) ?_ | refine br_t (by decide) ?_ | refine br_f (by decide) ?_ | refine nm_e ?_ | refine And.intro (by assumption) ?_ | refine And.intro rfl ?_ | refine lx_isA (by assumption) ?_ | refine lx_nA (by assumption) ?_)
          exact J
      · rcases lk_01 v3 with rfl | rfl | ⟨b1, b2, b3⟩ | ⟨b1, b2, b3, b4, b5⟩
        · by_cases hn : ns < 32
          · have n1 : nI ns < 32 := nI_lt (b := 32) hn (by omega)
            have n2 : vp_in (nI ns) 32 := vp_in_nI hn (by omega)
            by_cases ho : no < 8
            · have n3 : nI no < 8 := nI_lt (b := 8) ho (by omega)
              have n4 : ¬ 8 ≤ nI no := nI_ge (b := 8) ho (by omega)
              have n5 : vp_in (nI no) 8 := vp_in_nI ho (by omega)
              repeat (first | refine br_t (by assumption) ?_ | refine br_f (by assumption) ?_ | refine br_t (by decide) ?_ | refine br_f (by decide) ?_ | refine nm_e ?_ | refine And.intro (by assumption) ?_ | refine And.intro rfl ?_ | refine lx_isA (by assumption) ?_ | refine lx_nA (by assumption) ?_)
              rw [nI_clamp (show ns < 2 ^ 31 by omega), nI_1 ns, nI_clamp (show no < 2 ^ 31 by omega), nI_1 no]
              exact K (lk_S_sec hS hn ho his (Or.inr ⟨rfl, Or.inl rfl⟩))
            · have n3 : ¬ nI no < 8 := nI_nlt (b := 8) (by omega) (by omega)
              have n4 : 8 ≤ nI no := nI_le (a := 8) (by omega) (by omega)
              repeat (first | refine br_t (by assumption) ?_ | refine br_f (by assumption) ?_ | refine br_t (by decide) ?_ | refine br_f (by decide) ?_ | refine nm_e ?_ | refine And.intro (by assumption) ?_ | refine And.intro rfl ?_ | refine lx_isA (by assumption) ?_ | refine lx_nA (by assumption) ?_)
              exact J
          · have n1 : ¬ nI ns < 32 := nI_nlt (b := 32) (by omega) (by omega)
            repeat (first | refine br_t (by assumption) ?_ | refine br_f (by assumption) ?_ | refine br_t (by decide) ?_ | refine br_f (by decide) ?_ | refine nm_e ?_ | refine And.intro (by assumption) ?_ | refine And.intro rfl ?_ | refine lx_isA (by assumption) ?_ | refine lx_nA (by assumption) ?_)
            exact J
        · by_cases hn : ns < 32
          · have n1 : nI ns < 32 := nI_lt (b := 32) hn (by omega)
            have n2 : vp_in (nI ns) 32 := vp_in_nI hn (by omega)
            by_cases ho : no < 8
            · have n3 : nI no < 8 := nI_lt (b := 8) ho (by omega)
              have n4 : ¬ 8 ≤ nI no := nI_ge (b := 8) ho (by omega)
              have n5 : vp_in (nI no) 8 := vp_in_nI ho (by omega)
              repeat (first | refine br_t (by assumption) ?_ | refine br_f (by assumption) ?_ | refine br_t (by decide) ?_ | refine br_f (by decide) ?_ | refine nm_e ?_ | refine And.intro (by assumption) ?_ | refine And.intro rfl ?_ | refine lx_isA (by assumption) ?_ | refine lx_nA (by assumption) ?_)
              rw [nI_clamp (show ns < 2 ^ 31 by omega), nI_1 ns, nI_clamp (show no < 2 ^ 31 by omega), nI_1 no]
              exact K (lk_S_sec hS hn ho his (Or.inr ⟨rfl, Or.inr rfl⟩))
            · have n3 : ¬ nI no < 8 := nI_nlt (b := 8) (by omega) (by omega)
              have n4 : 8 ≤ nI no := nI_le (a := 8) (by omega) (by omega)
              repeat (first | refine br_t (by assumption) ?_ | refine br_f (by assumption) ?_ | refine br_t (by decide) ?_ | refine br_f (by decide) ?_ | refine nm_e ?_ | refine And.intro (by assumption) ?_ | refine And.intro rfl ?_ | refine lx_isA (by assumption) ?_ | refine lx_nA (by assumption) ?_)
              exact J
          · have n1 : ¬ nI ns < 32 := nI_nlt (b := 32) (by omega) (by omega)
            repeat (first | refine br_t (by assumption) ?_ | refine br_f (by assumption) ?_ | refine br_t (by decide) ?_ | refine br_f (by decide) ?_ | refine nm_e ?_ | refine And.intro (by assumption) ?_ | refine And.intro rfl ?_ | refine lx_isA (by assumption) ?_ | refine lx_nA (by assumption) ?_)
            exact J
        · repeat (first | refine br_t (by assumption) ?_ | refine br_f (by assumption) ?_ | refine br_t (by decide) ?_ | refine br_f (by decide) ?_ | refine nm_e ?_ | refine And.intro (by assumption) ?_ | refine And.intro rfl ?_ | refine lx_isA (by assumption) ?_ | refine lx_nA (by assumption) ?_)
          exact J
        · repeat (first | refine br_t (by assumption) ?_ | refine br_f (by assumption) ?_ | refine br_t (by decide) ?_ | refine br_f (by decide) ?_ | refine nm_e ?_ | refine And.intro (by assumption) ?_ | refine And.intro rfl ?_ | refine lx_isA (by assumption) ?_ | refine lx_nA (by assumption) ?_)
          exact J
      · repeat (first | refine br_t (by assumption) ?_ | refine br_f (by assumption) ?_ | refine br_t (by decide) ?_ | refine br_f (by decide) ?_ | refine nm_e ?_ | refine And.intro (by assumption) ?_ | refine And.intro rfl ?_ | refine lx_isA (by assumption) ?_ | refine lx_nA (by assumption) ?_)
        exact J
      · repeat (first | refine br_t (by assumption) ?_ | refine br_f (by assumption) ?_ | refine br_t (by decide) ?_ | refine br_f (by decide) ?_ | refine nm_e ?_ | refine And.intro (by assumption) ?_ | refine And.intro rfl ?_ | refine lx_isA (by assumption) ?_ | refine lx_nA (by assumption) ?_)
        exact J
end
end
section
section
theorem lk_scr2 {P : St2 → Prop} {ns no ng ni nb nr : Nat} {xphase xopenOut xopenGroup : Int32} {xregionSize xcounter xmemory xstmtOp xstmtA xstmtB xstmtOwner xoutRegion xoutLoaded xoutGroup xoutAlign xoutVma xoutLma xoutDot xgroupStart xgroupEnd xgroupResident xinKind xinId xinAlign xinSize xinFirstByte xinStmt xinLive xinVma xfedBytes xrelocOwner xrelocOffset xrelocType xrelocTarget xrelocAddend : Nat → Int32} {ystOut : Nat → Int32} {yinGroup : Int32} {v2 v3 : Int32} (J : P (xphase, (nI ns), xopenOut, xopenGroup, (nI no), (nI ng), (nI ni), (nI nb), (nI nr), xregionSize, xcounter, xmemory, xstmtOp, xstmtA, xstmtB, xstmtOwner, xoutRegion, xoutLoaded, xoutGroup, xoutAlign, xoutVma, xoutLma, xoutDot, xgroupStart, xgroupEnd, xgroupResident, xinKind, xinId, xinAlign, xinSize, xinFirstByte, xinStmt, xinLive, xinVma, xfedBytes, xrelocOwner, xrelocOffset, xrelocType, xrelocTarget, xrelocAddend)) (hS : lk_S ns no ng xstmtOp xstmtA xstmtB xstmtOwner ystOut xoutRegion xoutLoaded xoutGroup xopenOut xopenGroup yinGroup) (K : ∀ {ns no ng : Nat} {xopenOut xopenGroup yinGroup : Int32} {xstmtOp xstmtA xstmtB xstmtOwner xoutRegion xoutLoaded xoutGroup ystOut : Nat → Int32}, lk_S ns no ng xstmtOp xstmtA xstmtB xstmtOwner ystOut xoutRegion xoutLoaded xoutGroup xopenOut xopenGroup yinGroup → P (xphase, (nI ns), xopenOut, xopenGroup, (nI no), (nI ng), (nI ni), (nI nb), (nI nr), xregionSize, xcounter, xmemory, xstmtOp, xstmtA, xstmtB, xstmtOwner, xoutRegion, xoutLoaded, xoutGroup, xoutAlign, xoutVma, xoutLma, xoutDot, xgroupStart, xgroupEnd, xgroupResident, xinKind, xinId, xinAlign, xinSize, xinFirstByte, xinStmt, xinLive, xinVma, xfedBytes, xrelocOwner, xrelocOffset, xrelocType, xrelocTarget, xrelocAddend)) (hp : xphase = 0) : wpX_script (fun _ u => P u) (xphase, (nI ns), xopenOut, xopenGroup, (nI no), (nI ng), (nI ni), (nI nb), (nI nr), xregionSize, xcounter, xmemory, xstmtOp, xstmtA, xstmtB, xstmtOwner, xoutRegion, xoutLoaded, xoutGroup, xoutAlign, xoutVma, xoutLma, xoutDot, xgroupStart, xgroupEnd, xgroupResident, xinKind, xinId, xinAlign, xinSize, xinFirstByte, xinStmt, xinLive, xinVma, xfedBytes, xrelocOwner, xrelocOffset, xrelocType, xrelocTarget, xrelocAddend) 2 v2 v3 := by
  obtain ⟨c1, c2, c3, c4, c5, c6, c7, c8, c9⟩ := id hS
  rcases Bool.eq_false_or_eq_true (lk_is xstmtOp ns) with his | his
  · have hno := lk_is_p ns his
    rw [← c4] at hno
    rw [his, if_pos rfl] at c6
    subst c6
    have o1 : ¬ nI (no - 1) = -1 := lk_nn1 (by omega)
    have o2 : ¬ nI (no - 1) < 0 := nI_pos (by omega)
    rcases Bool.eq_false_or_eq_true (lk_ig xstmtOp ns) with hig | hig
    · have hng := lk_ig_p ns hig
      rw [← c5] at hng
      rw [hig, if_pos rfl] at c7 c8
      subst c7
      subst c8
      have g1 : ¬ nI (ng - 1) = -1 := lk_nn1 (by omega)
      by_cases hn : ns < 32
      · have n1 : nI ns < 32 := nI_lt (b := 32) hn (by omega)
        have n2 : vp_in (nI ns) 32 := vp_in_nI hn (by omega)
        repeat (first | refine br_t (by assumption) ?_ | refine br_f (by assumption) ?_ | refine br_t (by decide) ?_ | refine br_f (by decide) ?_ | refine nm_e ?_ | refine And.intro (by assumption) ?_ | refine And.intro rfl ?_ | refine lx_isA (by assumption) ?_ | refine lx_nA (by assumption) ?_)
        rw [nI_clamp (show ns < 2 ^ 31 by omega), nI_1 ns]
        refine K (lk_S_st (o2 := nI (no - 1)) (x := 2) hS hn (by decide) (by decide) rfl rfl rfl ?_)
        unfold lk_sc
        simp only [lk_is_u ns (Nat.le_refl ns), lk_ig_u ns (Nat.le_refl ns), lk_no_u ns (Nat.le_refl ns), lk_ng_u ns (Nat.le_refl ns), pk_us, ← c4, ← c5]
        exact Or.inr (Or.inl ⟨Or.inl (by trivial), his, (by trivial), (by trivial)⟩)
      · have n1 : ¬ nI ns < 32 := nI_nlt (b := 32) (by omega) (by omega)
        repeat (first | refine br_t (by assumption) ?_ | refine br_f (by assumption) ?_ | refine br_t (by decide) ?_ | refine br_f (by decide) ?_ | refine nm_e ?_ | refine And.intro (by assumption) ?_ | refine And.intro rfl ?_ | refine lx_isA (by assumption) ?_ | refine lx_nA (by assumption) ?_)
        exact J
    · rw [hig, if_neg (by decide)] at c7 c8
      subst c7
      subst c8
      by_cases hn : ns < 32
      · have n1 : nI ns < 32 := nI_lt (b := 32) hn (by omega)
        have n2 : vp_in (nI ns) 32 := vp_in_nI hn (by omega)
        repeat (first | refine br_t (by assumption) ?_ | refine br_f (by assumption) ?_ | refine br_t (by decide) ?_ | refine br_f (by decide) ?_ | refine nm_e ?_ | refine And.intro (by assumption) ?_ | refine And.intro rfl ?_ | refine lx_isA (by assumption) ?_ | refine lx_nA (by assumption) ?_)
        rw [nI_clamp (show ns < 2 ^ 31 by omega), nI_1 ns]
        refine K (lk_S_st (o2 := nI (no - 1)) (x := 2) hS hn (by decide) (by decide) rfl rfl rfl ?_)
        unfold lk_sc
        simp only [lk_is_u ns (Nat.le_refl ns), lk_ig_u ns (Nat.le_refl ns), lk_no_u ns (Nat.le_refl ns), lk_ng_u ns (Nat.le_refl ns), pk_us, ← c4, ← c5]
        exact Or.inr (Or.inl ⟨Or.inl (by trivial), his, (by trivial), (by trivial)⟩)
      · have n1 : ¬ nI ns < 32 := nI_nlt (b := 32) (by omega) (by omega)
        repeat (first | refine br_t (by assumption) ?_ | refine br_f (by assumption) ?_ | refine br_t (by decide) ?_ | refine br_f (by decide) ?_ | refine nm_e ?_ | refine And.intro (by assumption) ?_ | refine And.intro rfl ?_ | refine lx_isA (by assumption) ?_ | refine lx_nA (by assumption) ?_)
        exact J
  · rw [his, if_neg (by decide)] at c6
    subst c6
    rcases Bool.eq_false_or_eq_true (lk_ig xstmtOp ns) with hig | hig
    · have hng := lk_ig_p ns hig
      rw [← c5] at hng
      rw [hig, if_pos rfl] at c7 c8
      subst c7
      subst c8
      have g1 : ¬ nI (ng - 1) = -1 := lk_nn1 (by omega)
      repeat (first | refine br_t (by assumption) ?_ | refine br_f (by assumption) ?_ | refine br_t (by decide) ?_ | refine br_f (by decide) ?_ | refine nm_e ?_ | refine And.intro (by assumption) ?_ | refine And.intro rfl ?_ | refine lx_isA (by assumption) ?_ | refine lx_nA (by assumption) ?_)
      exact J
    · rw [hig, if_neg (by decide)] at c7 c8
      subst c7
      subst c8
      repeat (first | refine br_t (by assumption) ?_ | refine br_f (by assumption) ?_ | refine br_t (by decide) ?_ | refine br_f (by decide) ?_ | refine nm_e ?_ | refine And.intro (by assumption) ?_ | refine And.intro rfl ?_ | refine lx_isA (by assumption) ?_ | refine lx_nA (by assumption) ?_)
      exact J
theorem lk_scr3 {P : St2 → Prop} {ns no ng ni nb nr : Nat} {xphase xopenOut xopenGroup : Int32} {xregionSize xcounter xmemory xstmtOp xstmtA xstmtB xstmtOwner xoutRegion xoutLoaded xoutGroup xoutAlign xoutVma xoutLma xoutDot xgroupStart xgroupEnd xgroupResident xinKind xinId xinAlign xinSize xinFirstByte xinStmt xinLive xinVma xfedBytes xrelocOwner xrelocOffset xrelocType xrelocTarget xrelocAddend : Nat → Int32} {ystOut : Nat → Int32} {yinGroup : Int32} {v2 v3 : Int32} (J : P (xphase, (nI ns), xopenOut, xopenGroup, (nI no), (nI ng), (nI ni), (nI nb), (nI nr), xregionSize, xcounter, xmemory, xstmtOp, xstmtA, xstmtB, xstmtOwner, xoutRegion, xoutLoaded, xoutGroup, xoutAlign, xoutVma, xoutLma, xoutDot, xgroupStart, xgroupEnd, xgroupResident, xinKind, xinId, xinAlign, xinSize, xinFirstByte, xinStmt, xinLive, xinVma, xfedBytes, xrelocOwner, xrelocOffset, xrelocType, xrelocTarget, xrelocAddend)) (hS : lk_S ns no ng xstmtOp xstmtA xstmtB xstmtOwner ystOut xoutRegion xoutLoaded xoutGroup xopenOut xopenGroup yinGroup) (K : ∀ {ns no ng : Nat} {xopenOut xopenGroup yinGroup : Int32} {xstmtOp xstmtA xstmtB xstmtOwner xoutRegion xoutLoaded xoutGroup ystOut : Nat → Int32}, lk_S ns no ng xstmtOp xstmtA xstmtB xstmtOwner ystOut xoutRegion xoutLoaded xoutGroup xopenOut xopenGroup yinGroup → P (xphase, (nI ns), xopenOut, xopenGroup, (nI no), (nI ng), (nI ni), (nI nb), (nI nr), xregionSize, xcounter, xmemory, xstmtOp, xstmtA, xstmtB, xstmtOwner, xoutRegion, xoutLoaded, xoutGroup, xoutAlign, xoutVma, xoutLma, xoutDot, xgroupStart, xgroupEnd, xgroupResident, xinKind, xinId, xinAlign, xinSize, xinFirstByte, xinStmt, xinLive, xinVma, xfedBytes, xrelocOwner, xrelocOffset, xrelocType, xrelocTarget, xrelocAddend)) (hp : xphase = 0) : wpX_script (fun _ u => P u) (xphase, (nI ns), xopenOut, xopenGroup, (nI no), (nI ng), (nI ni), (nI nb), (nI nr), xregionSize, xcounter, xmemory, xstmtOp, xstmtA, xstmtB, xstmtOwner, xoutRegion, xoutLoaded, xoutGroup, xoutAlign, xoutVma, xoutLma, xoutDot, xgroupStart, xgroupEnd, xgroupResident, xinKind, xinId, xinAlign, xinSize, xinFirstByte, xinStmt, xinLive, xinVma, xfedBytes, xrelocOwner, xrelocOffset, xrelocType, xrelocTarget, xrelocAddend) 3 v2 v3 := by
  obtain ⟨c1, c2, c3, c4, c5, c6, c7, c8, c9⟩ := id hS
  rcases Bool.eq_false_or_eq_true (lk_is xstmtOp ns) with his | his
  · have hno := lk_is_p ns his
    rw [← c4] at hno
    rw [his, if_pos rfl] at c6
    subst c6
    have o1 : ¬ nI (no - 1) = -1 := lk_nn1 (by omega)
    have o2 : ¬ nI (no - 1) < 0 := nI_pos (by omega)
    rcases Bool.eq_false_or_eq_true (lk_ig xstmtOp ns) with hig | hig
    · have hng := lk_ig_p ns hig
      rw [← c5] at hng
      rw [hig, if_pos rfl] at c7 c8
      subst c7
      subst c8
      have g1 : ¬ nI (ng - 1) = -1 := lk_nn1 (by omega)
      by_cases a1 : v2 < -1
      · repeat (first | refine br_t (by assumption) ?_ | refine br_f (by assumption) ?_ | refine br_t (by decide) ?_ | refine br_f (by decide) ?_ | refine nm_e ?_ | refine And.intro (by assumption) ?_ | refine And.intro rfl ?_ | refine lx_isA (by assumption) ?_ | refine lx_nA (by assumption) ?_)
        exact J
      by_cases a2 : 15 < v2
      · repeat (first | refine br_t (by assumption) ?_ | refine br_f (by assumption) ?_ | refine br_t (by decide) ?_ | refine br_f (by decide) ?_ | refine nm_e ?_ | refine And.intro (by assumption) ?_ | refine And.intro rfl ?_ | refine lx_isA (by assumption) ?_ | refine lx_nA (by assumption) ?_)
        exact J
      by_cases a3 : v3 < 0
      · repeat (first | refine br_t (by assumption) ?_ | refine br_f (by assumption) ?_ | refine br_t (by decide) ?_ | refine br_f (by decide) ?_ | refine nm_e ?_ | refine And.intro (by assumption) ?_ | refine And.intro rfl ?_ | refine lx_isA (by assumption) ?_ | refine lx_nA (by assumption) ?_)
        exact J
      by_cases a4 : 3 < v3
      · have a5 : ¬ v3 ≤ 3 := Int32.not_le.mpr a4
        repeat (first | refine br_t (by assumption) ?_ | refine br_f (by assumption) ?_ | refine br_t (by decide) ?_ | refine br_f (by decide) ?_ | refine nm_e ?_ | refine And.intro (by assumption) ?_ | refine And.intro rfl ?_ | refine lx_isA (by assumption) ?_ | refine lx_nA (by assumption) ?_)
        exact J
      have a5 : v3 ≤ 3 := Int32.not_lt.mp a4
      by_cases hn : ns < 32
      · have n1 : nI ns < 32 := nI_lt (b := 32) hn (by omega)
        have n2 : vp_in (nI ns) 32 := vp_in_nI hn (by omega)
        repeat (first | refine br_t (by assumption) ?_ | refine br_f (by assumption) ?_ | refine br_t (by decide) ?_ | refine br_f (by decide) ?_ | refine nm_e ?_ | refine And.intro (by assumption) ?_ | refine And.intro rfl ?_ | refine lx_isA (by assumption) ?_ | refine lx_nA (by assumption) ?_)
        rw [nI_clamp (show ns < 2 ^ 31 by omega), nI_1 ns]
        refine K (lk_S_st (o2 := nI (no - 1)) (x := 3) hS hn (by decide) (by decide) rfl rfl rfl ?_)
        unfold lk_sc
        simp only [lk_is_u ns (Nat.le_refl ns), lk_ig_u ns (Nat.le_refl ns), lk_no_u ns (Nat.le_refl ns), lk_ng_u ns (Nat.le_refl ns), pk_us, ← c4, ← c5]
        exact Or.inr (Or.inl ⟨Or.inr (Or.inl (by trivial)), his, (by trivial), (by trivial)⟩)
      · have n1 : ¬ nI ns < 32 := nI_nlt (b := 32) (by omega) (by omega)
        repeat (first | refine br_t (by assumption) ?_ | refine br_f (by assumption) ?_ | refine br_t (by decide) ?_ | refine br_f (by decide) ?_ | refine nm_e ?_ | refine And.intro (by assumption) ?_ | refine And.intro rfl ?_ | refine lx_isA (by assumption) ?_ | refine lx_nA (by assumption) ?_)
        exact J
    · rw [hig, if_neg (by decide)] at c7 c8
      subst c7
      subst c8
      by_cases a1 : v2 < -1
      · repeat (first | refine br_t (by assumption) ?_ | refine br_f (by assumption) ?_ | refine br_t (by decide) ?_ | refine br_f (by decide) ?_ | refine nm_e ?_ | refine And.intro (by assumption) ?_ | refine And.intro rfl ?_ | refine lx_isA (by assumption) ?_ | refine lx_nA (by assumption) ?_)
        exact J
      by_cases a2 : 15 < v2
      · repeat (first | refine br_t (by assumption) ?_ | refine br_f (by assumption) ?_ | refine br_t (by decide) ?_ | refine br_f (by decide) ?_ | refine nm_e ?_ | refine And.intro (by assumption) ?_ | refine And.intro rfl ?_ | refine lx_isA (by assumption) ?_ | refine lx_nA (by assumption) ?_)
        exact J
      by_cases a3 : v3 < 0
      · repeat (first | refine br_t (by assumption) ?_ | refine br_f (by assumption) ?_ | refine br_t (by decide) ?_ | refine br_f (by decide) ?_ | refine nm_e ?_ | refine And.intro (by assumption) ?_ | refine And.intro rfl ?_ | refine lx_isA (by assumption) ?_ | refine lx_nA (by assumption) ?_)
        exact J
      by_cases a4 : 3 < v3
      · have a5 : ¬ v3 ≤ 3 := Int32.not_le.mpr a4
        repeat (first | refine br_t (by assumption) ?_ | refine br_f (by assumption) ?_ | refine br_t (by decide) ?_ | refine br_f (by decide) ?_ | refine nm_e ?_ | refine And.intro (by assumption) ?_ | refine And.intro rfl ?_ | refine lx_isA (by assumption) ?_ | refine lx_nA (by assumption) ?_)
        exact J
      have a5 : v3 ≤ 3 := Int32.not_lt.mp a4
      by_cases hn : ns < 32
      · have n1 : nI ns < 32 := nI_lt (b := 32) hn (by omega)
        have n2 : vp_in (nI ns) 32 := vp_in_nI hn (by omega)
        repeat (first | refine br_t (by assumption) ?_ | refine br_f (by assumption) ?_ | refine br_t (by decide) ?_ | refine br_f (by decide) ?_ | refine nm_e ?_ | refine And.intro (by assumption) ?_ | refine And.intro rfl ?_ | refine lx_isA (by assumption) ?_ | refine lx_nA (by assumption) ?_)
        rw [nI_clamp (show ns < 2 ^ 31 by omega), nI_1 ns]
        refine K (lk_S_st (o2 := nI (no - 1)) (x := 3) hS hn (by decide) (by decide) rfl rfl rfl ?_)
        unfold lk_sc
        simp only [lk_is_u ns (Nat.le_refl ns), lk_ig_u ns (Nat.le_refl ns), lk_no_u ns (Nat.le_refl ns), lk_ng_u ns (Nat.le_refl ns), pk_us, ← c4, ← c5]
        exact Or.inr (Or.inl ⟨Or.inr (Or.inl (by trivial)), his, (by trivial), (by trivial)⟩)
      · have n1 : ¬ nI ns < 32 := nI_nlt (b := 32) (by omega) (by omega)
        repeat (first | refine br_t (by assumption) ?_ | refine br_f (by assumption) ?_ | refine br_t (by decide) ?_ | refine br_f (by decide) ?_ | refine nm_e ?_ | refine And.intro (by assumption) ?_ | refine And.intro rfl ?_ | refine lx_isA (by assumption) ?_ | refine lx_nA (by assumption) ?_)
        exact J
  · rw [his, if_neg (by decide)] at c6
    subst c6
    rcases Bool.eq_false_or_eq_true (lk_ig xstmtOp ns) with hig | hig
    · have hng := lk_ig_p ns hig
      rw [← c5] at hng
      rw [hig, if_pos rfl] at c7 c8
      subst c7
      subst c8
      have g1 : ¬ nI (ng - 1) = -1 := lk_nn1 (by omega)
      repeat (first | refine br_t (by assumption) ?_ | refine br_f (by assumption) ?_ | refine br_t (by decide) ?_ | refine br_f (by decide) ?_ | refine nm_e ?_ | refine And.intro (by assumption) ?_ | refine And.intro rfl ?_ | refine lx_isA (by assumption) ?_ | refine lx_nA (by assumption) ?_)
      exact J
    · rw [hig, if_neg (by decide)] at c7 c8
      subst c7
      subst c8
      repeat (first | refine br_t (by assumption) ?_ | refine br_f (by assumption) ?_ | refine br_t (by decide) ?_ | refine br_f (by decide) ?_ | refine nm_e ?_ | refine And.intro (by assumption) ?_ | refine And.intro rfl ?_ | refine lx_isA (by assumption) ?_ | refine lx_nA (by assumption) ?_)
      exact J
theorem lk_scr4 {P : St2 → Prop} {ns no ng ni nb nr : Nat} {xphase xopenOut xopenGroup : Int32} {xregionSize xcounter xmemory xstmtOp xstmtA xstmtB xstmtOwner xoutRegion xoutLoaded xoutGroup xoutAlign xoutVma xoutLma xoutDot xgroupStart xgroupEnd xgroupResident xinKind xinId xinAlign xinSize xinFirstByte xinStmt xinLive xinVma xfedBytes xrelocOwner xrelocOffset xrelocType xrelocTarget xrelocAddend : Nat → Int32} {ystOut : Nat → Int32} {yinGroup : Int32} {v2 v3 : Int32} (J : P (xphase, (nI ns), xopenOut, xopenGroup, (nI no), (nI ng), (nI ni), (nI nb), (nI nr), xregionSize, xcounter, xmemory, xstmtOp, xstmtA, xstmtB, xstmtOwner, xoutRegion, xoutLoaded, xoutGroup, xoutAlign, xoutVma, xoutLma, xoutDot, xgroupStart, xgroupEnd, xgroupResident, xinKind, xinId, xinAlign, xinSize, xinFirstByte, xinStmt, xinLive, xinVma, xfedBytes, xrelocOwner, xrelocOffset, xrelocType, xrelocTarget, xrelocAddend)) (hS : lk_S ns no ng xstmtOp xstmtA xstmtB xstmtOwner ystOut xoutRegion xoutLoaded xoutGroup xopenOut xopenGroup yinGroup) (K : ∀ {ns no ng : Nat} {xopenOut xopenGroup yinGroup : Int32} {xstmtOp xstmtA xstmtB xstmtOwner xoutRegion xoutLoaded xoutGroup ystOut : Nat → Int32}, lk_S ns no ng xstmtOp xstmtA xstmtB xstmtOwner ystOut xoutRegion xoutLoaded xoutGroup xopenOut xopenGroup yinGroup → P (xphase, (nI ns), xopenOut, xopenGroup, (nI no), (nI ng), (nI ni), (nI nb), (nI nr), xregionSize, xcounter, xmemory, xstmtOp, xstmtA, xstmtB, xstmtOwner, xoutRegion, xoutLoaded, xoutGroup, xoutAlign, xoutVma, xoutLma, xoutDot, xgroupStart, xgroupEnd, xgroupResident, xinKind, xinId, xinAlign, xinSize, xinFirstByte, xinStmt, xinLive, xinVma, xfedBytes, xrelocOwner, xrelocOffset, xrelocType, xrelocTarget, xrelocAddend)) (hp : xphase = 0) : wpX_script (fun _ u => P u) (xphase, (nI ns), xopenOut, xopenGroup, (nI no), (nI ng), (nI ni), (nI nb), (nI nr), xregionSize, xcounter, xmemory, xstmtOp, xstmtA, xstmtB, xstmtOwner, xoutRegion, xoutLoaded, xoutGroup, xoutAlign, xoutVma, xoutLma, xoutDot, xgroupStart, xgroupEnd, xgroupResident, xinKind, xinId, xinAlign, xinSize, xinFirstByte, xinStmt, xinLive, xinVma, xfedBytes, xrelocOwner, xrelocOffset, xrelocType, xrelocTarget, xrelocAddend) 4 v2 v3 := by
  obtain ⟨c1, c2, c3, c4, c5, c6, c7, c8, c9⟩ := id hS
  rcases Bool.eq_false_or_eq_true (lk_is xstmtOp ns) with his | his
  · have hno := lk_is_p ns his
    rw [← c4] at hno
    rw [his, if_pos rfl] at c6
    subst c6
    have o1 : ¬ nI (no - 1) = -1 := lk_nn1 (by omega)
    have o2 : ¬ nI (no - 1) < 0 := nI_pos (by omega)
    rcases Bool.eq_false_or_eq_true (lk_ig xstmtOp ns) with hig | hig
    · have hng := lk_ig_p ns hig
      rw [← c5] at hng
      rw [hig, if_pos rfl] at c7 c8
      subst c7
      subst c8
      have g1 : ¬ nI (ng - 1) = -1 := lk_nn1 (by omega)
      by_cases a1 : v2 < -1
      · repeat (first | refine br_t (by assumption) ?_ | refine br_f (by assumption) ?_ | refine br_t (by decide) ?_ | refine br_f (by decide) ?_ | refine nm_e ?_ | refine And.intro (by assumption) ?_ | refine And.intro rfl ?_ | refine lx_isA (by assumption) ?_ | refine lx_nA (by assumption) ?_)
        exact J
      by_cases a2 : 15 < v2
      · repeat (first | refine br_t (by assumption) ?_ | refine br_f (by assumption) ?_ | refine br_t (by decide) ?_ | refine br_f (by decide) ?_ | refine nm_e ?_ | refine And.intro (by assumption) ?_ | refine And.intro rfl ?_ | refine lx_isA (by assumption) ?_ | refine lx_nA (by assumption) ?_)
        exact J
      by_cases a3 : v3 < 0
      · repeat (first | refine br_t (by assumption) ?_ | refine br_f (by assumption) ?_ | refine br_t (by decide) ?_ | refine br_f (by decide) ?_ | refine nm_e ?_ | refine And.intro (by assumption) ?_ | refine And.intro rfl ?_ | refine lx_isA (by assumption) ?_ | refine lx_nA (by assumption) ?_)
        exact J
      by_cases a4 : 3 < v3
      · have a5 : ¬ v3 ≤ 3 := Int32.not_le.mpr a4
        repeat (first | refine br_t (by assumption) ?_ | refine br_f (by assumption) ?_ | refine br_t (by decide) ?_ | refine br_f (by decide) ?_ | refine nm_e ?_ | refine And.intro (by assumption) ?_ | refine And.intro rfl ?_ | refine lx_isA (by assumption) ?_ | refine lx_nA (by assumption) ?_)
        exact J
      have a5 : v3 ≤ 3 := Int32.not_lt.mp a4
      by_cases hn : ns < 32
      · have n1 : nI ns < 32 := nI_lt (b := 32) hn (by omega)
        have n2 : vp_in (nI ns) 32 := vp_in_nI hn (by omega)
        repeat (first | refine br_t (by assumption) ?_ | refine br_f (by assumption) ?_ | refine br_t (by decide) ?_ | refine br_f (by decide) ?_ | refine nm_e ?_ | refine And.intro (by assumption) ?_ | refine And.intro rfl ?_ | refine lx_isA (by assumption) ?_ | refine lx_nA (by assumption) ?_)
        rw [nI_clamp (show ns < 2 ^ 31 by omega), nI_1 ns]
        refine K (lk_S_st (o2 := nI (no - 1)) (x := 4) hS hn (by decide) (by decide) rfl rfl rfl ?_)
        unfold lk_sc
        simp only [lk_is_u ns (Nat.le_refl ns), lk_ig_u ns (Nat.le_refl ns), lk_no_u ns (Nat.le_refl ns), lk_ng_u ns (Nat.le_refl ns), pk_us, ← c4, ← c5]
        exact Or.inr (Or.inl ⟨Or.inr (Or.inr (by trivial)), his, (by trivial), (by trivial)⟩)
      · have n1 : ¬ nI ns < 32 := nI_nlt (b := 32) (by omega) (by omega)
        repeat (first | refine br_t (by assumption) ?_ | refine br_f (by assumption) ?_ | refine br_t (by decide) ?_ | refine br_f (by decide) ?_ | refine nm_e ?_ | refine And.intro (by assumption) ?_ | refine And.intro rfl ?_ | refine lx_isA (by assumption) ?_ | refine lx_nA (by assumption) ?_)
        exact J
    · rw [hig, if_neg (by decide)] at c7 c8
      subst c7
      subst c8
      by_cases a1 : v2 < -1
      · repeat (first | refine br_t (by assumption) ?_ | refine br_f (by assumption) ?_ | refine br_t (by decide) ?_ | refine br_f (by decide) ?_ | refine nm_e ?_ | refine And.intro (by assumption) ?_ | refine And.intro rfl ?_ | refine lx_isA (by assumption) ?_ | refine lx_nA (by assumption) ?_)
        exact J
      by_cases a2 : 15 < v2
      · repeat (first | refine br_t (by assumption) ?_ | refine br_f (by assumption) ?_ | refine br_t (by decide) ?_ | refine br_f (by decide) ?_ | refine nm_e ?_ | refine And.intro (by assumption) ?_ | refine And.intro rfl ?_ | refine lx_isA (by assumption) ?_ | refine lx_nA (by assumption) ?_)
        exact J
      by_cases a3 : v3 < 0
      · repeat (first | refine br_t (by assumption) ?_ | refine br_f (by assumption) ?_ | refine br_t (by decide) ?_ | refine br_f (by decide) ?_ | refine nm_e ?_ | refine And.intro (by assumption) ?_ | refine And.intro rfl ?_ | refine lx_isA (by assumption) ?_ | refine lx_nA (by assumption) ?_)
        exact J
      by_cases a4 : 3 < v3
      · have a5 : ¬ v3 ≤ 3 := Int32.not_le.mpr a4
        repeat (first | refine br_t (by assumption) ?_ | refine br_f (by assumption) ?_ | refine br_t (by decide) ?_ | refine br_f (by decide) ?_ | refine nm_e ?_ | refine And.intro (by assumption) ?_ | refine And.intro rfl ?_ | refine lx_isA (by assumption) ?_ | refine lx_nA (by assumption) ?_)
        exact J
      have a5 : v3 ≤ 3 := Int32.not_lt.mp a4
      by_cases hn : ns < 32
      · have n1 : nI ns < 32 := nI_lt (b := 32) hn (by omega)
        have n2 : vp_in (nI ns) 32 := vp_in_nI hn (by omega)
        repeat (first | refine br_t (by assumption) ?_ | refine br_f (by assumption) ?_ | refine br_t (by decide) ?_ | refine br_f (by decide) ?_ | refine nm_e ?_ | refine And.intro (by assumption) ?_ | refine And.intro rfl ?_ | refine lx_isA (by assumption) ?_ | refine lx_nA (by assumption) ?_)
        rw [nI_clamp (show ns < 2 ^ 31 by omega), nI_1 ns]
        refine K (lk_S_st (o2 := nI (no - 1)) (x := 4) hS hn (by decide) (by decide) rfl rfl rfl ?_)
        unfold lk_sc
        simp only [lk_is_u ns (Nat.le_refl ns), lk_ig_u ns (Nat.le_refl ns), lk_no_u ns (Nat.le_refl ns), lk_ng_u ns (Nat.le_refl ns), pk_us, ← c4, ← c5]
        exact Or.inr (Or.inl ⟨Or.inr (Or.inr (by trivial)), his, (by trivial), (by trivial)⟩)
      · have n1 : ¬ nI ns < 32 := nI_nlt (b := 32) (by omega) (by omega)
        repeat (first | refine br_t (by assumption) ?_ | refine br_f (by assumption) ?_ | refine br_t (by decide) ?_ | refine br_f (by decide) ?_ | refine nm_e ?_ | refine And.intro (by assumption) ?_ | refine And.intro rfl ?_ | refine lx_isA (by assumption) ?_ | refine lx_nA (by assumption) ?_)
        exact J
  · rw [his, if_neg (by decide)] at c6
    subst c6
    rcases Bool.eq_false_or_eq_true (lk_ig xstmtOp ns) with hig | hig
    · have hng := lk_ig_p ns hig
      rw [← c5] at hng
      rw [hig, if_pos rfl] at c7 c8
      subst c7
      subst c8
      have g1 : ¬ nI (ng - 1) = -1 := lk_nn1 (by omega)
      repeat (first | refine br_t (by assumption) ?_ | refine br_f (by assumption) ?_ | refine br_t (by decide) ?_ | refine br_f (by decide) ?_ | refine nm_e ?_ | refine And.intro (by assumption) ?_ | refine And.intro rfl ?_ | refine lx_isA (by assumption) ?_ | refine lx_nA (by assumption) ?_)
      exact J
    · rw [hig, if_neg (by decide)] at c7 c8
      subst c7
      subst c8
      repeat (first | refine br_t (by assumption) ?_ | refine br_f (by assumption) ?_ | refine br_t (by decide) ?_ | refine br_f (by decide) ?_ | refine nm_e ?_ | refine And.intro (by assumption) ?_ | refine And.intro rfl ?_ | refine lx_isA (by assumption) ?_ | refine lx_nA (by assumption) ?_)
      exact J
end
end
section
section
theorem lk_scr5 {P : St2 → Prop} {ns no ng ni nb nr : Nat} {xphase xopenOut xopenGroup : Int32} {xregionSize xcounter xmemory xstmtOp xstmtA xstmtB xstmtOwner xoutRegion xoutLoaded xoutGroup xoutAlign xoutVma xoutLma xoutDot xgroupStart xgroupEnd xgroupResident xinKind xinId xinAlign xinSize xinFirstByte xinStmt xinLive xinVma xfedBytes xrelocOwner xrelocOffset xrelocType xrelocTarget xrelocAddend : Nat → Int32} {ystOut : Nat → Int32} {yinGroup : Int32} {v2 v3 : Int32} (J : P (xphase, (nI ns), xopenOut, xopenGroup, (nI no), (nI ng), (nI ni), (nI nb), (nI nr), xregionSize, xcounter, xmemory, xstmtOp, xstmtA, xstmtB, xstmtOwner, xoutRegion, xoutLoaded, xoutGroup, xoutAlign, xoutVma, xoutLma, xoutDot, xgroupStart, xgroupEnd, xgroupResident, xinKind, xinId, xinAlign, xinSize, xinFirstByte, xinStmt, xinLive, xinVma, xfedBytes, xrelocOwner, xrelocOffset, xrelocType, xrelocTarget, xrelocAddend)) (hS : lk_S ns no ng xstmtOp xstmtA xstmtB xstmtOwner ystOut xoutRegion xoutLoaded xoutGroup xopenOut xopenGroup yinGroup) (K : ∀ {ns no ng : Nat} {xopenOut xopenGroup yinGroup : Int32} {xstmtOp xstmtA xstmtB xstmtOwner xoutRegion xoutLoaded xoutGroup ystOut : Nat → Int32}, lk_S ns no ng xstmtOp xstmtA xstmtB xstmtOwner ystOut xoutRegion xoutLoaded xoutGroup xopenOut xopenGroup yinGroup → P (xphase, (nI ns), xopenOut, xopenGroup, (nI no), (nI ng), (nI ni), (nI nb), (nI nr), xregionSize, xcounter, xmemory, xstmtOp, xstmtA, xstmtB, xstmtOwner, xoutRegion, xoutLoaded, xoutGroup, xoutAlign, xoutVma, xoutLma, xoutDot, xgroupStart, xgroupEnd, xgroupResident, xinKind, xinId, xinAlign, xinSize, xinFirstByte, xinStmt, xinLive, xinVma, xfedBytes, xrelocOwner, xrelocOffset, xrelocType, xrelocTarget, xrelocAddend)) (hp : xphase = 0) : wpX_script (fun _ u => P u) (xphase, (nI ns), xopenOut, xopenGroup, (nI no), (nI ng), (nI ni), (nI nb), (nI nr), xregionSize, xcounter, xmemory, xstmtOp, xstmtA, xstmtB, xstmtOwner, xoutRegion, xoutLoaded, xoutGroup, xoutAlign, xoutVma, xoutLma, xoutDot, xgroupStart, xgroupEnd, xgroupResident, xinKind, xinId, xinAlign, xinSize, xinFirstByte, xinStmt, xinLive, xinVma, xfedBytes, xrelocOwner, xrelocOffset, xrelocType, xrelocTarget, xrelocAddend) 5 v2 v3 := by
  obtain ⟨c1, c2, c3, c4, c5, c6, c7, c8, c9⟩ := id hS
  rcases Bool.eq_false_or_eq_true (lk_is xstmtOp ns) with his | his
  · have hno := lk_is_p ns his
    rw [← c4] at hno
    rw [his, if_pos rfl] at c6
    subst c6
    have o1 : ¬ nI (no - 1) = -1 := lk_nn1 (by omega)
    have o2 : ¬ nI (no - 1) < 0 := nI_pos (by omega)
    rcases Bool.eq_false_or_eq_true (lk_ig xstmtOp ns) with hig | hig
    · have hng := lk_ig_p ns hig
      rw [← c5] at hng
      rw [hig, if_pos rfl] at c7 c8
      subst c7
      subst c8
      have g1 : ¬ nI (ng - 1) = -1 := lk_nn1 (by omega)
      by_cases a1 : v2 < 0
      · repeat (first | refine br_t (by assumption) ?_ | refine br_f (by assumption) ?_ | refine br_t (by decide) ?_ | refine br_f (by decide) ?_ | refine nm_e ?_ | refine And.intro (by assumption) ?_ | refine And.intro rfl ?_ | refine lx_isA (by assumption) ?_ | refine lx_nA (by assumption) ?_)
        exact J
      by_cases a2 : 1023 < v2
      · have a3 : ¬ v2 ≤ 1023 := Int32.not_le.mpr a2
        repeat (first | refine br_t (by assumption) ?_ | refine br_f (by assumption) ?_ | refine br_t (by decide) ?_ | refine br_f (by decide) ?_ | refine nm_e ?_ | refine And.intro (by assumption) ?_ | refine And.intro rfl ?_ | refine lx_isA (by assumption) ?_ | refine lx_nA (by assumption) ?_)
        exact J
      have a3 : v2 ≤ 1023 := Int32.not_lt.mp a2
      obtain ⟨x, hx, ex⟩ := nI_of2 (M := 1023) (n := 1023) (by decide) a1 a3
      by_cases hn : ns < 32
      · have n1 : nI ns < 32 := nI_lt (b := 32) hn (by omega)
        have n2 : vp_in (nI ns) 32 := vp_in_nI hn (by omega)
        repeat (first | refine br_t (by assumption) ?_ | refine br_f (by assumption) ?_ | refine br_t (by decide) ?_ | refine br_f (by decide) ?_ | refine nm_e ?_ | refine And.intro (by assumption) ?_ | refine And.intro rfl ?_ | refine lx_isA (by assumption) ?_ | refine lx_nA (by assumption) ?_)
        rw [nI_clamp (show ns < 2 ^ 31 by omega), nI_1 ns]
        refine K (lk_S_st (o2 := nI (no - 1)) (x := 5) hS hn (by decide) (by decide) rfl rfl rfl ?_)
        unfold lk_sc
        simp only [lk_is_u ns (Nat.le_refl ns), lk_ig_u ns (Nat.le_refl ns), lk_no_u ns (Nat.le_refl ns), lk_ng_u ns (Nat.le_refl ns), pk_us, ← c4, ← c5]
        exact Or.inr (Or.inr (Or.inl ⟨Or.inl (by trivial), ⟨x, by omega, ex, fun z => absurd z (by decide)⟩, Or.inl ⟨his, (by trivial), (by trivial)⟩⟩))
      · have n1 : ¬ nI ns < 32 := nI_nlt (b := 32) (by omega) (by omega)
        repeat (first | refine br_t (by assumption) ?_ | refine br_f (by assumption) ?_ | refine br_t (by decide) ?_ | refine br_f (by decide) ?_ | refine nm_e ?_ | refine And.intro (by assumption) ?_ | refine And.intro rfl ?_ | refine lx_isA (by assumption) ?_ | refine lx_nA (by assumption) ?_)
        exact J
    · rw [hig, if_neg (by decide)] at c7 c8
      subst c7
      subst c8
      by_cases a1 : v2 < 0
      · repeat (first | refine br_t (by assumption) ?_ | refine br_f (by assumption) ?_ | refine br_t (by decide) ?_ | refine br_f (by decide) ?_ | refine nm_e ?_ | refine And.intro (by assumption) ?_ | refine And.intro rfl ?_ | refine lx_isA (by assumption) ?_ | refine lx_nA (by assumption) ?_)
        exact J
      by_cases a2 : 1023 < v2
      · have a3 : ¬ v2 ≤ 1023 := Int32.not_le.mpr a2
        repeat (first | refine br_t (by assumption) ?_ | refine br_f (by assumption) ?_ | refine br_t (by decide) ?_ | refine br_f (by decide) ?_ | refine nm_e ?_ | refine And.intro (by assumption) ?_ | refine And.intro rfl ?_ | refine lx_isA (by assumption) ?_ | refine lx_nA (by assumption) ?_)
        exact J
      have a3 : v2 ≤ 1023 := Int32.not_lt.mp a2
      obtain ⟨x, hx, ex⟩ := nI_of2 (M := 1023) (n := 1023) (by decide) a1 a3
      by_cases hn : ns < 32
      · have n1 : nI ns < 32 := nI_lt (b := 32) hn (by omega)
        have n2 : vp_in (nI ns) 32 := vp_in_nI hn (by omega)
        repeat (first | refine br_t (by assumption) ?_ | refine br_f (by assumption) ?_ | refine br_t (by decide) ?_ | refine br_f (by decide) ?_ | refine nm_e ?_ | refine And.intro (by assumption) ?_ | refine And.intro rfl ?_ | refine lx_isA (by assumption) ?_ | refine lx_nA (by assumption) ?_)
        rw [nI_clamp (show ns < 2 ^ 31 by omega), nI_1 ns]
        refine K (lk_S_st (o2 := nI (no - 1)) (x := 5) hS hn (by decide) (by decide) rfl rfl rfl ?_)
        unfold lk_sc
        simp only [lk_is_u ns (Nat.le_refl ns), lk_ig_u ns (Nat.le_refl ns), lk_no_u ns (Nat.le_refl ns), lk_ng_u ns (Nat.le_refl ns), pk_us, ← c4, ← c5]
        exact Or.inr (Or.inr (Or.inl ⟨Or.inl (by trivial), ⟨x, by omega, ex, fun z => absurd z (by decide)⟩, Or.inl ⟨his, (by trivial), (by trivial)⟩⟩))
      · have n1 : ¬ nI ns < 32 := nI_nlt (b := 32) (by omega) (by omega)
        repeat (first | refine br_t (by assumption) ?_ | refine br_f (by assumption) ?_ | refine br_t (by decide) ?_ | refine br_f (by decide) ?_ | refine nm_e ?_ | refine And.intro (by assumption) ?_ | refine And.intro rfl ?_ | refine lx_isA (by assumption) ?_ | refine lx_nA (by assumption) ?_)
        exact J
  · rw [his, if_neg (by decide)] at c6
    subst c6
    rcases Bool.eq_false_or_eq_true (lk_ig xstmtOp ns) with hig | hig
    · have hng := lk_ig_p ns hig
      rw [← c5] at hng
      rw [hig, if_pos rfl] at c7 c8
      subst c7
      subst c8
      have g1 : ¬ nI (ng - 1) = -1 := lk_nn1 (by omega)
      repeat (first | refine br_t (by assumption) ?_ | refine br_f (by assumption) ?_ | refine br_t (by decide) ?_ | refine br_f (by decide) ?_ | refine nm_e ?_ | refine And.intro (by assumption) ?_ | refine And.intro rfl ?_ | refine lx_isA (by assumption) ?_ | refine lx_nA (by assumption) ?_)
      exact J
    · rw [hig, if_neg (by decide)] at c7 c8
      subst c7
      subst c8
      by_cases a1 : v2 < 0
      · repeat (first | refine br_t (by assumption) ?_ | refine br_f (by assumption) ?_ | refine br_t (by decide) ?_ | refine br_f (by decide) ?_ | refine nm_e ?_ | refine And.intro (by assumption) ?_ | refine And.intro rfl ?_ | refine lx_isA (by assumption) ?_ | refine lx_nA (by assumption) ?_)
        exact J
      by_cases a2 : 1023 < v2
      · have a3 : ¬ v2 ≤ 1023 := Int32.not_le.mpr a2
        repeat (first | refine br_t (by assumption) ?_ | refine br_f (by assumption) ?_ | refine br_t (by decide) ?_ | refine br_f (by decide) ?_ | refine nm_e ?_ | refine And.intro (by assumption) ?_ | refine And.intro rfl ?_ | refine lx_isA (by assumption) ?_ | refine lx_nA (by assumption) ?_)
        exact J
      have a3 : v2 ≤ 1023 := Int32.not_lt.mp a2
      obtain ⟨x, hx, ex⟩ := nI_of2 (M := 1023) (n := 1023) (by decide) a1 a3
      rcases lk_01 v3 with b0 | b0 | ⟨b1, b2, b3⟩ | ⟨b1, b2, b3, b4, b5⟩
      · have b1 : ¬ v3 < 0 := by rw [b0]; decide
        have b2 : v3 ≤ 1 := by rw [b0]; decide
        by_cases hn : ns < 32
        · have n1 : nI ns < 32 := nI_lt (b := 32) hn (by omega)
          have n2 : vp_in (nI ns) 32 := vp_in_nI hn (by omega)
          repeat (first | refine br_t (by assumption) ?_ | refine br_f (by assumption) ?_ | refine br_t (by decide) ?_ | refine br_f (by decide) ?_ | refine nm_e ?_ | refine And.intro (by assumption) ?_ | refine And.intro rfl ?_ | refine lx_isA (by assumption) ?_ | refine lx_nA (by assumption) ?_)
          rw [nI_clamp (show ns < 2 ^ 31 by omega), nI_1 ns]
          refine K (lk_S_st (o2 := -1) (x := 5) hS hn (by decide) (by decide) rfl rfl rfl ?_)
          unfold lk_sc
          simp only [lk_is_u ns (Nat.le_refl ns), lk_ig_u ns (Nat.le_refl ns), lk_no_u ns (Nat.le_refl ns), lk_ng_u ns (Nat.le_refl ns), pk_us, ← c4, ← c5]
          exact Or.inr (Or.inr (Or.inl ⟨Or.inl (by trivial), ⟨x, by omega, ex, fun z => absurd z (by decide)⟩, Or.inr ⟨his, hig, (by trivial), (by trivial), Or.inl b0⟩⟩))
        · have n1 : ¬ nI ns < 32 := nI_nlt (b := 32) (by omega) (by omega)
          repeat (first | refine br_t (by assumption) ?_ | refine br_f (by assumption) ?_ | refine br_t (by decide) ?_ | refine br_f (by decide) ?_ | refine nm_e ?_ | refine And.intro (by assumption) ?_ | refine And.intro rfl ?_ | refine lx_isA (by assumption) ?_ | refine lx_nA (by assumption) ?_)
          exact J
      · have b1 : ¬ v3 < 0 := by rw [b0]; decide
        have b2 : v3 ≤ 1 := by rw [b0]; decide
        have b3 : ¬ v3 = 0 := by rw [b0]; decide
        by_cases hn : ns < 32
        · have n1 : nI ns < 32 := nI_lt (b := 32) hn (by omega)
          have n2 : vp_in (nI ns) 32 := vp_in_nI hn (by omega)
          repeat (first | refine br_t (by assumption) ?_ | refine br_f (by assumption) ?_ | refine br_t (by decide) ?_ | refine br_f (by decide) ?_ | refine nm_e ?_ | refine And.intro (by assumption) ?_ | refine And.intro rfl ?_ | refine lx_isA (by assumption) ?_ | refine lx_nA (by assumption) ?_)
          rw [nI_clamp (show ns < 2 ^ 31 by omega), nI_1 ns]
          refine K (lk_S_st (o2 := -1) (x := 5) hS hn (by decide) (by decide) rfl rfl rfl ?_)
          unfold lk_sc
          simp only [lk_is_u ns (Nat.le_refl ns), lk_ig_u ns (Nat.le_refl ns), lk_no_u ns (Nat.le_refl ns), lk_ng_u ns (Nat.le_refl ns), pk_us, ← c4, ← c5]
          exact Or.inr (Or.inr (Or.inl ⟨Or.inl (by trivial), ⟨x, by omega, ex, fun z => absurd z (by decide)⟩, Or.inr ⟨his, hig, (by trivial), (by trivial), Or.inr b0⟩⟩))
        · have n1 : ¬ nI ns < 32 := nI_nlt (b := 32) (by omega) (by omega)
          repeat (first | refine br_t (by assumption) ?_ | refine br_f (by assumption) ?_ | refine br_t (by decide) ?_ | refine br_f (by decide) ?_ | refine nm_e ?_ | refine And.intro (by assumption) ?_ | refine And.intro rfl ?_ | refine lx_isA (by assumption) ?_ | refine lx_nA (by assumption) ?_)
          exact J
      · repeat (first | refine br_t (by assumption) ?_ | refine br_f (by assumption) ?_ | refine br_t (by decide) ?_ | refine br_f (by decide) ?_ | refine nm_e ?_ | refine And.intro (by assumption) ?_ | refine And.intro rfl ?_ | refine lx_isA (by assumption) ?_ | refine lx_nA (by assumption) ?_)
        exact J
      · repeat (first | refine br_t (by assumption) ?_ | refine br_f (by assumption) ?_ | refine br_t (by decide) ?_ | refine br_f (by decide) ?_ | refine nm_e ?_ | refine And.intro (by assumption) ?_ | refine And.intro rfl ?_ | refine lx_isA (by assumption) ?_ | refine lx_nA (by assumption) ?_)
        exact J
theorem lk_scr6 {P : St2 → Prop} {ns no ng ni nb nr : Nat} {xphase xopenOut xopenGroup : Int32} {xregionSize xcounter xmemory xstmtOp xstmtA xstmtB xstmtOwner xoutRegion xoutLoaded xoutGroup xoutAlign xoutVma xoutLma xoutDot xgroupStart xgroupEnd xgroupResident xinKind xinId xinAlign xinSize xinFirstByte xinStmt xinLive xinVma xfedBytes xrelocOwner xrelocOffset xrelocType xrelocTarget xrelocAddend : Nat → Int32} {ystOut : Nat → Int32} {yinGroup : Int32} {v2 v3 : Int32} (J : P (xphase, (nI ns), xopenOut, xopenGroup, (nI no), (nI ng), (nI ni), (nI nb), (nI nr), xregionSize, xcounter, xmemory, xstmtOp, xstmtA, xstmtB, xstmtOwner, xoutRegion, xoutLoaded, xoutGroup, xoutAlign, xoutVma, xoutLma, xoutDot, xgroupStart, xgroupEnd, xgroupResident, xinKind, xinId, xinAlign, xinSize, xinFirstByte, xinStmt, xinLive, xinVma, xfedBytes, xrelocOwner, xrelocOffset, xrelocType, xrelocTarget, xrelocAddend)) (hS : lk_S ns no ng xstmtOp xstmtA xstmtB xstmtOwner ystOut xoutRegion xoutLoaded xoutGroup xopenOut xopenGroup yinGroup) (K : ∀ {ns no ng : Nat} {xopenOut xopenGroup yinGroup : Int32} {xstmtOp xstmtA xstmtB xstmtOwner xoutRegion xoutLoaded xoutGroup ystOut : Nat → Int32}, lk_S ns no ng xstmtOp xstmtA xstmtB xstmtOwner ystOut xoutRegion xoutLoaded xoutGroup xopenOut xopenGroup yinGroup → P (xphase, (nI ns), xopenOut, xopenGroup, (nI no), (nI ng), (nI ni), (nI nb), (nI nr), xregionSize, xcounter, xmemory, xstmtOp, xstmtA, xstmtB, xstmtOwner, xoutRegion, xoutLoaded, xoutGroup, xoutAlign, xoutVma, xoutLma, xoutDot, xgroupStart, xgroupEnd, xgroupResident, xinKind, xinId, xinAlign, xinSize, xinFirstByte, xinStmt, xinLive, xinVma, xfedBytes, xrelocOwner, xrelocOffset, xrelocType, xrelocTarget, xrelocAddend)) (hp : xphase = 0) : wpX_script (fun _ u => P u) (xphase, (nI ns), xopenOut, xopenGroup, (nI no), (nI ng), (nI ni), (nI nb), (nI nr), xregionSize, xcounter, xmemory, xstmtOp, xstmtA, xstmtB, xstmtOwner, xoutRegion, xoutLoaded, xoutGroup, xoutAlign, xoutVma, xoutLma, xoutDot, xgroupStart, xgroupEnd, xgroupResident, xinKind, xinId, xinAlign, xinSize, xinFirstByte, xinStmt, xinLive, xinVma, xfedBytes, xrelocOwner, xrelocOffset, xrelocType, xrelocTarget, xrelocAddend) 6 v2 v3 := by
  obtain ⟨c1, c2, c3, c4, c5, c6, c7, c8, c9⟩ := id hS
  rcases Bool.eq_false_or_eq_true (lk_is xstmtOp ns) with his | his
  · have hno := lk_is_p ns his
    rw [← c4] at hno
    rw [his, if_pos rfl] at c6
    subst c6
    have o1 : ¬ nI (no - 1) = -1 := lk_nn1 (by omega)
    have o2 : ¬ nI (no - 1) < 0 := nI_pos (by omega)
    rcases Bool.eq_false_or_eq_true (lk_ig xstmtOp ns) with hig | hig
    · have hng := lk_ig_p ns hig
      rw [← c5] at hng
      rw [hig, if_pos rfl] at c7 c8
      subst c7
      subst c8
      have g1 : ¬ nI (ng - 1) = -1 := lk_nn1 (by omega)
      by_cases a1 : v2 < 0
      · repeat (first | refine br_t (by assumption) ?_ | refine br_f (by assumption) ?_ | refine br_t (by decide) ?_ | refine br_f (by decide) ?_ | refine nm_e ?_ | refine And.intro (by assumption) ?_ | refine And.intro rfl ?_ | refine lx_isA (by assumption) ?_ | refine lx_nA (by assumption) ?_)
        exact J
      by_cases a2 : 255 < v2
      · have a3 : ¬ v2 ≤ 255 := Int32.not_le.mpr a2
        repeat (first | refine br_t (by assumption) ?_ | refine br_f (by assumption) ?_ | refine br_t (by decide) ?_ | refine br_f (by decide) ?_ | refine nm_e ?_ | refine And.intro (by assumption) ?_ | refine And.intro rfl ?_ | refine lx_isA (by assumption) ?_ | refine lx_nA (by assumption) ?_)
        exact J
      have a3 : v2 ≤ 255 := Int32.not_lt.mp a2
      obtain ⟨x, hx, ex⟩ := nI_of2 (M := 255) (n := 255) (by decide) a1 a3
      by_cases hn : ns < 32
      · have n1 : nI ns < 32 := nI_lt (b := 32) hn (by omega)
        have n2 : vp_in (nI ns) 32 := vp_in_nI hn (by omega)
        repeat (first | refine br_t (by assumption) ?_ | refine br_f (by assumption) ?_ | refine br_t (by decide) ?_ | refine br_f (by decide) ?_ | refine nm_e ?_ | refine And.intro (by assumption) ?_ | refine And.intro rfl ?_ | refine lx_isA (by assumption) ?_ | refine lx_nA (by assumption) ?_)
        rw [nI_clamp (show ns < 2 ^ 31 by omega), nI_1 ns]
        refine K (lk_S_st (o2 := nI (no - 1)) (x := 6) hS hn (by decide) (by decide) rfl rfl rfl ?_)
        unfold lk_sc
        simp only [lk_is_u ns (Nat.le_refl ns), lk_ig_u ns (Nat.le_refl ns), lk_no_u ns (Nat.le_refl ns), lk_ng_u ns (Nat.le_refl ns), pk_us, ← c4, ← c5]
        exact Or.inr (Or.inr (Or.inl ⟨Or.inr (Or.inl (by trivial)), ⟨x, by omega, ex, fun z => absurd z (by decide)⟩, Or.inl ⟨his, (by trivial), (by trivial)⟩⟩))
      · have n1 : ¬ nI ns < 32 := nI_nlt (b := 32) (by omega) (by omega)
        repeat (first | refine br_t (by assumption) ?_ | refine br_f (by assumption) ?_ | refine br_t (by decide) ?_ | refine br_f (by decide) ?_ | refine nm_e ?_ | refine And.intro (by assumption) ?_ | refine And.intro rfl ?_ | refine lx_isA (by assumption) ?_ | refine lx_nA (by assumption) ?_)
        exact J
    · rw [hig, if_neg (by decide)] at c7 c8
      subst c7
      subst c8
      by_cases a1 : v2 < 0
      · repeat (first | refine br_t (by assumption) ?_ | refine br_f (by assumption) ?_ | refine br_t (by decide) ?_ | refine br_f (by decide) ?_ | refine nm_e ?_ | refine And.intro (by assumption) ?_ | refine And.intro rfl ?_ | refine lx_isA (by assumption) ?_ | refine lx_nA (by assumption) ?_)
        exact J
      by_cases a2 : 255 < v2
      · have a3 : ¬ v2 ≤ 255 := Int32.not_le.mpr a2
        repeat (first | refine br_t (by assumption) ?_ | refine br_f (by assumption) ?_ | refine br_t (by decide) ?_ | refine br_f (by decide) ?_ | refine nm_e ?_ | refine And.intro (by assumption) ?_ | refine And.intro rfl ?_ | refine lx_isA (by assumption) ?_ | refine lx_nA (by assumption) ?_)
        exact J
      have a3 : v2 ≤ 255 := Int32.not_lt.mp a2
      obtain ⟨x, hx, ex⟩ := nI_of2 (M := 255) (n := 255) (by decide) a1 a3
      by_cases hn : ns < 32
      · have n1 : nI ns < 32 := nI_lt (b := 32) hn (by omega)
        have n2 : vp_in (nI ns) 32 := vp_in_nI hn (by omega)
        repeat (first | refine br_t (by assumption) ?_ | refine br_f (by assumption) ?_ | refine br_t (by decide) ?_ | refine br_f (by decide) ?_ | refine nm_e ?_ | refine And.intro (by assumption) ?_ | refine And.intro rfl ?_ | refine lx_isA (by assumption) ?_ | refine lx_nA (by assumption) ?_)
        rw [nI_clamp (show ns < 2 ^ 31 by omega), nI_1 ns]
        refine K (lk_S_st (o2 := nI (no - 1)) (x := 6) hS hn (by decide) (by decide) rfl rfl rfl ?_)
        unfold lk_sc
        simp only [lk_is_u ns (Nat.le_refl ns), lk_ig_u ns (Nat.le_refl ns), lk_no_u ns (Nat.le_refl ns), lk_ng_u ns (Nat.le_refl ns), pk_us, ← c4, ← c5]
        exact Or.inr (Or.inr (Or.inl ⟨Or.inr (Or.inl (by trivial)), ⟨x, by omega, ex, fun z => absurd z (by decide)⟩, Or.inl ⟨his, (by trivial), (by trivial)⟩⟩))
      · have n1 : ¬ nI ns < 32 := nI_nlt (b := 32) (by omega) (by omega)
        repeat (first | refine br_t (by assumption) ?_ | refine br_f (by assumption) ?_ | refine br_t (by decide) ?_ | refine br_f (by decide) ?_ | refine nm_e ?_ | refine And.intro (by assumption) ?_ | refine And.intro rfl ?_ | refine lx_isA (by assumption) ?_ | refine lx_nA (by assumption) ?_)
        exact J
  · rw [his, if_neg (by decide)] at c6
    subst c6
    rcases Bool.eq_false_or_eq_true (lk_ig xstmtOp ns) with hig | hig
    · have hng := lk_ig_p ns hig
      rw [← c5] at hng
      rw [hig, if_pos rfl] at c7 c8
      subst c7
      subst c8
      have g1 : ¬ nI (ng - 1) = -1 := lk_nn1 (by omega)
      repeat (first | refine br_t (by assumption) ?_ | refine br_f (by assumption) ?_ | refine br_t (by decide) ?_ | refine br_f (by decide) ?_ | refine nm_e ?_ | refine And.intro (by assumption) ?_ | refine And.intro rfl ?_ | refine lx_isA (by assumption) ?_ | refine lx_nA (by assumption) ?_)
      exact J
    · rw [hig, if_neg (by decide)] at c7 c8
      subst c7
      subst c8
      by_cases a1 : v2 < 0
      · repeat (first | refine br_t (by assumption) ?_ | refine br_f (by assumption) ?_ | refine br_t (by decide) ?_ | refine br_f (by decide) ?_ | refine nm_e ?_ | refine And.intro (by assumption) ?_ | refine And.intro rfl ?_ | refine lx_isA (by assumption) ?_ | refine lx_nA (by assumption) ?_)
        exact J
      by_cases a2 : 255 < v2
      · have a3 : ¬ v2 ≤ 255 := Int32.not_le.mpr a2
        repeat (first | refine br_t (by assumption) ?_ | refine br_f (by assumption) ?_ | refine br_t (by decide) ?_ | refine br_f (by decide) ?_ | refine nm_e ?_ | refine And.intro (by assumption) ?_ | refine And.intro rfl ?_ | refine lx_isA (by assumption) ?_ | refine lx_nA (by assumption) ?_)
        exact J
      have a3 : v2 ≤ 255 := Int32.not_lt.mp a2
      obtain ⟨x, hx, ex⟩ := nI_of2 (M := 255) (n := 255) (by decide) a1 a3
      rcases lk_01 v3 with b0 | b0 | ⟨b1, b2, b3⟩ | ⟨b1, b2, b3, b4, b5⟩
      · have b1 : ¬ v3 < 0 := by rw [b0]; decide
        have b2 : v3 ≤ 1 := by rw [b0]; decide
        by_cases hn : ns < 32
        · have n1 : nI ns < 32 := nI_lt (b := 32) hn (by omega)
          have n2 : vp_in (nI ns) 32 := vp_in_nI hn (by omega)
          repeat (first | refine br_t (by assumption) ?_ | refine br_f (by assumption) ?_ | refine br_t (by decide) ?_ | refine br_f (by decide) ?_ | refine nm_e ?_ | refine And.intro (by assumption) ?_ | refine And.intro rfl ?_ | refine lx_isA (by assumption) ?_ | refine lx_nA (by assumption) ?_)
          rw [nI_clamp (show ns < 2 ^ 31 by omega), nI_1 ns]
          refine K (lk_S_st (o2 := -1) (x := 6) hS hn (by decide) (by decide) rfl rfl rfl ?_)
          unfold lk_sc
          simp only [lk_is_u ns (Nat.le_refl ns), lk_ig_u ns (Nat.le_refl ns), lk_no_u ns (Nat.le_refl ns), lk_ng_u ns (Nat.le_refl ns), pk_us, ← c4, ← c5]
          exact Or.inr (Or.inr (Or.inl ⟨Or.inr (Or.inl (by trivial)), ⟨x, by omega, ex, fun z => absurd z (by decide)⟩, Or.inr ⟨his, hig, (by trivial), (by trivial), Or.inl b0⟩⟩))
        · have n1 : ¬ nI ns < 32 := nI_nlt (b := 32) (by omega) (by omega)
          repeat (first | refine br_t (by assumption) ?_ | refine br_f (by assumption) ?_ | refine br_t (by decide) ?_ | refine br_f (by decide) ?_ | refine nm_e ?_ | refine And.intro (by assumption) ?_ | refine And.intro rfl ?_ | refine lx_isA (by assumption) ?_ | refine lx_nA (by assumption) ?_)
          exact J
      · have b1 : ¬ v3 < 0 := by rw [b0]; decide
        have b2 : v3 ≤ 1 := by rw [b0]; decide
        have b3 : ¬ v3 = 0 := by rw [b0]; decide
        by_cases hn : ns < 32
        · have n1 : nI ns < 32 := nI_lt (b := 32) hn (by omega)
          have n2 : vp_in (nI ns) 32 := vp_in_nI hn (by omega)
          repeat (first | refine br_t (by assumption) ?_ | refine br_f (by assumption) ?_ | refine br_t (by decide) ?_ | refine br_f (by decide) ?_ | refine nm_e ?_ | refine And.intro (by assumption) ?_ | refine And.intro rfl ?_ | refine lx_isA (by assumption) ?_ | refine lx_nA (by assumption) ?_)
          rw [nI_clamp (show ns < 2 ^ 31 by omega), nI_1 ns]
          refine K (lk_S_st (o2 := -1) (x := 6) hS hn (by decide) (by decide) rfl rfl rfl ?_)
          unfold lk_sc
          simp only [lk_is_u ns (Nat.le_refl ns), lk_ig_u ns (Nat.le_refl ns), lk_no_u ns (Nat.le_refl ns), lk_ng_u ns (Nat.le_refl ns), pk_us, ← c4, ← c5]
          exact Or.inr (Or.inr (Or.inl ⟨Or.inr (Or.inl (by trivial)), ⟨x, by omega, ex, fun z => absurd z (by decide)⟩, Or.inr ⟨his, hig, (by trivial), (by trivial), Or.inr b0⟩⟩))
        · have n1 : ¬ nI ns < 32 := nI_nlt (b := 32) (by omega) (by omega)
          repeat (first | refine br_t (by assumption) ?_ | refine br_f (by assumption) ?_ | refine br_t (by decide) ?_ | refine br_f (by decide) ?_ | refine nm_e ?_ | refine And.intro (by assumption) ?_ | refine And.intro rfl ?_ | refine lx_isA (by assumption) ?_ | refine lx_nA (by assumption) ?_)
          exact J
      · repeat (first | refine br_t (by assumption) ?_ | refine br_f (by assumption) ?_ | refine br_t (by decide) ?_ | refine br_f (by decide) ?_ | refine nm_e ?_ | refine And.intro (by assumption) ?_ | refine And.intro rfl ?_ | refine lx_isA (by assumption) ?_ | refine lx_nA (by assumption) ?_)
        exact J
      · repeat (first | refine br_t (by assumption) ?_ | refine br_f (by assumption) ?_ | refine br_t (by decide) ?_ | refine br_f (by decide) ?_ | refine nm_e ?_ | refine And.intro (by assumption) ?_ | refine And.intro rfl ?_ | refine lx_isA (by assumption) ?_ | refine lx_nA (by assumption) ?_)
        exact J
end
end
section
section
theorem lk_scr7 {P : St2 → Prop} {ns no ng ni nb nr : Nat} {xphase xopenOut xopenGroup : Int32} {xregionSize xcounter xmemory xstmtOp xstmtA xstmtB xstmtOwner xoutRegion xoutLoaded xoutGroup xoutAlign xoutVma xoutLma xoutDot xgroupStart xgroupEnd xgroupResident xinKind xinId xinAlign xinSize xinFirstByte xinStmt xinLive xinVma xfedBytes xrelocOwner xrelocOffset xrelocType xrelocTarget xrelocAddend : Nat → Int32} {ystOut : Nat → Int32} {yinGroup : Int32} {v2 v3 : Int32} (J : P (xphase, (nI ns), xopenOut, xopenGroup, (nI no), (nI ng), (nI ni), (nI nb), (nI nr), xregionSize, xcounter, xmemory, xstmtOp, xstmtA, xstmtB, xstmtOwner, xoutRegion, xoutLoaded, xoutGroup, xoutAlign, xoutVma, xoutLma, xoutDot, xgroupStart, xgroupEnd, xgroupResident, xinKind, xinId, xinAlign, xinSize, xinFirstByte, xinStmt, xinLive, xinVma, xfedBytes, xrelocOwner, xrelocOffset, xrelocType, xrelocTarget, xrelocAddend)) (hS : lk_S ns no ng xstmtOp xstmtA xstmtB xstmtOwner ystOut xoutRegion xoutLoaded xoutGroup xopenOut xopenGroup yinGroup) (K : ∀ {ns no ng : Nat} {xopenOut xopenGroup yinGroup : Int32} {xstmtOp xstmtA xstmtB xstmtOwner xoutRegion xoutLoaded xoutGroup ystOut : Nat → Int32}, lk_S ns no ng xstmtOp xstmtA xstmtB xstmtOwner ystOut xoutRegion xoutLoaded xoutGroup xopenOut xopenGroup yinGroup → P (xphase, (nI ns), xopenOut, xopenGroup, (nI no), (nI ng), (nI ni), (nI nb), (nI nr), xregionSize, xcounter, xmemory, xstmtOp, xstmtA, xstmtB, xstmtOwner, xoutRegion, xoutLoaded, xoutGroup, xoutAlign, xoutVma, xoutLma, xoutDot, xgroupStart, xgroupEnd, xgroupResident, xinKind, xinId, xinAlign, xinSize, xinFirstByte, xinStmt, xinLive, xinVma, xfedBytes, xrelocOwner, xrelocOffset, xrelocType, xrelocTarget, xrelocAddend)) (hp : xphase = 0) : wpX_script (fun _ u => P u) (xphase, (nI ns), xopenOut, xopenGroup, (nI no), (nI ng), (nI ni), (nI nb), (nI nr), xregionSize, xcounter, xmemory, xstmtOp, xstmtA, xstmtB, xstmtOwner, xoutRegion, xoutLoaded, xoutGroup, xoutAlign, xoutVma, xoutLma, xoutDot, xgroupStart, xgroupEnd, xgroupResident, xinKind, xinId, xinAlign, xinSize, xinFirstByte, xinStmt, xinLive, xinVma, xfedBytes, xrelocOwner, xrelocOffset, xrelocType, xrelocTarget, xrelocAddend) 7 v2 v3 := by
  obtain ⟨c1, c2, c3, c4, c5, c6, c7, c8, c9⟩ := id hS
  rcases Bool.eq_false_or_eq_true (lk_is xstmtOp ns) with his | his
  · have hno := lk_is_p ns his
    rw [← c4] at hno
    rw [his, if_pos rfl] at c6
    subst c6
    have o1 : ¬ nI (no - 1) = -1 := lk_nn1 (by omega)
    have o2 : ¬ nI (no - 1) < 0 := nI_pos (by omega)
    rcases Bool.eq_false_or_eq_true (lk_ig xstmtOp ns) with hig | hig
    · have hng := lk_ig_p ns hig
      rw [← c5] at hng
      rw [hig, if_pos rfl] at c7 c8
      subst c7
      subst c8
      have g1 : ¬ nI (ng - 1) = -1 := lk_nn1 (by omega)
      rcases Classical.em (lk_Ai v2) with a1 | a1
      · obtain ⟨x, hx, ex⟩ := lk_Ai_A a1
        have hx2 := lk_A_b hx
        by_cases hn : ns < 32
        · have n1 : nI ns < 32 := nI_lt (b := 32) hn (by omega)
          have n2 : vp_in (nI ns) 32 := vp_in_nI hn (by omega)
          repeat (first | refine br_t (by assumption) ?_ | refine br_f (by assumption) ?_ | refine br_t (by decide) ?_ | refine br_f (by decide) ?_ | refine nm_e ?_ | refine And.intro (by assumption) ?_ | refine And.intro rfl ?_ | refine lx_isA (by assumption) ?_ | refine lx_nA (by assumption) ?_)
          rw [nI_clamp (show ns < 2 ^ 31 by omega), nI_1 ns]
          refine K (lk_S_st (o2 := nI (no - 1)) (x := 7) hS hn (by decide) (by decide) rfl rfl rfl ?_)
          unfold lk_sc
          simp only [lk_is_u ns (Nat.le_refl ns), lk_ig_u ns (Nat.le_refl ns), lk_no_u ns (Nat.le_refl ns), lk_ng_u ns (Nat.le_refl ns), pk_us, ← c4, ← c5]
          exact Or.inr (Or.inr (Or.inl ⟨Or.inr (Or.inr (by trivial)), ⟨x, by omega, ex, fun _ => hx⟩, Or.inl ⟨his, (by trivial), (by trivial)⟩⟩))
        · have n1 : ¬ nI ns < 32 := nI_nlt (b := 32) (by omega) (by omega)
          repeat (first | refine br_t (by assumption) ?_ | refine br_f (by assumption) ?_ | refine br_t (by decide) ?_ | refine br_f (by decide) ?_ | refine nm_e ?_ | refine And.intro (by assumption) ?_ | refine And.intro rfl ?_ | refine lx_isA (by assumption) ?_ | refine lx_nA (by assumption) ?_)
          exact J
      · repeat (first | refine br_t (by assumption) ?_ | refine br_f (by assumption) ?_ | refine br_t (by decide) ?_ | refine br_f (by decide) ?_ | refine nm_e ?_ | refine And.intro (by assumption) ?_ | refine And.intro rfl ?_ | refine lx_isA (by assumption) ?_ | refine lx_nA (by assumption) ?_)
        exact J
    · rw [hig, if_neg (by decide)] at c7 c8
      subst c7
      subst c8
      rcases Classical.em (lk_Ai v2) with a1 | a1
      · obtain ⟨x, hx, ex⟩ := lk_Ai_A a1
        have hx2 := lk_A_b hx
        by_cases hn : ns < 32
        · have n1 : nI ns < 32 := nI_lt (b := 32) hn (by omega)
          have n2 : vp_in (nI ns) 32 := vp_in_nI hn (by omega)
          repeat (first | refine br_t (by assumption) ?_ | refine br_f (by assumption) ?_ | refine br_t (by decide) ?_ | refine br_f (by decide) ?_ | refine nm_e ?_ | refine And.intro (by assumption) ?_ | refine And.intro rfl ?_ | refine lx_isA (by assumption) ?_ | refine lx_nA (by assumption) ?_)
          rw [nI_clamp (show ns < 2 ^ 31 by omega), nI_1 ns]
          refine K (lk_S_st (o2 := nI (no - 1)) (x := 7) hS hn (by decide) (by decide) rfl rfl rfl ?_)
          unfold lk_sc
          simp only [lk_is_u ns (Nat.le_refl ns), lk_ig_u ns (Nat.le_refl ns), lk_no_u ns (Nat.le_refl ns), lk_ng_u ns (Nat.le_refl ns), pk_us, ← c4, ← c5]
          exact Or.inr (Or.inr (Or.inl ⟨Or.inr (Or.inr (by trivial)), ⟨x, by omega, ex, fun _ => hx⟩, Or.inl ⟨his, (by trivial), (by trivial)⟩⟩))
        · have n1 : ¬ nI ns < 32 := nI_nlt (b := 32) (by omega) (by omega)
          repeat (first | refine br_t (by assumption) ?_ | refine br_f (by assumption) ?_ | refine br_t (by decide) ?_ | refine br_f (by decide) ?_ | refine nm_e ?_ | refine And.intro (by assumption) ?_ | refine And.intro rfl ?_ | refine lx_isA (by assumption) ?_ | refine lx_nA (by assumption) ?_)
          exact J
      · repeat (first | refine br_t (by assumption) ?_ | refine br_f (by assumption) ?_ | refine br_t (by decide) ?_ | refine br_f (by decide) ?_ | refine nm_e ?_ | refine And.intro (by assumption) ?_ | refine And.intro rfl ?_ | refine lx_isA (by assumption) ?_ | refine lx_nA (by assumption) ?_)
        exact J
  · rw [his, if_neg (by decide)] at c6
    subst c6
    rcases Bool.eq_false_or_eq_true (lk_ig xstmtOp ns) with hig | hig
    · have hng := lk_ig_p ns hig
      rw [← c5] at hng
      rw [hig, if_pos rfl] at c7 c8
      subst c7
      subst c8
      have g1 : ¬ nI (ng - 1) = -1 := lk_nn1 (by omega)
      repeat (first | refine br_t (by assumption) ?_ | refine br_f (by assumption) ?_ | refine br_t (by decide) ?_ | refine br_f (by decide) ?_ | refine nm_e ?_ | refine And.intro (by assumption) ?_ | refine And.intro rfl ?_ | refine lx_isA (by assumption) ?_ | refine lx_nA (by assumption) ?_)
      exact J
    · rw [hig, if_neg (by decide)] at c7 c8
      subst c7
      subst c8
      rcases Classical.em (lk_Ai v2) with a1 | a1
      · obtain ⟨x, hx, ex⟩ := lk_Ai_A a1
        have hx2 := lk_A_b hx
        rcases lk_01 v3 with b0 | b0 | ⟨b1, b2, b3⟩ | ⟨b1, b2, b3, b4, b5⟩
        · have b1 : ¬ v3 < 0 := by rw [b0]; decide
          have b2 : v3 ≤ 1 := by rw [b0]; decide
          by_cases hn : ns < 32
          · have n1 : nI ns < 32 := nI_lt (b := 32) hn (by omega)
            have n2 : vp_in (nI ns) 32 := vp_in_nI hn (by omega)
            repeat (first | refine br_t (by assumption) ?_ | refine br_f (by assumption) ?_ | refine br_t (by decide) ?_ | refine br_f (by decide) ?_ | refine nm_e ?_ | refine And.intro (by assumption) ?_ | refine And.intro rfl ?_ | refine lx_isA (by assumption) ?_ | refine lx_nA (by assumption) ?_)
            rw [nI_clamp (show ns < 2 ^ 31 by omega), nI_1 ns]
            refine K (lk_S_st (o2 := -1) (x := 7) hS hn (by decide) (by decide) rfl rfl rfl ?_)
            unfold lk_sc
            simp only [lk_is_u ns (Nat.le_refl ns), lk_ig_u ns (Nat.le_refl ns), lk_no_u ns (Nat.le_refl ns), lk_ng_u ns (Nat.le_refl ns), pk_us, ← c4, ← c5]
            exact Or.inr (Or.inr (Or.inl ⟨Or.inr (Or.inr (by trivial)), ⟨x, by omega, ex, fun _ => hx⟩, Or.inr ⟨his, hig, (by trivial), (by trivial), Or.inl b0⟩⟩))
          · have n1 : ¬ nI ns < 32 := nI_nlt (b := 32) (by omega) (by omega)
            repeat (first | refine br_t (by assumption) ?_ | refine br_f (by assumption) ?_ | refine br_t (by decide) ?_ | refine br_f (by decide) ?_ | refine nm_e ?_ | refine And.intro (by assumption) ?_ | refine And.intro rfl ?_ | refine lx_isA (by assumption) ?_ | refine lx_nA (by assumption) ?_)
            exact J
        · have b1 : ¬ v3 < 0 := by rw [b0]; decide
          have b2 : v3 ≤ 1 := by rw [b0]; decide
          have b3 : ¬ v3 = 0 := by rw [b0]; decide
          by_cases hn : ns < 32
          · have n1 : nI ns < 32 := nI_lt (b := 32) hn (by omega)
            have n2 : vp_in (nI ns) 32 := vp_in_nI hn (by omega)
            repeat (first | refine br_t (by assumption) ?_ | refine br_f (by assumption) ?_ | refine br_t (by decide) ?_ | refine br_f (by decide) ?_ | refine nm_e ?_ | refine And.intro (by assumption) ?_ | refine And.intro rfl ?_ | refine lx_isA (by assumption) ?_ | refine lx_nA (by assumption) ?_)
            rw [nI_clamp (show ns < 2 ^ 31 by omega), nI_1 ns]
            refine K (lk_S_st (o2 := -1) (x := 7) hS hn (by decide) (by decide) rfl rfl rfl ?_)
            unfold lk_sc
            simp only [lk_is_u ns (Nat.le_refl ns), lk_ig_u ns (Nat.le_refl ns), lk_no_u ns (Nat.le_refl ns), lk_ng_u ns (Nat.le_refl ns), pk_us, ← c4, ← c5]
            exact Or.inr (Or.inr (Or.inl ⟨Or.inr (Or.inr (by trivial)), ⟨x, by omega, ex, fun _ => hx⟩, Or.inr ⟨his, hig, (by trivial), (by trivial), Or.inr b0⟩⟩))
          · have n1 : ¬ nI ns < 32 := nI_nlt (b := 32) (by omega) (by omega)
            repeat (first | refine br_t (by assumption) ?_ | refine br_f (by assumption) ?_ | refine br_t (by decide) ?_ | refine br_f (by decide) ?_ | refine nm_e ?_ | refine And.intro (by assumption) ?_ | refine And.intro rfl ?_ | refine lx_isA (by assumption) ?_ | refine lx_nA (by assumption) ?_)
            exact J
        · repeat (first | refine br_t (by assumption) ?_ | refine br_f (by assumption) ?_ | refine br_t (by decide) ?_ | refine br_f (by decide) ?_ | refine nm_e ?_ | refine And.intro (by assumption) ?_ | refine And.intro rfl ?_ | refine lx_isA (by assumption) ?_ | refine lx_nA (by assumption) ?_)
          exact J
        · repeat (first | refine br_t (by assumption) ?_ | refine br_f (by assumption) ?_ | refine br_t (by decide) ?_ | refine br_f (by decide) ?_ | refine nm_e ?_ | refine And.intro (by assumption) ?_ | refine And.intro rfl ?_ | refine lx_isA (by assumption) ?_ | refine lx_nA (by assumption) ?_)
          exact J
      · repeat (first | refine br_t (by assumption) ?_ | refine br_f (by assumption) ?_ | refine br_t (by decide) ?_ | refine br_f (by decide) ?_ | refine nm_e ?_ | refine And.intro (by assumption) ?_ | refine And.intro rfl ?_ | refine lx_isA (by assumption) ?_ | refine lx_nA (by assumption) ?_)
        exact J
theorem lk_scr8 {P : St2 → Prop} {ns no ng ni nb nr : Nat} {xphase xopenOut xopenGroup : Int32} {xregionSize xcounter xmemory xstmtOp xstmtA xstmtB xstmtOwner xoutRegion xoutLoaded xoutGroup xoutAlign xoutVma xoutLma xoutDot xgroupStart xgroupEnd xgroupResident xinKind xinId xinAlign xinSize xinFirstByte xinStmt xinLive xinVma xfedBytes xrelocOwner xrelocOffset xrelocType xrelocTarget xrelocAddend : Nat → Int32} {ystOut : Nat → Int32} {yinGroup : Int32} {v2 v3 : Int32} (J : P (xphase, (nI ns), xopenOut, xopenGroup, (nI no), (nI ng), (nI ni), (nI nb), (nI nr), xregionSize, xcounter, xmemory, xstmtOp, xstmtA, xstmtB, xstmtOwner, xoutRegion, xoutLoaded, xoutGroup, xoutAlign, xoutVma, xoutLma, xoutDot, xgroupStart, xgroupEnd, xgroupResident, xinKind, xinId, xinAlign, xinSize, xinFirstByte, xinStmt, xinLive, xinVma, xfedBytes, xrelocOwner, xrelocOffset, xrelocType, xrelocTarget, xrelocAddend)) (hS : lk_S ns no ng xstmtOp xstmtA xstmtB xstmtOwner ystOut xoutRegion xoutLoaded xoutGroup xopenOut xopenGroup yinGroup) (K : ∀ {ns no ng : Nat} {xopenOut xopenGroup yinGroup : Int32} {xstmtOp xstmtA xstmtB xstmtOwner xoutRegion xoutLoaded xoutGroup ystOut : Nat → Int32}, lk_S ns no ng xstmtOp xstmtA xstmtB xstmtOwner ystOut xoutRegion xoutLoaded xoutGroup xopenOut xopenGroup yinGroup → P (xphase, (nI ns), xopenOut, xopenGroup, (nI no), (nI ng), (nI ni), (nI nb), (nI nr), xregionSize, xcounter, xmemory, xstmtOp, xstmtA, xstmtB, xstmtOwner, xoutRegion, xoutLoaded, xoutGroup, xoutAlign, xoutVma, xoutLma, xoutDot, xgroupStart, xgroupEnd, xgroupResident, xinKind, xinId, xinAlign, xinSize, xinFirstByte, xinStmt, xinLive, xinVma, xfedBytes, xrelocOwner, xrelocOffset, xrelocType, xrelocTarget, xrelocAddend)) (hp : xphase = 0) : wpX_script (fun _ u => P u) (xphase, (nI ns), xopenOut, xopenGroup, (nI no), (nI ng), (nI ni), (nI nb), (nI nr), xregionSize, xcounter, xmemory, xstmtOp, xstmtA, xstmtB, xstmtOwner, xoutRegion, xoutLoaded, xoutGroup, xoutAlign, xoutVma, xoutLma, xoutDot, xgroupStart, xgroupEnd, xgroupResident, xinKind, xinId, xinAlign, xinSize, xinFirstByte, xinStmt, xinLive, xinVma, xfedBytes, xrelocOwner, xrelocOffset, xrelocType, xrelocTarget, xrelocAddend) 8 v2 v3 := by
  obtain ⟨c1, c2, c3, c4, c5, c6, c7, c8, c9⟩ := id hS
  rcases Bool.eq_false_or_eq_true (lk_is xstmtOp ns) with his | his
  · have hno := lk_is_p ns his
    rw [← c4] at hno
    rw [his, if_pos rfl] at c6
    subst c6
    have o1 : ¬ nI (no - 1) = -1 := lk_nn1 (by omega)
    have o2 : ¬ nI (no - 1) < 0 := nI_pos (by omega)
    rcases Bool.eq_false_or_eq_true (lk_ig xstmtOp ns) with hig | hig
    · have hng := lk_ig_p ns hig
      rw [← c5] at hng
      rw [hig, if_pos rfl] at c7 c8
      subst c7
      subst c8
      have g1 : ¬ nI (ng - 1) = -1 := lk_nn1 (by omega)
      repeat (first | refine br_t (by assumption) ?_ | refine br_f (by assumption) ?_ | refine br_t (by decide) ?_ | refine br_f (by decide) ?_ | refine nm_e ?_ | refine And.intro (by assumption) ?_ | refine And.intro rfl ?_ | refine lx_isA (by assumption) ?_ | refine lx_nA (by assumption) ?_)
      exact J
    · rw [hig, if_neg (by decide)] at c7 c8
      subst c7
      subst c8
      repeat (first | refine br_t (by assumption) ?_ | refine br_f (by assumption) ?_ | refine br_t (by decide) ?_ | refine br_f (by decide) ?_ | refine nm_e ?_ | refine And.intro (by assumption) ?_ | refine And.intro rfl ?_ | refine lx_isA (by assumption) ?_ | refine lx_nA (by assumption) ?_)
      exact J
  · rw [his, if_neg (by decide)] at c6
    subst c6
    rcases Bool.eq_false_or_eq_true (lk_ig xstmtOp ns) with hig | hig
    · have hng := lk_ig_p ns hig
      rw [← c5] at hng
      rw [hig, if_pos rfl] at c7 c8
      subst c7
      subst c8
      have g1 : ¬ nI (ng - 1) = -1 := lk_nn1 (by omega)
      repeat (first | refine br_t (by assumption) ?_ | refine br_f (by assumption) ?_ | refine br_t (by decide) ?_ | refine br_f (by decide) ?_ | refine nm_e ?_ | refine And.intro (by assumption) ?_ | refine And.intro rfl ?_ | refine lx_isA (by assumption) ?_ | refine lx_nA (by assumption) ?_)
      exact J
    · rw [hig, if_neg (by decide)] at c7 c8
      subst c7
      subst c8
      by_cases hn : ns < 32
      · have n1 : nI ns < 32 := nI_lt (b := 32) hn (by omega)
        have n2 : vp_in (nI ns) 32 := vp_in_nI hn (by omega)
        by_cases hg : ng < 4
        · have n3 : nI ng < 4 := nI_lt (b := 4) hg (by omega)
          have n4 : ¬ 4 ≤ nI ng := nI_ge (b := 4) hg (by omega)
          repeat (first | refine br_t (by assumption) ?_ | refine br_f (by assumption) ?_ | refine br_t (by decide) ?_ | refine br_f (by decide) ?_ | refine nm_e ?_ | refine And.intro (by assumption) ?_ | refine And.intro rfl ?_ | refine lx_isA (by assumption) ?_ | refine lx_nA (by assumption) ?_)
          rw [nI_clamp (show ns < 2 ^ 31 by omega), nI_1 ns, nI_1 ng]
          exact K (lk_S_ovl (o2 := 0) hS hn hg his hig)
        · have n3 : ¬ nI ng < 4 := nI_nlt (b := 4) (by omega) (by omega)
          have n4 : 4 ≤ nI ng := nI_le (a := 4) (by omega) (by omega)
          repeat (first | refine br_t (by assumption) ?_ | refine br_f (by assumption) ?_ | refine br_t (by decide) ?_ | refine br_f (by decide) ?_ | refine nm_e ?_ | refine And.intro (by assumption) ?_ | refine And.intro rfl ?_ | refine lx_isA (by assumption) ?_ | refine lx_nA (by assumption) ?_)
          exact J
      · have n1 : ¬ nI ns < 32 := nI_nlt (b := 32) (by omega) (by omega)
        repeat (first | refine br_t (by assumption) ?_ | refine br_f (by assumption) ?_ | refine br_t (by decide) ?_ | refine br_f (by decide) ?_ | refine nm_e ?_ | refine And.intro (by assumption) ?_ | refine And.intro rfl ?_ | refine lx_isA (by assumption) ?_ | refine lx_nA (by assumption) ?_)
        exact J
theorem lk_scr9 {P : St2 → Prop} {ns no ng ni nb nr : Nat} {xphase xopenOut xopenGroup : Int32} {xregionSize xcounter xmemory xstmtOp xstmtA xstmtB xstmtOwner xoutRegion xoutLoaded xoutGroup xoutAlign xoutVma xoutLma xoutDot xgroupStart xgroupEnd xgroupResident xinKind xinId xinAlign xinSize xinFirstByte xinStmt xinLive xinVma xfedBytes xrelocOwner xrelocOffset xrelocType xrelocTarget xrelocAddend : Nat → Int32} {ystOut : Nat → Int32} {yinGroup : Int32} {v2 v3 : Int32} (J : P (xphase, (nI ns), xopenOut, xopenGroup, (nI no), (nI ng), (nI ni), (nI nb), (nI nr), xregionSize, xcounter, xmemory, xstmtOp, xstmtA, xstmtB, xstmtOwner, xoutRegion, xoutLoaded, xoutGroup, xoutAlign, xoutVma, xoutLma, xoutDot, xgroupStart, xgroupEnd, xgroupResident, xinKind, xinId, xinAlign, xinSize, xinFirstByte, xinStmt, xinLive, xinVma, xfedBytes, xrelocOwner, xrelocOffset, xrelocType, xrelocTarget, xrelocAddend)) (hS : lk_S ns no ng xstmtOp xstmtA xstmtB xstmtOwner ystOut xoutRegion xoutLoaded xoutGroup xopenOut xopenGroup yinGroup) (K : ∀ {ns no ng : Nat} {xopenOut xopenGroup yinGroup : Int32} {xstmtOp xstmtA xstmtB xstmtOwner xoutRegion xoutLoaded xoutGroup ystOut : Nat → Int32}, lk_S ns no ng xstmtOp xstmtA xstmtB xstmtOwner ystOut xoutRegion xoutLoaded xoutGroup xopenOut xopenGroup yinGroup → P (xphase, (nI ns), xopenOut, xopenGroup, (nI no), (nI ng), (nI ni), (nI nb), (nI nr), xregionSize, xcounter, xmemory, xstmtOp, xstmtA, xstmtB, xstmtOwner, xoutRegion, xoutLoaded, xoutGroup, xoutAlign, xoutVma, xoutLma, xoutDot, xgroupStart, xgroupEnd, xgroupResident, xinKind, xinId, xinAlign, xinSize, xinFirstByte, xinStmt, xinLive, xinVma, xfedBytes, xrelocOwner, xrelocOffset, xrelocType, xrelocTarget, xrelocAddend)) (hp : xphase = 0) : wpX_script (fun _ u => P u) (xphase, (nI ns), xopenOut, xopenGroup, (nI no), (nI ng), (nI ni), (nI nb), (nI nr), xregionSize, xcounter, xmemory, xstmtOp, xstmtA, xstmtB, xstmtOwner, xoutRegion, xoutLoaded, xoutGroup, xoutAlign, xoutVma, xoutLma, xoutDot, xgroupStart, xgroupEnd, xgroupResident, xinKind, xinId, xinAlign, xinSize, xinFirstByte, xinStmt, xinLive, xinVma, xfedBytes, xrelocOwner, xrelocOffset, xrelocType, xrelocTarget, xrelocAddend) 9 v2 v3 := by
  obtain ⟨c1, c2, c3, c4, c5, c6, c7, c8, c9⟩ := id hS
  rcases Bool.eq_false_or_eq_true (lk_is xstmtOp ns) with his | his
  · have hno := lk_is_p ns his
    rw [← c4] at hno
    rw [his, if_pos rfl] at c6
    subst c6
    have o1 : ¬ nI (no - 1) = -1 := lk_nn1 (by omega)
    have o2 : ¬ nI (no - 1) < 0 := nI_pos (by omega)
    rcases Bool.eq_false_or_eq_true (lk_ig xstmtOp ns) with hig | hig
    · have hng := lk_ig_p ns hig
      rw [← c5] at hng
      rw [hig, if_pos rfl] at c7 c8
      subst c7
      subst c8
      have g1 : ¬ nI (ng - 1) = -1 := lk_nn1 (by omega)
      repeat (first | refine br_t (by assumption) ?_ | refine br_f (by assumption) ?_ | refine br_t (by decide) ?_ | refine br_f (by decide) ?_ | refine nm_e ?_ | refine And.intro (by assumption) ?_ | refine And.intro rfl ?_ | refine lx_isA (by assumption) ?_ | refine lx_nA (by assumption) ?_)
      exact J
    · rw [hig, if_neg (by decide)] at c7 c8
      subst c7
      subst c8
      repeat (first | refine br_t (by assumption) ?_ | refine br_f (by assumption) ?_ | refine br_t (by decide) ?_ | refine br_f (by decide) ?_ | refine nm_e ?_ | refine And.intro (by assumption) ?_ | refine And.intro rfl ?_ | refine lx_isA (by assumption) ?_ | refine lx_nA (by assumption) ?_)
      exact J
  · rw [his, if_neg (by decide)] at c6
    subst c6
    rcases Bool.eq_false_or_eq_true (lk_ig xstmtOp ns) with hig | hig
    · have hng := lk_ig_p ns hig
      rw [← c5] at hng
      rw [hig, if_pos rfl] at c7 c8
      subst c7
      subst c8
      have g1 : ¬ nI (ng - 1) = -1 := lk_nn1 (by omega)
      by_cases hn : ns < 32
      · have n1 : nI ns < 32 := nI_lt (b := 32) hn (by omega)
        have n2 : vp_in (nI ns) 32 := vp_in_nI hn (by omega)
        repeat (first | refine br_t (by assumption) ?_ | refine br_f (by assumption) ?_ | refine br_t (by decide) ?_ | refine br_f (by decide) ?_ | refine nm_e ?_ | refine And.intro (by assumption) ?_ | refine And.intro rfl ?_ | refine lx_isA (by assumption) ?_ | refine lx_nA (by assumption) ?_)
        rw [nI_clamp (show ns < 2 ^ 31 by omega), nI_1 ns]
        refine K (lk_S_st (o2 := -1) (x := 9) hS hn (by decide) (by decide) rfl rfl rfl ?_)
        unfold lk_sc
        simp only [lk_is_u ns (Nat.le_refl ns), lk_ig_u ns (Nat.le_refl ns), lk_no_u ns (Nat.le_refl ns), lk_ng_u ns (Nat.le_refl ns), pk_us, ← c4, ← c5]
        exact Or.inr (Or.inr (Or.inr (Or.inr ⟨(by trivial), his, hig, (by trivial)⟩)))
      · have n1 : ¬ nI ns < 32 := nI_nlt (b := 32) (by omega) (by omega)
        repeat (first | refine br_t (by assumption) ?_ | refine br_f (by assumption) ?_ | refine br_t (by decide) ?_ | refine br_f (by decide) ?_ | refine nm_e ?_ | refine And.intro (by assumption) ?_ | refine And.intro rfl ?_ | refine lx_isA (by assumption) ?_ | refine lx_nA (by assumption) ?_)
        exact J
    · rw [hig, if_neg (by decide)] at c7 c8
      subst c7
      subst c8
      repeat (first | refine br_t (by assumption) ?_ | refine br_f (by assumption) ?_ | refine br_t (by decide) ?_ | refine br_f (by decide) ?_ | refine nm_e ?_ | refine And.intro (by assumption) ?_ | refine And.intro rfl ?_ | refine lx_isA (by assumption) ?_ | refine lx_nA (by assumption) ?_)
      exact J
end
end
section

section
theorem lx_fm {post : Int32 → Prop} {ns no ng ni nb nr : Nat} {xphase xopenOut xopenGroup : Int32} {xregionSize xcounter xmemory xstmtOp xstmtA xstmtB xstmtOwner xoutRegion xoutLoaded xoutGroup xoutAlign xoutVma xoutLma xoutDot xgroupStart xgroupEnd xgroupResident xinKind xinId xinAlign xinSize xinFirstByte xinStmt xinLive xinVma xfedBytes xrelocOwner xrelocOffset xrelocType xrelocTarget xrelocAddend : Nat → Int32} {s : Nat} (hs : s < 16) (hn : ns ≤ 32) (h : post (lk_fm xstmtOp xstmtA xstmtB xinKind xinId ns s)) : wpX_firstMatch post (xphase, (nI ns), xopenOut, xopenGroup, (nI no), (nI ng), (nI ni), (nI nb), (nI nr), xregionSize, xcounter, xmemory, xstmtOp, xstmtA, xstmtB, xstmtOwner, xoutRegion, xoutLoaded, xoutGroup, xoutAlign, xoutVma, xoutLma, xoutDot, xgroupStart, xgroupEnd, xgroupResident, xinKind, xinId, xinAlign, xinSize, xinFirstByte, xinStmt, xinLive, xinVma, xfedBytes, xrelocOwner, xrelocOffset, xrelocType, xrelocTarget, xrelocAddend) (nI s) := by
  have es : (nI s).toNatClampNeg = s := nI_clamp (by omega)
  have vs : vp_in (nI s) 16 := vp_in_nI hs (by omega)
  have H : ∀ d i, i + d = ns → post (lk_ff (lk_mt xstmtOp xstmtA xstmtB xinKind xinId s) d i) → wX_firstMatch_2 post (nI s) xphase (nI ns) xopenOut xopenGroup (nI no) (nI ng) (nI ni) (nI nb) (nI nr) xregionSize xcounter xmemory xstmtOp xstmtA xstmtB xstmtOwner xoutRegion xoutLoaded xoutGroup xoutAlign xoutVma xoutLma xoutDot xgroupStart xgroupEnd xgroupResident xinKind xinId xinAlign xinSize xinFirstByte xinStmt xinLive xinVma xfedBytes xrelocOwner xrelocOffset xrelocType xrelocTarget xrelocAddend (d + 1) (nI i) := by
    intro d
    induction d with
    | zero => intro i hi h; exact br_t (nI_le (by omega) (by omega)) h
    | succ d ih =>
      intro i hi h
      have e : (nI i).toNatClampNeg = i := nI_clamp (by omega)
      have vi : vp_in (nI i) 32 := vp_in_nI (by omega) (by omega)
      have n1 : ¬ nI ns ≤ nI i := nI_ge (by omega) (by omega)
      have H1 : ((xstmtOp (nI i).toNatClampNeg = 3 ∨ xstmtOp (nI i).toNatClampNeg = 4) ∧ (xstmtA (nI i).toNatClampNeg = -1 ∨ xstmtA (nI i).toNatClampNeg = xinId (nI s).toNatClampNeg) ∧ (xstmtB (nI i).toNatClampNeg = 0 ∨ xstmtB (nI i).toNatClampNeg = xinKind (nI s).toNatClampNeg)) → post (nI i) := by
        rw [e, es]
        intro z
        rw [lk_ff_t (decide_eq_true z)] at h
        exact h
      have H2 : ¬ ((xstmtOp (nI i).toNatClampNeg = 3 ∨ xstmtOp (nI i).toNatClampNeg = 4) ∧ (xstmtA (nI i).toNatClampNeg = -1 ∨ xstmtA (nI i).toNatClampNeg = xinId (nI s).toNatClampNeg) ∧ (xstmtB (nI i).toNatClampNeg = 0 ∨ xstmtB (nI i).toNatClampNeg = xinKind (nI s).toNatClampNeg)) → wX_firstMatch_2 post (nI s) xphase (nI ns) xopenOut xopenGroup (nI no) (nI ng) (nI ni) (nI nb) (nI nr) xregionSize xcounter xmemory xstmtOp xstmtA xstmtB xstmtOwner xoutRegion xoutLoaded xoutGroup xoutAlign xoutVma xoutLma xoutDot xgroupStart xgroupEnd xgroupResident xinKind xinId xinAlign xinSize xinFirstByte xinStmt xinLive xinVma xfedBytes xrelocOwner xrelocOffset xrelocType xrelocTarget xrelocAddend (d + 1) (nI i + 1) := by
        rw [e, es]
        intro z
        rw [nI_1]
        rw [lk_ff_f (fun y => z (of_decide_eq_true y))] at h
        exact ih (i + 1) (by omega) h
      clear h ih
      by_cases t1 : xstmtOp (nI i).toNatClampNeg = 3
      · by_cases a1 : xstmtA (nI i).toNatClampNeg = -1
        · by_cases b1 : xstmtB (nI i).toNatClampNeg = 0
          · repeat (first | refine br_t (by assumption) ?_ | refine br_f (by assumption) ?_ | refine br_t (by decide) ?_ | refine br_f (by decide) ?_ | refine nm_e ?_ | refine And.intro (by assumption) ?_)
            exact H1 ⟨Or.inl t1, Or.inl a1, Or.inl b1⟩
          by_cases b2 : xstmtB (nI i).toNatClampNeg = xinKind (nI s).toNatClampNeg
          · repeat (first | refine br_t (by assumption) ?_ | refine br_f (by assumption) ?_ | refine br_t (by decide) ?_ | refine br_f (by decide) ?_ | refine nm_e ?_ | refine And.intro (by assumption) ?_)
            exact H1 ⟨Or.inl t1, Or.inl a1, Or.inr b2⟩
          repeat (first | refine br_t (by assumption) ?_ | refine br_f (by assumption) ?_ | refine br_t (by decide) ?_ | refine br_f (by decide) ?_ | refine nm_e ?_ | refine And.intro (by assumption) ?_)
          exact H2 (fun z => z.2.2.elim b1 b2)
        by_cases a2 : xstmtA (nI i).toNatClampNeg = xinId (nI s).toNatClampNeg
        · by_cases b1 : xstmtB (nI i).toNatClampNeg = 0
          · repeat (first | refine br_t (by assumption) ?_ | refine br_f (by assumption) ?_ | refine br_t (by decide) ?_ | refine br_f (by decide) ?_ | refine nm_e ?_ | refine And.intro (by assumption) ?_)
            exact H1 ⟨Or.inl t1, Or.inr a2, Or.inl b1⟩
          by_cases b2 : xstmtB (nI i).toNatClampNeg = xinKind (nI s).toNatClampNeg
          · repeat (first | refine br_t (by assumption) ?_ | refine br_f (by assumption) ?_ | refine br_t (by decide) ?_ | refine br_f (by decide) ?_ | refine nm_e ?_ | refine And.intro (by assumption) ?_)
            exact H1 ⟨Or.inl t1, Or.inr a2, Or.inr b2⟩
          repeat (first | refine br_t (by assumption) ?_ | refine br_f (by assumption) ?_ | refine br_t (by decide) ?_ | refine br_f (by decide) ?_ | refine nm_e ?_ | refine And.intro (by assumption) ?_)
          exact H2 (fun z => z.2.2.elim b1 b2)
        by_cases b1 : xstmtB (nI i).toNatClampNeg = 0
        · repeat (first | refine br_t (by assumption) ?_ | refine br_f (by assumption) ?_ | refine br_t (by decide) ?_ | refine br_f (by decide) ?_ | refine nm_e ?_ | refine And.intro (by assumption) ?_)
          exact H2 (fun z => z.2.1.elim a1 a2)
        by_cases b2 : xstmtB (nI i).toNatClampNeg = xinKind (nI s).toNatClampNeg
        · repeat (first | refine br_t (by assumption) ?_ | refine br_f (by assumption) ?_ | refine br_t (by decide) ?_ | refine br_f (by decide) ?_ | refine nm_e ?_ | refine And.intro (by assumption) ?_)
          exact H2 (fun z => z.2.1.elim a1 a2)
        repeat (first | refine br_t (by assumption) ?_ | refine br_f (by assumption) ?_ | refine br_t (by decide) ?_ | refine br_f (by decide) ?_ | refine nm_e ?_ | refine And.intro (by assumption) ?_)
        exact H2 (fun z => z.2.1.elim a1 a2)
      by_cases t2 : xstmtOp (nI i).toNatClampNeg = 4
      · by_cases a1 : xstmtA (nI i).toNatClampNeg = -1
        · by_cases b1 : xstmtB (nI i).toNatClampNeg = 0
          · repeat (first | refine br_t (by assumption) ?_ | refine br_f (by assumption) ?_ | refine br_t (by decide) ?_ | refine br_f (by decide) ?_ | refine nm_e ?_ | refine And.intro (by assumption) ?_)
            exact H1 ⟨Or.inr t2, Or.inl a1, Or.inl b1⟩
          by_cases b2 : xstmtB (nI i).toNatClampNeg = xinKind (nI s).toNatClampNeg
          · repeat (first | refine br_t (by assumption) ?_ | refine br_f (by assumption) ?_ | refine br_t (by decide) ?_ | refine br_f (by decide) ?_ | refine nm_e ?_ | refine And.intro (by assumption) ?_)
            exact H1 ⟨Or.inr t2, Or.inl a1, Or.inr b2⟩
          repeat (first | refine br_t (by assumption) ?_ | refine br_f (by assumption) ?_ | refine br_t (by decide) ?_ | refine br_f (by decide) ?_ | refine nm_e ?_ | refine And.intro (by assumption) ?_)
          exact H2 (fun z => z.2.2.elim b1 b2)
        by_cases a2 : xstmtA (nI i).toNatClampNeg = xinId (nI s).toNatClampNeg
        · by_cases b1 : xstmtB (nI i).toNatClampNeg = 0
          · repeat (first | refine br_t (by assumption) ?_ | refine br_f (by assumption) ?_ | refine br_t (by decide) ?_ | refine br_f (by decide) ?_ | refine nm_e ?_ | refine And.intro (by assumption) ?_)
            exact H1 ⟨Or.inr t2, Or.inr a2, Or.inl b1⟩
          by_cases b2 : xstmtB (nI i).toNatClampNeg = xinKind (nI s).toNatClampNeg
          · repeat (first | refine br_t (by assumption) ?_ | refine br_f (by assumption) ?_ | refine br_t (by decide) ?_ | refine br_f (by decide) ?_ | refine nm_e ?_ | refine And.intro (by assumption) ?_)
            exact H1 ⟨Or.inr t2, Or.inr a2, Or.inr b2⟩
          repeat (first | refine br_t (by assumption) ?_ | refine br_f (by assumption) ?_ | refine br_t (by decide) ?_ | refine br_f (by decide) ?_ | refine nm_e ?_ | refine And.intro (by assumption) ?_)
          exact H2 (fun z => z.2.2.elim b1 b2)
        by_cases b1 : xstmtB (nI i).toNatClampNeg = 0
        · repeat (first | refine br_t (by assumption) ?_ | refine br_f (by assumption) ?_ | refine br_t (by decide) ?_ | refine br_f (by decide) ?_ | refine nm_e ?_ | refine And.intro (by assumption) ?_)
          exact H2 (fun z => z.2.1.elim a1 a2)
        by_cases b2 : xstmtB (nI i).toNatClampNeg = xinKind (nI s).toNatClampNeg
        · repeat (first | refine br_t (by assumption) ?_ | refine br_f (by assumption) ?_ | refine br_t (by decide) ?_ | refine br_f (by decide) ?_ | refine nm_e ?_ | refine And.intro (by assumption) ?_)
          exact H2 (fun z => z.2.1.elim a1 a2)
        repeat (first | refine br_t (by assumption) ?_ | refine br_f (by assumption) ?_ | refine br_t (by decide) ?_ | refine br_f (by decide) ?_ | refine nm_e ?_ | refine And.intro (by assumption) ?_)
        exact H2 (fun z => z.2.1.elim a1 a2)
      by_cases a1 : xstmtA (nI i).toNatClampNeg = -1
      · by_cases b1 : xstmtB (nI i).toNatClampNeg = 0
        · repeat (first | refine br_t (by assumption) ?_ | refine br_f (by assumption) ?_ | refine br_t (by decide) ?_ | refine br_f (by decide) ?_ | refine nm_e ?_ | refine And.intro (by assumption) ?_)
          exact H2 (fun z => z.1.elim t1 t2)
        by_cases b2 : xstmtB (nI i).toNatClampNeg = xinKind (nI s).toNatClampNeg
        · repeat (first | refine br_t (by assumption) ?_ | refine br_f (by assumption) ?_ | refine br_t (by decide) ?_ | refine br_f (by decide) ?_ | refine nm_e ?_ | refine And.intro (by assumption) ?_)
          exact H2 (fun z => z.1.elim t1 t2)
        repeat (first | refine br_t (by assumption) ?_ | refine br_f (by assumption) ?_ | refine br_t (by decide) ?_ | refine br_f (by decide) ?_ | refine nm_e ?_ | refine And.intro (by assumption) ?_)
        exact H2 (fun z => z.1.elim t1 t2)
      by_cases a2 : xstmtA (nI i).toNatClampNeg = xinId (nI s).toNatClampNeg
      · by_cases b1 : xstmtB (nI i).toNatClampNeg = 0
        · repeat (first | refine br_t (by assumption) ?_ | refine br_f (by assumption) ?_ | refine br_t (by decide) ?_ | refine br_f (by decide) ?_ | refine nm_e ?_ | refine And.intro (by assumption) ?_)
          exact H2 (fun z => z.1.elim t1 t2)
        by_cases b2 : xstmtB (nI i).toNatClampNeg = xinKind (nI s).toNatClampNeg
        · repeat (first | refine br_t (by assumption) ?_ | refine br_f (by assumption) ?_ | refine br_t (by decide) ?_ | refine br_f (by decide) ?_ | refine nm_e ?_ | refine And.intro (by assumption) ?_)
          exact H2 (fun z => z.1.elim t1 t2)
        repeat (first | refine br_t (by assumption) ?_ | refine br_f (by assumption) ?_ | refine br_t (by decide) ?_ | refine br_f (by decide) ?_ | refine nm_e ?_ | refine And.intro (by assumption) ?_)
        exact H2 (fun z => z.1.elim t1 t2)
      by_cases b1 : xstmtB (nI i).toNatClampNeg = 0
      · repeat (first | refine br_t (by assumption) ?_ | refine br_f (by assumption) ?_ | refine br_t (by decide) ?_ | refine br_f (by decide) ?_ | refine nm_e ?_ | refine And.intro (by assumption) ?_)
        exact H2 (fun z => z.1.elim t1 t2)
      by_cases b2 : xstmtB (nI i).toNatClampNeg = xinKind (nI s).toNatClampNeg
      · repeat (first | refine br_t (by assumption) ?_ | refine br_f (by assumption) ?_ | refine br_t (by decide) ?_ | refine br_f (by decide) ?_ | refine nm_e ?_ | refine And.intro (by assumption) ?_)
        exact H2 (fun z => z.1.elim t1 t2)
      repeat (first | refine br_t (by assumption) ?_ | refine br_f (by assumption) ?_ | refine br_t (by decide) ?_ | refine br_f (by decide) ?_ | refine nm_e ?_ | refine And.intro (by assumption) ?_)
      exact H2 (fun z => z.1.elim t1 t2)
  exact ⟨_, H ns 0 (by omega) h⟩
theorem lx_as {post : St2 → Prop} {ns no ng ni nb nr : Nat} {xphase xopenOut xopenGroup : Int32} {xregionSize xcounter xmemory xstmtOp xstmtA xstmtB xstmtOwner xoutRegion xoutLoaded xoutGroup xoutAlign xoutVma xoutLma xoutDot xgroupStart xgroupEnd xgroupResident xinKind xinId xinAlign xinSize xinFirstByte xinStmt xinLive xinVma xfedBytes xrelocOwner xrelocOffset xrelocType xrelocTarget xrelocAddend : Nat → Int32} (hi : ni ≤ 16) (hn : ns ≤ 32) (h : post (xphase, (nI ns), xopenOut, xopenGroup, (nI no), (nI ng), (nI ni), (nI nb), (nI nr), xregionSize, xcounter, xmemory, xstmtOp, xstmtA, xstmtB, xstmtOwner, xoutRegion, xoutLoaded, xoutGroup, xoutAlign, xoutVma, xoutLma, xoutDot, xgroupStart, xgroupEnd, xgroupResident, xinKind, xinId, xinAlign, xinSize, xinFirstByte, (lk_as xinStmt ni (lk_fm xstmtOp xstmtA xstmtB xinKind xinId ns)), xinLive, xinVma, xfedBytes, xrelocOwner, xrelocOffset, xrelocType, xrelocTarget, xrelocAddend)) : wpX_assignSections post (xphase, (nI ns), xopenOut, xopenGroup, (nI no), (nI ng), (nI ni), (nI nb), (nI nr), xregionSize, xcounter, xmemory, xstmtOp, xstmtA, xstmtB, xstmtOwner, xoutRegion, xoutLoaded, xoutGroup, xoutAlign, xoutVma, xoutLma, xoutDot, xgroupStart, xgroupEnd, xgroupResident, xinKind, xinId, xinAlign, xinSize, xinFirstByte, xinStmt, xinLive, xinVma, xfedBytes, xrelocOwner, xrelocOffset, xrelocType, xrelocTarget, xrelocAddend) := by
  have H : ∀ d s, s + d = ni → wX_assignSections_2 post xphase (nI ns) xopenOut xopenGroup (nI no) (nI ng) (nI ni) (nI nb) (nI nr) (d + 1) (nI s) xregionSize xcounter xmemory xstmtOp xstmtA xstmtB xstmtOwner xoutRegion xoutLoaded xoutGroup xoutAlign xoutVma xoutLma xoutDot xgroupStart xgroupEnd xgroupResident xinKind xinId xinAlign xinSize xinFirstByte (lk_as xinStmt s (lk_fm xstmtOp xstmtA xstmtB xinKind xinId ns)) xinLive xinVma xfedBytes xrelocOwner xrelocOffset xrelocType xrelocTarget xrelocAddend := by
    intro d
    induction d with
    | zero =>
      intro s hs
      have e1 : s = ni := hs
      subst e1
      exact br_t (nI_le (by omega) (by omega)) h
    | succ d ih =>
      intro s hs
      exact br_f (nI_ge (by omega) (by omega)) (lx_fm (by omega) hn ⟨vp_in_nI (by omega) (by omega), nm_r (by rw [nI_clamp (by omega)]; exact lk_as_s rfl) (nm_r (nI_1 s) (ih (s + 1) (by omega)))⟩)
  have H2 := H ni 0 (by omega)
  rw [lk_as_0] at H2
  exact ⟨_, H2⟩
theorem lx_hat {post : Int32 → Prop} {ns no ng ni nb nr : Nat} {xphase xopenOut xopenGroup : Int32} {xregionSize xcounter xmemory xstmtOp xstmtA xstmtB xstmtOwner xoutRegion xoutLoaded xoutGroup xoutAlign xoutVma xoutLma xoutDot xgroupStart xgroupEnd xgroupResident xinKind xinId xinAlign xinSize xinFirstByte xinStmt xinLive xinVma xfedBytes xrelocOwner xrelocOffset xrelocType xrelocTarget xrelocAddend : Nat → Int32} {r t : Nat} (hr : r < 32) (ht : t < 16) (hn : ni ≤ 16) (et : xrelocTarget r = nI t) (h1 : lk_on xrelocTarget xinStmt ni r = true → post 1) (h0 : ¬ lk_on xrelocTarget xinStmt ni r = true → post 0) : wpX_hasAssignedTarget post (xphase, (nI ns), xopenOut, xopenGroup, (nI no), (nI ng), (nI ni), (nI nb), (nI nr), xregionSize, xcounter, xmemory, xstmtOp, xstmtA, xstmtB, xstmtOwner, xoutRegion, xoutLoaded, xoutGroup, xoutAlign, xoutVma, xoutLma, xoutDot, xgroupStart, xgroupEnd, xgroupResident, xinKind, xinId, xinAlign, xinSize, xinFirstByte, xinStmt, xinLive, xinVma, xfedBytes, xrelocOwner, xrelocOffset, xrelocType, xrelocTarget, xrelocAddend) (nI r) := by
  have c := lk_on_t (st := xinStmt) (ni := ni) (by omega) (by omega) et
  have e : (nI r).toNatClampNeg = r := nI_clamp (by omega)
  have v1 : vp_in (nI r) 32 := vp_in_nI hr (by omega)
  have v2 : vp_in (xrelocTarget (nI r).toNatClampNeg) 16 := by rw [e, et]; exact vp_in_nI ht (by omega)
  by_cases a : nI ni ≤ xrelocTarget (nI r).toNatClampNeg
  · refine ⟨v1, br_t a (h0 (fun z => ?_))⟩
    rw [e, et, nI_leI (by omega) (by omega)] at a
    have := (c.mp z).1
    omega
  · by_cases b : xinStmt (xrelocTarget (nI r).toNatClampNeg).toNatClampNeg = -1
    · refine ⟨v1, br_f a ⟨v1, v2, br_t b (h0 (fun z => ?_))⟩⟩
      rw [e, et, nI_clamp (by omega)] at b
      exact (c.mp z).2 b
    · refine ⟨v1, br_f a ⟨v1, v2, br_f b (h1 (c.mpr ⟨?_, ?_⟩))⟩⟩
      · rw [e, et, nI_leI (by omega) (by omega)] at a
        omega
      · rw [e, et, nI_clamp (by omega)] at b
        exact b
def lk_hq (ni nr : Nat) (ro rt : Nat → Int32) : Prop := ni ≤ 16 ∧ nr ≤ 32 ∧ ∀ r, r < nr → ∃ o t, o < ni ∧ ro r = nI o ∧ t < 16 ∧ rt r = nI t
theorem lx_pass {post : St2 → Prop} {ns no ng ni nb nr : Nat} {xphase xopenOut xopenGroup : Int32} {xregionSize xcounter xmemory xstmtOp xstmtA xstmtB xstmtOwner xoutRegion xoutLoaded xoutGroup xoutAlign xoutVma xoutLma xoutDot xgroupStart xgroupEnd xgroupResident xinKind xinId xinAlign xinSize xinFirstByte xinStmt xinLive xinVma xfedBytes xrelocOwner xrelocOffset xrelocType xrelocTarget xrelocAddend : Nat → Int32} (hq : lk_hq ni nr xrelocOwner xrelocTarget) (h : post (xphase, (nI ns), xopenOut, xopenGroup, (nI no), (nI ng), (nI ni), (nI nb), (nI nr), xregionSize, xcounter, xmemory, xstmtOp, xstmtA, xstmtB, xstmtOwner, xoutRegion, xoutLoaded, xoutGroup, xoutAlign, xoutVma, xoutLma, xoutDot, xgroupStart, xgroupEnd, xgroupResident, xinKind, xinId, xinAlign, xinSize, xinFirstByte, xinStmt, (lk_ps (lk_sp xrelocOwner xrelocTarget xinStmt ni) nr xinLive), xinVma, xfedBytes, xrelocOwner, xrelocOffset, xrelocType, xrelocTarget, xrelocAddend)) : wpX_markTargetsOfLive post (xphase, (nI ns), xopenOut, xopenGroup, (nI no), (nI ng), (nI ni), (nI nb), (nI nr), xregionSize, xcounter, xmemory, xstmtOp, xstmtA, xstmtB, xstmtOwner, xoutRegion, xoutLoaded, xoutGroup, xoutAlign, xoutVma, xoutLma, xoutDot, xgroupStart, xgroupEnd, xgroupResident, xinKind, xinId, xinAlign, xinSize, xinFirstByte, xinStmt, xinLive, xinVma, xfedBytes, xrelocOwner, xrelocOffset, xrelocType, xrelocTarget, xrelocAddend) := by
  obtain ⟨q1, q2, q3⟩ := hq
  have H : ∀ d r, r + d = nr → wX_markTargetsOfLive_2 post xphase (nI ns) xopenOut xopenGroup (nI no) (nI ng) (nI ni) (nI nb) (nI nr) (d + 1) (nI r) xregionSize xcounter xmemory xstmtOp xstmtA xstmtB xstmtOwner xoutRegion xoutLoaded xoutGroup xoutAlign xoutVma xoutLma xoutDot xgroupStart xgroupEnd xgroupResident xinKind xinId xinAlign xinSize xinFirstByte xinStmt (lk_ps (lk_sp xrelocOwner xrelocTarget xinStmt ni) r xinLive) xinVma xfedBytes xrelocOwner xrelocOffset xrelocType xrelocTarget xrelocAddend := by
    intro d
    induction d with
    | zero =>
      intro r hr
      have e1 : r = nr := hr
      subst e1
      exact br_t (nI_le (by omega) (by omega)) h
    | succ d ih =>
      intro r hr
      obtain ⟨o, t, ho, eo, ht, et⟩ := q3 r (by omega)
      have e : (nI r).toNatClampNeg = r := nI_clamp (by omega)
      have v1 : vp_in (nI r) 32 := vp_in_nI (by omega) (by omega)
      have v2 : vp_in (xrelocOwner (nI r).toNatClampNeg) 16 := by rw [e, eo]; exact vp_in_nI (by omega) (by omega)
      have v3 : vp_in (xrelocTarget (nI r).toNatClampNeg) 16 := by rw [e, et]; exact vp_in_nI (by omega) (by omega)
      have hi := ih (r + 1) (by omega)
      have es : lk_ps (lk_sp xrelocOwner xrelocTarget xinStmt ni) (r + 1) xinLive = lk_sp xrelocOwner xrelocTarget xinStmt ni r (lk_ps (lk_sp xrelocOwner xrelocTarget xinStmt ni) r xinLive) := rfl
      rw [es] at hi
      refine br_f (nI_ge (by omega) (by omega)) ⟨v1, v2, ?_⟩
      by_cases a : lk_ps (lk_sp xrelocOwner xrelocTarget xinStmt ni) r xinLive (xrelocOwner (nI r).toNatClampNeg).toNatClampNeg = 1
      · refine br_t a (lx_hat (by omega) ht q1 et (fun z => ?_) (fun z => ?_))
        · refine br_f (by decide) ⟨v1, v3, nm_r ?_ (nm_r (nI_1 r) hi)⟩
          rw [e] at a ⊢
          exact (if_pos ⟨a, z⟩).symm
        · refine br_t rfl (nm_r (nI_1 r) ?_)
          have e2 : lk_sp xrelocOwner xrelocTarget xinStmt ni r (lk_ps (lk_sp xrelocOwner xrelocTarget xinStmt ni) r xinLive) = lk_ps (lk_sp xrelocOwner xrelocTarget xinStmt ni) r xinLive := if_neg (fun y => z y.2)
          rw [e2] at hi
          exact hi
      · refine br_f a (nm_r (nI_1 r) ?_)
        rw [e] at a
        have e2 : lk_sp xrelocOwner xrelocTarget xinStmt ni r (lk_ps (lk_sp xrelocOwner xrelocTarget xinStmt ni) r xinLive) = lk_ps (lk_sp xrelocOwner xrelocTarget xinStmt ni) r xinLive := if_neg (fun y => a y.1)
        rw [e2] at hi
        exact hi
  exact ⟨_, H nr 0 (by omega)⟩
theorem lx_rounds {post : St2 → Prop} {ns no ng ni nb nr : Nat} {xphase xopenOut xopenGroup : Int32} {xregionSize xcounter xmemory xstmtOp xstmtA xstmtB xstmtOwner xoutRegion xoutLoaded xoutGroup xoutAlign xoutVma xoutLma xoutDot xgroupStart xgroupEnd xgroupResident xinKind xinId xinAlign xinSize xinFirstByte xinStmt xinLive xinVma xfedBytes xrelocOwner xrelocOffset xrelocType xrelocTarget xrelocAddend : Nat → Int32} (hq : lk_hq ni nr xrelocOwner xrelocTarget) (h : post (xphase, (nI ns), xopenOut, xopenGroup, (nI no), (nI ng), (nI ni), (nI nb), (nI nr), xregionSize, xcounter, xmemory, xstmtOp, xstmtA, xstmtB, xstmtOwner, xoutRegion, xoutLoaded, xoutGroup, xoutAlign, xoutVma, xoutLma, xoutDot, xgroupStart, xgroupEnd, xgroupResident, xinKind, xinId, xinAlign, xinSize, xinFirstByte, xinStmt, (lk_it (lk_sp xrelocOwner xrelocTarget xinStmt ni) nr ni xinLive), xinVma, xfedBytes, xrelocOwner, xrelocOffset, xrelocType, xrelocTarget, xrelocAddend)) : ∃ n, wX_markLive_68 post n 0 xphase (nI ns) xopenOut xopenGroup (nI no) (nI ng) (nI ni) (nI nb) (nI nr) xregionSize xcounter xmemory xstmtOp xstmtA xstmtB xstmtOwner xoutRegion xoutLoaded xoutGroup xoutAlign xoutVma xoutLma xoutDot xgroupStart xgroupEnd xgroupResident xinKind xinId xinAlign xinSize xinFirstByte xinStmt xinLive xinVma xfedBytes xrelocOwner xrelocOffset xrelocType xrelocTarget xrelocAddend := by
  have h16 := hq.1
  have H : ∀ d x, x + d = ni → wX_markLive_68 post (d + 1) (nI x) xphase (nI ns) xopenOut xopenGroup (nI no) (nI ng) (nI ni) (nI nb) (nI nr) xregionSize xcounter xmemory xstmtOp xstmtA xstmtB xstmtOwner xoutRegion xoutLoaded xoutGroup xoutAlign xoutVma xoutLma xoutDot xgroupStart xgroupEnd xgroupResident xinKind xinId xinAlign xinSize xinFirstByte xinStmt (lk_it (lk_sp xrelocOwner xrelocTarget xinStmt ni) nr x xinLive) xinVma xfedBytes xrelocOwner xrelocOffset xrelocType xrelocTarget xrelocAddend := by
    intro d
    induction d with
    | zero =>
      intro x hx
      have e1 : x = ni := hx
      subst e1
      exact br_t (nI_le (by omega) (by omega)) h
    | succ d ih =>
      intro x hx
      exact br_f (nI_ge (by omega) (by omega)) (lx_pass hq (nm_r (nI_1 x) (ih (x + 1) (by omega))))
  exact ⟨_, H ni 0 (by omega)⟩
def lk_ht (ni : Nat) (st : Nat → Int32) : Prop := ∀ s, s < ni → st s = -1 ∨ ∃ q, q < 32 ∧ st s = nI q
theorem lx_live {post : St2 → Prop} {ns no ng ni nb nr : Nat} {xphase xopenOut xopenGroup : Int32} {xregionSize xcounter xmemory xstmtOp xstmtA xstmtB xstmtOwner xoutRegion xoutLoaded xoutGroup xoutAlign xoutVma xoutLma xoutDot xgroupStart xgroupEnd xgroupResident xinKind xinId xinAlign xinSize xinFirstByte xinStmt xinLive xinVma xfedBytes xrelocOwner xrelocOffset xrelocType xrelocTarget xrelocAddend : Nat → Int32} {gc : Int32} (hq : lk_hq ni nr xrelocOwner xrelocTarget) (ht : lk_ht ni xinStmt) (h : post (xphase, (nI ns), xopenOut, xopenGroup, (nI no), (nI ng), (nI ni), (nI nb), (nI nr), xregionSize, xcounter, xmemory, xstmtOp, xstmtA, xstmtB, xstmtOwner, xoutRegion, xoutLoaded, xoutGroup, xoutAlign, xoutVma, xoutLma, xoutDot, xgroupStart, xgroupEnd, xgroupResident, xinKind, xinId, xinAlign, xinSize, xinFirstByte, xinStmt, (lk_lv xstmtOp xinStmt xrelocOwner xrelocTarget gc ni nr xinLive), xinVma, xfedBytes, xrelocOwner, xrelocOffset, xrelocType, xrelocTarget, xrelocAddend)) : wpX_markLive post (xphase, (nI ns), xopenOut, xopenGroup, (nI no), (nI ng), (nI ni), (nI nb), (nI nr), xregionSize, xcounter, xmemory, xstmtOp, xstmtA, xstmtB, xstmtOwner, xoutRegion, xoutLoaded, xoutGroup, xoutAlign, xoutVma, xoutLma, xoutDot, xgroupStart, xgroupEnd, xgroupResident, xinKind, xinId, xinAlign, xinSize, xinFirstByte, xinStmt, xinLive, xinVma, xfedBytes, xrelocOwner, xrelocOffset, xrelocType, xrelocTarget, xrelocAddend) gc := by
  have h16 := hq.1
  have H : ∀ d s, s + d = ni → wX_markLive_2 post gc xphase (nI ns) xopenOut xopenGroup (nI no) (nI ng) (nI ni) (nI nb) (nI nr) (d + 1) (nI s) xregionSize xcounter xmemory xstmtOp xstmtA xstmtB xstmtOwner xoutRegion xoutLoaded xoutGroup xoutAlign xoutVma xoutLma xoutDot xgroupStart xgroupEnd xgroupResident xinKind xinId xinAlign xinSize xinFirstByte xinStmt (lk_as xinLive s (lk_l0 xstmtOp xinStmt gc)) xinVma xfedBytes xrelocOwner xrelocOffset xrelocType xrelocTarget xrelocAddend := by
    intro d
    induction d with
    | zero =>
      intro s hs
      have e1 : s = ni := hs
      subst e1
      exact br_t (nI_le (by omega) (by omega)) (lx_rounds hq h)
    | succ d ih =>
      intro s hs
      have e : (nI s).toNatClampNeg = s := nI_clamp (by omega)
      have v1 : vp_in (nI s) 16 := vp_in_nI (by omega) (by omega)
      have hi := ih (s + 1) (by omega)
      refine br_f (nI_ge (by omega) (by omega)) ⟨v1, ?_⟩
      by_cases a : xinStmt (nI s).toNatClampNeg = -1
      · refine br_t a (br_t rfl ⟨v1, nm_r ?_ (nm_r (nI_1 s) hi)⟩)
        rw [e] at a ⊢
        exact lk_as_s (if_neg (fun y => y.1 a)).symm
      · have v2 : vp_in (xinStmt (nI s).toNatClampNeg) 32 := by
          rw [e] at a ⊢
          rcases ht s (by omega) with z | ⟨q, hq2, z⟩
          · exact absurd z a
          · rw [z]; exact vp_in_nI hq2 (by omega)
        refine br_f a (br_f (by decide) ?_)
        by_cases b : gc = 0
        · refine br_t b ⟨v1, nm_r ?_ (nm_r (nI_1 s) hi)⟩
          rw [e] at a ⊢
          exact lk_as_s (if_pos ⟨a, Or.inl b⟩).symm
        · refine br_f b ⟨v1, v2, ?_⟩
          by_cases c : xstmtOp (xinStmt (nI s).toNatClampNeg).toNatClampNeg = 4
          · refine br_t c ⟨v1, nm_r ?_ (nm_r (nI_1 s) hi)⟩
            rw [e] at a c ⊢
            exact lk_as_s (if_pos ⟨a, Or.inr c⟩).symm
          · refine br_f c ⟨v1, nm_r ?_ (nm_r (nI_1 s) hi)⟩
            rw [e] at c ⊢
            exact lk_as_s (if_neg (fun y => y.2.elim b c)).symm
  have H2 := H ni 0 (by omega)
  rw [lk_as_0] at H2
  exact ⟨_, H2⟩
theorem lx_ud {post : Int32 → Prop} {ns no ng ni nb nr : Nat} {xphase xopenOut xopenGroup : Int32} {xregionSize xcounter xmemory xstmtOp xstmtA xstmtB xstmtOwner xoutRegion xoutLoaded xoutGroup xoutAlign xoutVma xoutLma xoutDot xgroupStart xgroupEnd xgroupResident xinKind xinId xinAlign xinSize xinFirstByte xinStmt xinLive xinVma xfedBytes xrelocOwner xrelocOffset xrelocType xrelocTarget xrelocAddend : Nat → Int32} (hq : lk_hq ni nr xrelocOwner xrelocTarget) (h1 : lk_ex (lk_ud xrelocOwner xrelocTarget xinStmt xinLive ni) nr 0 = true → post 1) (h0 : lk_ex (lk_ud xrelocOwner xrelocTarget xinStmt xinLive ni) nr 0 = false → post 0) : wpX_hasUndefinedTarget post (xphase, (nI ns), xopenOut, xopenGroup, (nI no), (nI ng), (nI ni), (nI nb), (nI nr), xregionSize, xcounter, xmemory, xstmtOp, xstmtA, xstmtB, xstmtOwner, xoutRegion, xoutLoaded, xoutGroup, xoutAlign, xoutVma, xoutLma, xoutDot, xgroupStart, xgroupEnd, xgroupResident, xinKind, xinId, xinAlign, xinSize, xinFirstByte, xinStmt, xinLive, xinVma, xfedBytes, xrelocOwner, xrelocOffset, xrelocType, xrelocTarget, xrelocAddend) := by
  obtain ⟨q1, q2, q3⟩ := hq
  have H : ∀ d r, r + d = nr → (lk_ex (lk_ud xrelocOwner xrelocTarget xinStmt xinLive ni) d r = true → post 1) → (lk_ex (lk_ud xrelocOwner xrelocTarget xinStmt xinLive ni) d r = false → post 0) → wX_hasUndefinedTarget_2 post xphase (nI ns) xopenOut xopenGroup (nI no) (nI ng) (nI ni) (nI nb) (nI nr) xregionSize xcounter xmemory xstmtOp xstmtA xstmtB xstmtOwner xoutRegion xoutLoaded xoutGroup xoutAlign xoutVma xoutLma xoutDot xgroupStart xgroupEnd xgroupResident xinKind xinId xinAlign xinSize xinFirstByte xinStmt xinLive xinVma xfedBytes xrelocOwner xrelocOffset xrelocType xrelocTarget xrelocAddend (d + 1) (nI r) := by
    intro d
    induction d with
    | zero => intro r hr _ h0; exact br_t (nI_le (by omega) (by omega)) (h0 rfl)
    | succ d ih =>
      intro r hr h1 h0
      obtain ⟨o, t, ho, eo, ht, et⟩ := q3 r (by omega)
      have e : (nI r).toNatClampNeg = r := nI_clamp (by omega)
      have v1 : vp_in (nI r) 32 := vp_in_nI (by omega) (by omega)
      have v2 : vp_in (xrelocOwner (nI r).toNatClampNeg) 16 := by rw [e, eo]; exact vp_in_nI (by omega) (by omega)
      have hn : ¬ lk_ud xrelocOwner xrelocTarget xinStmt xinLive ni r = true → wX_hasUndefinedTarget_2 post xphase (nI ns) xopenOut xopenGroup (nI no) (nI ng) (nI ni) (nI nb) (nI nr) xregionSize xcounter xmemory xstmtOp xstmtA xstmtB xstmtOwner xoutRegion xoutLoaded xoutGroup xoutAlign xoutVma xoutLma xoutDot xgroupStart xgroupEnd xgroupResident xinKind xinId xinAlign xinSize xinFirstByte xinStmt xinLive xinVma xfedBytes xrelocOwner xrelocOffset xrelocType xrelocTarget xrelocAddend (d + 1) (nI (r + 1)) := by
        intro z
        rw [lk_ex_f z] at h1 h0
        exact ih (r + 1) (by omega) h1 h0
      refine br_f (nI_ge (by omega) (by omega)) ⟨v1, v2, ?_⟩
      by_cases a : xinLive (xrelocOwner (nI r).toNatClampNeg).toNatClampNeg = 1
      · refine br_t a (lx_hat (by omega) ht q1 et (fun z => ?_) (fun z => ?_))
        · refine br_f (by decide) (nm_r (nI_1 r) (hn (fun y => (of_decide_eq_true y).2 z)))
        · rw [e] at a
          exact br_t rfl (h1 (lk_ex_t (decide_eq_true ⟨a, z⟩)))
      · rw [e] at a
        refine br_f (by rw [e]; exact a) (nm_r (nI_1 r) (hn (fun y => a (of_decide_eq_true y).1)))
  exact ⟨_, H nr 0 (by omega) h1 h0⟩
def lk_hl (ni no ns : Nat) (st lv ox oy : Nat → Int32) : Prop := no ≤ 8 ∧ ns ≤ 32 ∧ ∀ s, s < ni → lv s = 1 → ∃ q k, q < ns ∧ st s = nI q ∧ k < no ∧ ox q = nI k ∧ oy q = nI k
theorem lx_nl {post : Int32 → Prop} {ns no ng ni nb nr : Nat} {xphase xopenOut xopenGroup : Int32} {xregionSize xcounter xmemory xstmtOp xstmtA xstmtB xstmtOwner xoutRegion xoutLoaded xoutGroup xoutAlign xoutVma xoutLma xoutDot xgroupStart xgroupEnd xgroupResident xinKind xinId xinAlign xinSize xinFirstByte xinStmt xinLive xinVma xfedBytes xrelocOwner xrelocOffset xrelocType xrelocTarget xrelocAddend : Nat → Int32} {oy : Nat → Int32} (h16 : ni ≤ 16) (hl : lk_hl ni no ns xinStmt xinLive xstmtOwner oy) (h1 : lk_ex (lk_nl xinKind xinStmt xinLive xoutLoaded xstmtOwner) ni 0 = true → post 1) (h0 : lk_ex (lk_nl xinKind xinStmt xinLive xoutLoaded xstmtOwner) ni 0 = false → post 0) : wpX_hasBytesInNoload post (xphase, (nI ns), xopenOut, xopenGroup, (nI no), (nI ng), (nI ni), (nI nb), (nI nr), xregionSize, xcounter, xmemory, xstmtOp, xstmtA, xstmtB, xstmtOwner, xoutRegion, xoutLoaded, xoutGroup, xoutAlign, xoutVma, xoutLma, xoutDot, xgroupStart, xgroupEnd, xgroupResident, xinKind, xinId, xinAlign, xinSize, xinFirstByte, xinStmt, xinLive, xinVma, xfedBytes, xrelocOwner, xrelocOffset, xrelocType, xrelocTarget, xrelocAddend) := by
  obtain ⟨l1, l2, l3⟩ := hl
  have H : ∀ d s, s + d = ni → (lk_ex (lk_nl xinKind xinStmt xinLive xoutLoaded xstmtOwner) d s = true → post 1) → (lk_ex (lk_nl xinKind xinStmt xinLive xoutLoaded xstmtOwner) d s = false → post 0) → wX_hasBytesInNoload_2 post xphase (nI ns) xopenOut xopenGroup (nI no) (nI ng) (nI ni) (nI nb) (nI nr) xregionSize xcounter xmemory xstmtOp xstmtA xstmtB xstmtOwner xoutRegion xoutLoaded xoutGroup xoutAlign xoutVma xoutLma xoutDot xgroupStart xgroupEnd xgroupResident xinKind xinId xinAlign xinSize xinFirstByte xinStmt xinLive xinVma xfedBytes xrelocOwner xrelocOffset xrelocType xrelocTarget xrelocAddend (d + 1) (nI s) := by
    intro d
    induction d with
    | zero => intro s hs _ h0; exact br_t (nI_le (by omega) (by omega)) (h0 rfl)
    | succ d ih =>
      intro s hs h1 h0
      have e : (nI s).toNatClampNeg = s := nI_clamp (by omega)
      have v1 : vp_in (nI s) 16 := vp_in_nI (by omega) (by omega)
      have hn : ¬ lk_nl xinKind xinStmt xinLive xoutLoaded xstmtOwner s = true → wX_hasBytesInNoload_2 post xphase (nI ns) xopenOut xopenGroup (nI no) (nI ng) (nI ni) (nI nb) (nI nr) xregionSize xcounter xmemory xstmtOp xstmtA xstmtB xstmtOwner xoutRegion xoutLoaded xoutGroup xoutAlign xoutVma xoutLma xoutDot xgroupStart xgroupEnd xgroupResident xinKind xinId xinAlign xinSize xinFirstByte xinStmt xinLive xinVma xfedBytes xrelocOwner xrelocOffset xrelocType xrelocTarget xrelocAddend (d + 1) (nI (s + 1)) := by
        intro z
        rw [lk_ex_f z] at h1 h0
        exact ih (s + 1) (by omega) h1 h0
      refine br_f (nI_ge (by omega) (by omega)) ⟨v1, ?_⟩
      by_cases a : xinKind (nI s).toNatClampNeg = 3
      · refine br_t a (nm_r (nI_1 s) (hn (fun y => (of_decide_eq_true y).2.1 ?_)))
        rw [e] at a
        exact a
      · refine br_f a ⟨v1, ?_⟩
        by_cases b : xinLive (nI s).toNatClampNeg = 1
        · obtain ⟨q, k, hq, eq, hk, ek, _⟩ := l3 s (by omega) (by rw [e] at b; exact b)
          have v2 : vp_in (xinStmt (nI s).toNatClampNeg) 32 := by rw [e, eq]; exact vp_in_nI (by omega) (by omega)
          have v3 : vp_in (xstmtOwner (xinStmt (nI s).toNatClampNeg).toNatClampNeg) 8 := by rw [e, eq, nI_clamp (by omega), ek]; exact vp_in_nI (by omega) (by omega)
          refine br_t b ⟨v1, v2, v3, ?_⟩
          by_cases c : xoutLoaded (xstmtOwner (xinStmt (nI s).toNatClampNeg).toNatClampNeg).toNatClampNeg = 0
          · refine br_t c (h1 (lk_ex_t (decide_eq_true ?_)))
            rw [e] at a b c
            exact ⟨b, a, c⟩
          · refine br_f c (nm_r (nI_1 s) (hn (fun y => ?_)))
            rw [e] at c
            exact c (of_decide_eq_true y).2.2
        · refine br_f b (nm_r (nI_1 s) (hn (fun y => b ?_)))
          rw [e]
          exact (of_decide_eq_true y).1
  exact ⟨_, H ni 0 (by omega) h1 h0⟩
end
end
section

section
theorem lx_al {post : Int32 → Prop} {x m : Nat} (hA : lk_A m) (hx : x < 2 ^ 30) (h : post (nI (lk_al x m))) : wpX_alignUp post () (nI x) (nI m) := by
  unfold wpX_alignUp
  rw [lk_alX hA hx]
  exact h
def lk_gp (ow st lv : Nat → Int32) (k : Int32) (s : Nat) : Bool := decide (lv s = 1 ∧ ow (st s).toNatClampNeg = k)
theorem lx_ga {post : Int32 → Prop} {ns no ng ni nb nr : Nat} {xphase xopenOut xopenGroup : Int32} {xregionSize xcounter xmemory xstmtOp xstmtA xstmtB xstmtOwner xoutRegion xoutLoaded xoutGroup xoutAlign xoutVma xoutLma xoutDot xgroupStart xgroupEnd xgroupResident xinKind xinId xinAlign xinSize xinFirstByte xinStmt xinLive xinVma xfedBytes xrelocOwner xrelocOffset xrelocType xrelocTarget xrelocAddend : Nat → Int32} {oy : Nat → Int32} {k : Nat} (h16 : ni ≤ 16) (hl : lk_hl ni no ns xinStmt xinLive xstmtOwner oy) (h : post (lk_ga (lk_gp xstmtOwner xinStmt xinLive (nI k)) xinAlign ni)) : wpX_greatestAlign post (xphase, (nI ns), xopenOut, xopenGroup, (nI no), (nI ng), (nI ni), (nI nb), (nI nr), xregionSize, xcounter, xmemory, xstmtOp, xstmtA, xstmtB, xstmtOwner, xoutRegion, xoutLoaded, xoutGroup, xoutAlign, xoutVma, xoutLma, xoutDot, xgroupStart, xgroupEnd, xgroupResident, xinKind, xinId, xinAlign, xinSize, xinFirstByte, xinStmt, xinLive, xinVma, xfedBytes, xrelocOwner, xrelocOffset, xrelocType, xrelocTarget, xrelocAddend) (nI k) := by
  obtain ⟨l1, l2, l3⟩ := hl
  have H : ∀ d s, s + d = ni → wX_greatestAlign_4 post (nI k) xphase (nI ns) xopenOut xopenGroup (nI no) (nI ng) (nI ni) (nI nb) (nI nr) xregionSize xcounter xmemory xstmtOp xstmtA xstmtB xstmtOwner xoutRegion xoutLoaded xoutGroup xoutAlign xoutVma xoutLma xoutDot xgroupStart xgroupEnd xgroupResident xinKind xinId xinAlign xinSize xinFirstByte xinStmt xinLive xinVma xfedBytes xrelocOwner xrelocOffset xrelocType xrelocTarget xrelocAddend (d + 1) (lk_ga (lk_gp xstmtOwner xinStmt xinLive (nI k)) xinAlign s) (nI s) := by
    intro d
    induction d with
    | zero =>
      intro s hs
      have e1 : s = ni := hs
      subst e1
      exact br_t (nI_le (by omega) (by omega)) h
    | succ d ih =>
      intro s hs
      have e : (nI s).toNatClampNeg = s := nI_clamp (by omega)
      have v1 : vp_in (nI s) 16 := vp_in_nI (by omega) (by omega)
      have hi := ih (s + 1) (by omega)
      rw [lk_ga_s] at hi
      refine br_f (nI_ge (by omega) (by omega)) ⟨v1, ?_⟩
      by_cases a : xinLive (nI s).toNatClampNeg = 1
      · obtain ⟨q, k2, hq, eq, hk, ek, _⟩ := l3 s (by omega) (by rw [e] at a; exact a)
        have v2 : vp_in (xinStmt (nI s).toNatClampNeg) 32 := by rw [e, eq]; exact vp_in_nI (by omega) (by omega)
        refine br_t a ⟨v1, v2, ?_⟩
        by_cases b : xstmtOwner (xinStmt (nI s).toNatClampNeg).toNatClampNeg = nI k
        · refine br_t b ⟨v1, ?_⟩
          by_cases c : xinAlign (nI s).toNatClampNeg ≤ lk_ga (lk_gp xstmtOwner xinStmt xinLive (nI k)) xinAlign s
          · refine br_t c (nm_r (nI_1 s) ?_)
            rw [e] at c
            rw [if_neg (fun y => Int32.not_lt.mpr c y.2)] at hi
            exact hi
          · refine br_f c ⟨v1, nm_r ?_ (nm_r (nI_1 s) hi)⟩
            rw [e] at a b c ⊢
            exact (if_pos ⟨decide_eq_true ⟨a, b⟩, Int32.not_le.mp c⟩).symm
        · refine br_f b (nm_r (nI_1 s) ?_)
          rw [e] at b
          rw [if_neg (fun y => b (of_decide_eq_true y.1).2)] at hi
          exact hi
      · refine br_f a (nm_r (nI_1 s) ?_)
        rw [e] at a
        rw [if_neg (fun y => a (of_decide_eq_true y.1).1)] at hi
        exact hi
  exact ⟨_, H ni 0 (by omega)⟩
theorem lk_ga_cg {p q : Nat → Bool} {al : Nat → Int32} : ∀ n, (∀ s, s < n → p s = q s) → lk_ga p al n = lk_ga q al n := by
  intro n
  induction n with
  | zero => intro _; rfl
  | succ n ih =>
    intro h
    rw [lk_ga_s, lk_ga_s, ih (fun s hs => h s (by omega)), h n (Nat.lt_succ_self n)]
theorem lk_gp_cg {ni no ns k : Nat} {st lv ox oy : Nat → Int32} (hl : lk_hl ni no ns st lv ox oy) : ∀ s, s < ni → lk_gp oy st lv (nI k) s = lk_gp ox st lv (nI k) s := by
  intro s hs
  unfold lk_gp
  by_cases a : lv s = 1
  · obtain ⟨q, k2, hq, eq, hk, ek, ek2⟩ := hl.2.2 s hs a
    have := hl.2.1
    rw [eq, nI_clamp (show q < 2 ^ 31 by omega), ek, ek2]
  · rw [decide_eq_false (fun y => a y.1), decide_eq_false (fun y => a y.1)]
theorem lk_S_g {op sa sb ox oy rg ld gp : Nat → Int32} {ns : Nat} (h : ∀ i, i < ns → lk_sc op sa sb ox oy rg ld gp i) : ∀ i, i ≤ ns → lk_is op i = true → gp (lk_no op i - 1) = if lk_ig op i = true then nI (lk_ng op i - 1) else -1 := by
  intro i
  induction i with
  | zero => intro _ z; exact Bool.noConfusion z
  | succ i ih =>
    intro hi his
    have sc := h i (by omega)
    unfold lk_sc at sc
    have keep : ∀ c : Int32, op i = c → ¬ c = 1 → ¬ c = 2 → ¬ c = 8 → ¬ c = 9 → gp (lk_no op (i + 1) - 1) = if lk_ig op (i + 1) = true then nI (lk_ng op (i + 1) - 1) else -1 := by
      intro c ec n1 n2 n8 n9
      rw [lk_is_s, ec, if_neg n1, if_neg n2] at his
      rw [lk_no_s, lk_ig_s, lk_ng_s, ec, if_neg n1, if_neg n8, if_neg n9, if_neg n8]
      exact ih (by omega) his
    rcases sc with ⟨e, _, _, _, _, _, _, e3⟩ | ⟨e | e | e, _⟩ | ⟨e | e | e, _⟩ | ⟨e, h2, _⟩ | ⟨e, h2, _⟩
    · rw [lk_no_s, lk_ig_s, lk_ng_s, e, if_pos rfl, if_neg (show ¬ (1 : Int32) = 8 by decide), if_neg (show ¬ (1 : Int32) = 9 by decide), if_neg (show ¬ (1 : Int32) = 8 by decide), Nat.add_sub_cancel, Nat.add_zero]
      exact e3
    · rw [lk_is_s, e, if_neg (by decide), if_pos rfl] at his
      exact Bool.noConfusion his
    · exact keep 3 e (by decide) (by decide) (by decide) (by decide)
    · exact keep 4 e (by decide) (by decide) (by decide) (by decide)
    · exact keep 5 e (by decide) (by decide) (by decide) (by decide)
    · exact keep 6 e (by decide) (by decide) (by decide) (by decide)
    · exact keep 7 e (by decide) (by decide) (by decide) (by decide)
    · rw [lk_is_s, e, if_neg (by decide), if_neg (by decide), h2] at his
      exact Bool.noConfusion his
    · rw [lk_is_s, e, if_neg (by decide), if_neg (by decide), h2] at his
      exact Bool.noConfusion his
theorem lx_41 {post : St2 → Prop} {ns no ng ni nb nr : Nat} {xphase xopenOut xopenGroup : Int32} {xregionSize xcounter xmemory xstmtOp xstmtA xstmtB xstmtOwner xoutRegion xoutLoaded xoutGroup xoutAlign xoutVma xoutLma xoutDot xgroupStart xgroupEnd xgroupResident xinKind xinId xinAlign xinSize xinFirstByte xinStmt xinLive xinVma xfedBytes xrelocOwner xrelocOffset xrelocType xrelocTarget xrelocAddend : Nat → Int32} {n m b c v l : Nat} {z r : Int32} (hn : n < 8) (hz : z = nI b) (hr : r = nI m) (hA : lk_A m) (hb : b < 2 ^ 30) (h0 : xcounter 0 = nI c) (hc : c < 2 ^ 30) (hv : v = lk_al b m) (hl : l = if xoutRegion n = 1 ∧ xoutLoaded n = 1 then lk_al c m else v) (h : post (xphase, (nI ns), xopenOut, xopenGroup, (nI no), (nI ng), (nI ni), (nI nb), (nI nr), xregionSize, xcounter, xmemory, xstmtOp, xstmtA, xstmtB, xstmtOwner, xoutRegion, xoutLoaded, xoutGroup, (upd xoutAlign n (nI m)), (upd xoutVma n (nI v)), (upd xoutLma n (nI l)), (upd xoutDot n (nI v)), xgroupStart, xgroupEnd, xgroupResident, xinKind, xinId, xinAlign, xinSize, xinFirstByte, xinStmt, xinLive, xinVma, xfedBytes, xrelocOwner, xrelocOffset, xrelocType, xrelocTarget, xrelocAddend)) : wX_startPlacing_41 post (nI n) r z xphase (nI ns) xopenOut xopenGroup (nI no) (nI ng) (nI ni) (nI nb) (nI nr) xregionSize xcounter xmemory xstmtOp xstmtA xstmtB xstmtOwner xoutRegion xoutLoaded xoutGroup xoutAlign xoutVma xoutLma xoutDot xgroupStart xgroupEnd xgroupResident xinKind xinId xinAlign xinSize xinFirstByte xinStmt xinLive xinVma xfedBytes xrelocOwner xrelocOffset xrelocType xrelocTarget xrelocAddend := by
  have e : (nI n).toNatClampNeg = n := nI_clamp (by omega)
  have v8 : vp_in (nI n) 8 := vp_in_nI hn (by omega)
  subst hz
  subst hr
  subst hv
  refine lx_al hA hb ⟨v8, ?_⟩
  by_cases a : xoutRegion (nI n).toNatClampNeg = 1
  · refine br_t a ⟨v8, ?_⟩
    by_cases b : xoutLoaded (nI n).toNatClampNeg = 1
    · refine br_t b ⟨v8, nm_r (e' := upd xoutAlign n (nI m)) (by rw [e]) ⟨v8, nm_r (e' := upd xoutVma n (nI _)) (by rw [e]) (br_f (by decide) ?_)⟩⟩
      rw [e] at a b
      rw [if_pos ⟨a, b⟩] at hl
      subst hl
      rw [h0]
      exact lx_al hA hc ⟨v8, nm_r (by rw [e]) ⟨v8, nm_r (by rw [e]) h⟩⟩
    · refine br_f b ⟨v8, nm_r (e' := upd xoutAlign n (nI m)) (by rw [e]) ⟨v8, nm_r (e' := upd xoutVma n (nI _)) (by rw [e]) (br_t rfl ?_)⟩⟩
      rw [e] at b
      rw [if_neg (fun y => b y.2)] at hl
      subst hl
      exact ⟨v8, nm_r (by rw [e]) ⟨v8, nm_r (by rw [e]) h⟩⟩
  · refine br_f a ⟨v8, nm_r (e' := upd xoutAlign n (nI m)) (by rw [e]) ⟨v8, nm_r (e' := upd xoutVma n (nI _)) (by rw [e]) (br_t rfl ?_)⟩⟩
    rw [e] at a
    rw [if_neg (fun y => a y.1)] at hl
    subst hl
    exact ⟨v8, nm_r (by rw [e]) ⟨v8, nm_r (by rw [e]) h⟩⟩
theorem lx_59 {post : St2 → Prop} {ns no ng ni nb nr : Nat} {xphase xopenOut xopenGroup : Int32} {xregionSize xcounter xmemory xstmtOp xstmtA xstmtB xstmtOwner xoutRegion xoutLoaded xoutGroup xoutAlign xoutVma xoutLma xoutDot xgroupStart xgroupEnd xgroupResident xinKind xinId xinAlign xinSize xinFirstByte xinStmt xinLive xinVma xfedBytes xrelocOwner xrelocOffset xrelocType xrelocTarget xrelocAddend : Nat → Int32} {c l d v : Nat} (hc : c < 8) (el : xoutLma c = nI l) (ed : xoutDot c = nI d) (ev : xoutVma c = nI v) (hvd : v ≤ d) (h1 : xoutLoaded c = 1 → post (xphase, (nI ns), xopenOut, xopenGroup, (nI no), (nI ng), (nI ni), (nI nb), (nI nr), xregionSize, (upd xcounter 0 (nI (l + (d - v)))), xmemory, xstmtOp, xstmtA, xstmtB, xstmtOwner, xoutRegion, xoutLoaded, xoutGroup, xoutAlign, xoutVma, xoutLma, xoutDot, xgroupStart, xgroupEnd, xgroupResident, xinKind, xinId, xinAlign, xinSize, xinFirstByte, xinStmt, xinLive, xinVma, xfedBytes, xrelocOwner, xrelocOffset, xrelocType, xrelocTarget, xrelocAddend)) (h0 : ¬ xoutLoaded c = 1 → post (xphase, (nI ns), xopenOut, xopenGroup, (nI no), (nI ng), (nI ni), (nI nb), (nI nr), xregionSize, xcounter, xmemory, xstmtOp, xstmtA, xstmtB, xstmtOwner, xoutRegion, xoutLoaded, xoutGroup, xoutAlign, xoutVma, xoutLma, xoutDot, xgroupStart, xgroupEnd, xgroupResident, xinKind, xinId, xinAlign, xinSize, xinFirstByte, xinStmt, xinLive, xinVma, xfedBytes, xrelocOwner, xrelocOffset, xrelocType, xrelocTarget, xrelocAddend)) : wX_endPlacing_59 post (nI c) xphase (nI ns) xopenOut xopenGroup (nI no) (nI ng) (nI ni) (nI nb) (nI nr) xregionSize xcounter xmemory xstmtOp xstmtA xstmtB xstmtOwner xoutRegion xoutLoaded xoutGroup xoutAlign xoutVma xoutLma xoutDot xgroupStart xgroupEnd xgroupResident xinKind xinId xinAlign xinSize xinFirstByte xinStmt xinLive xinVma xfedBytes xrelocOwner xrelocOffset xrelocType xrelocTarget xrelocAddend := by
  have e : (nI c).toNatClampNeg = c := nI_clamp (by omega)
  have v8 : vp_in (nI c) 8 := vp_in_nI hc (by omega)
  refine ⟨v8, ?_⟩
  by_cases a : xoutLoaded (nI c).toNatClampNeg = 1
  · refine br_t a ⟨v8, v8, v8, nm_r ?_ (h1 (by rw [e] at a; exact a))⟩
    rw [e, el, ed, ev, pk_sub hvd, nI_add]
  · exact br_f a (h0 (by rw [e] at a; exact a))
theorem lx_al2 {post : Int32 → Prop} {x m : Nat} {z w : Int32} (hz : z = nI x) (hw : w = nI m) (hA : lk_A m) (hx : x < 2 ^ 30) (h : post (nI (lk_al x m))) : wpX_alignUp post () z w := by
  subst hz
  subst hw
  exact lx_al hA hx h
theorem lx_mv {post : Int32 → Prop} {ns no ng ni nb nr : Nat} {xphase xopenOut xopenGroup : Int32} {xregionSize xcounter xmemory xstmtOp xstmtA xstmtB xstmtOwner xoutRegion xoutLoaded xoutGroup xoutAlign xoutVma xoutLma xoutDot xgroupStart xgroupEnd xgroupResident xinKind xinId xinAlign xinSize xinFirstByte xinStmt xinLive xinVma xfedBytes xrelocOwner xrelocOffset xrelocType xrelocTarget xrelocAddend : Nat → Int32} {i d x y : Nat} (hi : i < 32) (ea : xstmtA i = nI x) (hd : d < 2 ^ 30) (ho : (xstmtOp i = 5 ∧ d ≤ x ∧ y = x) ∨ (xstmtOp i = 6 ∧ y = d + x) ∨ (xstmtOp i = 7 ∧ lk_A x ∧ y = lk_al d x)) (h : post (nI y)) : wpX_movedDot post (xphase, (nI ns), xopenOut, xopenGroup, (nI no), (nI ng), (nI ni), (nI nb), (nI nr), xregionSize, xcounter, xmemory, xstmtOp, xstmtA, xstmtB, xstmtOwner, xoutRegion, xoutLoaded, xoutGroup, xoutAlign, xoutVma, xoutLma, xoutDot, xgroupStart, xgroupEnd, xgroupResident, xinKind, xinId, xinAlign, xinSize, xinFirstByte, xinStmt, xinLive, xinVma, xfedBytes, xrelocOwner, xrelocOffset, xrelocType, xrelocTarget, xrelocAddend) (nI i) (nI d) := by
  have e : (nI i).toNatClampNeg = i := nI_clamp (by omega)
  have vi : vp_in (nI i) 32 := vp_in_nI hi (by omega)
  rcases ho with ⟨o, _, ey⟩ | ⟨o, ey⟩ | ⟨o, hx, ey⟩
  · refine ⟨vi, nm_r (e' := 5) (by rw [e, o]) (br_t rfl ⟨vi, ?_⟩)⟩
    rw [e, ea, ← ey]
    exact h
  · refine ⟨vi, nm_r (e' := 6) (by rw [e, o]) (br_f (by decide) (br_t rfl ⟨vi, ?_⟩))⟩
    rw [e, ea, nI_add, ← ey]
    exact h
  · refine ⟨vi, nm_r (e' := 7) (by rw [e, o]) (br_f (by decide) (br_f (by decide) ⟨vi, lx_al2 rfl (by rw [e, ea]) hx hd ?_⟩))⟩
    rw [← ey]
    exact h
theorem lx_md1 {post : Int32 → St2 → Prop} {ns no ng ni nb nr : Nat} {xphase xopenOut xopenGroup : Int32} {xregionSize xcounter xmemory xstmtOp xstmtA xstmtB xstmtOwner xoutRegion xoutLoaded xoutGroup xoutAlign xoutVma xoutLma xoutDot xgroupStart xgroupEnd xgroupResident xinKind xinId xinAlign xinSize xinFirstByte xinStmt xinLive xinVma xfedBytes xrelocOwner xrelocOffset xrelocType xrelocTarget xrelocAddend : Nat → Int32} {i c d x y : Nat} (hi : i < 32) (eox : xstmtOwner i = nI c) (hc : c < 8) (ed : xoutDot c = nI d) (ea : xstmtA i = nI x) (hx : x ≤ 1023) (hd : d < 2 ^ 30) (ho : (xstmtOp i = 5 ∧ d ≤ x ∧ y = x) ∨ (xstmtOp i = 6 ∧ y = d + x) ∨ (xstmtOp i = 7 ∧ lk_A x ∧ y = lk_al d x)) (h : post 1 (xphase, (nI ns), xopenOut, xopenGroup, (nI no), (nI ng), (nI ni), (nI nb), (nI nr), xregionSize, xcounter, xmemory, xstmtOp, xstmtA, xstmtB, xstmtOwner, xoutRegion, xoutLoaded, xoutGroup, xoutAlign, xoutVma, xoutLma, (upd xoutDot c (nI y)), xgroupStart, xgroupEnd, xgroupResident, xinKind, xinId, xinAlign, xinSize, xinFirstByte, xinStmt, xinLive, xinVma, xfedBytes, xrelocOwner, xrelocOffset, xrelocType, xrelocTarget, xrelocAddend)) : wX_place_125 post (nI i) xphase (nI ns) xopenOut xopenGroup (nI no) (nI ng) (nI ni) (nI nb) (nI nr) xregionSize xcounter xmemory xstmtOp xstmtA xstmtB xstmtOwner xoutRegion xoutLoaded xoutGroup xoutAlign xoutVma xoutLma xoutDot xgroupStart xgroupEnd xgroupResident xinKind xinId xinAlign xinSize xinFirstByte xinStmt xinLive xinVma xfedBytes xrelocOwner xrelocOffset xrelocType xrelocTarget xrelocAddend := by
  have e : (nI i).toNatClampNeg = i := nI_clamp (by omega)
  have vi : vp_in (nI i) 32 := vp_in_nI hi (by omega)
  have ec : (nI c).toNatClampNeg = c := nI_clamp (by omega)
  have vc : vp_in (nI c) 8 := vp_in_nI hc (by omega)
  have ed' : xoutDot (nI c).toNatClampNeg = nI d := by rw [ec, ed]
  have nc : ¬ nI c = -1 := lk_nn1 (by omega)
  refine ⟨vi, nm_r (e' := nI c) (by rw [e, eox]) (br_f nc ⟨vc, vi, ?_⟩)⟩
  rw [ed']
  by_cases o5 : xstmtOp (nI i).toNatClampNeg = 5
  · refine br_t o5 ⟨vi, br_t ?_ (lx_mv hi ea hd ho (br_f nc ⟨vc, nm_r (by rw [ec]) ⟨rfl, h⟩⟩))⟩
    rw [e] at o5 ⊢
    rw [ea, nI_leI (by omega) (by omega)]
    rcases ho with ⟨_, z, _⟩ | ⟨z, _⟩ | ⟨z, _⟩
    · exact z
    · rw [o5] at z; exact absurd z (by decide)
    · rw [o5] at z; exact absurd z (by decide)
  · exact br_f o5 (lx_mv hi ea hd ho (br_f nc ⟨vc, nm_r (by rw [ec]) ⟨rfl, h⟩⟩))
theorem lx_md0 {post : Int32 → St2 → Prop} {ns no ng ni nb nr : Nat} {xphase xopenOut xopenGroup : Int32} {xregionSize xcounter xmemory xstmtOp xstmtA xstmtB xstmtOwner xoutRegion xoutLoaded xoutGroup xoutAlign xoutVma xoutLma xoutDot xgroupStart xgroupEnd xgroupResident xinKind xinId xinAlign xinSize xinFirstByte xinStmt xinLive xinVma xfedBytes xrelocOwner xrelocOffset xrelocType xrelocTarget xrelocAddend : Nat → Int32} {i r d x y : Nat} (hi : i < 32) (eox : xstmtOwner i = -1) (hr : r < 2) (eb : xstmtB i = nI r) (ed : xcounter r = nI d) (ea : xstmtA i = nI x) (hx : x ≤ 1023) (hd : d < 2 ^ 30) (ho : (xstmtOp i = 5 ∧ d ≤ x ∧ y = x) ∨ (xstmtOp i = 6 ∧ y = d + x) ∨ (xstmtOp i = 7 ∧ lk_A x ∧ y = lk_al d x)) (h : post 1 (xphase, (nI ns), xopenOut, xopenGroup, (nI no), (nI ng), (nI ni), (nI nb), (nI nr), xregionSize, (upd xcounter r (nI y)), xmemory, xstmtOp, xstmtA, xstmtB, xstmtOwner, xoutRegion, xoutLoaded, xoutGroup, xoutAlign, xoutVma, xoutLma, xoutDot, xgroupStart, xgroupEnd, xgroupResident, xinKind, xinId, xinAlign, xinSize, xinFirstByte, xinStmt, xinLive, xinVma, xfedBytes, xrelocOwner, xrelocOffset, xrelocType, xrelocTarget, xrelocAddend)) : wX_place_125 post (nI i) xphase (nI ns) xopenOut xopenGroup (nI no) (nI ng) (nI ni) (nI nb) (nI nr) xregionSize xcounter xmemory xstmtOp xstmtA xstmtB xstmtOwner xoutRegion xoutLoaded xoutGroup xoutAlign xoutVma xoutLma xoutDot xgroupStart xgroupEnd xgroupResident xinKind xinId xinAlign xinSize xinFirstByte xinStmt xinLive xinVma xfedBytes xrelocOwner xrelocOffset xrelocType xrelocTarget xrelocAddend := by
  have e : (nI i).toNatClampNeg = i := nI_clamp (by omega)
  have vi : vp_in (nI i) 32 := vp_in_nI hi (by omega)
  have er : (nI r).toNatClampNeg = r := nI_clamp (by omega)
  have vr : vp_in (xstmtB (nI i).toNatClampNeg) 2 := by rw [e, eb]; exact vp_in_nI hr (by omega)
  have ed' : xcounter (xstmtB (nI i).toNatClampNeg).toNatClampNeg = nI d := by rw [e, eb, er, ed]
  refine ⟨vi, nm_r (e' := -1) (by rw [e, eox]) (br_t rfl ⟨vi, vr, vi, ?_⟩)⟩
  rw [ed']
  by_cases o5 : xstmtOp (nI i).toNatClampNeg = 5
  · refine br_t o5 ⟨vi, br_t ?_ (lx_mv hi ea hd ho (br_t rfl ⟨vi, vr, nm_r (by rw [e, eb, er]) ⟨rfl, h⟩⟩))⟩
    rw [e] at o5 ⊢
    rw [ea, nI_leI (by omega) (by omega)]
    rcases ho with ⟨_, z, _⟩ | ⟨z, _⟩ | ⟨z, _⟩
    · exact z
    · rw [o5] at z; exact absurd z (by decide)
    · rw [o5] at z; exact absurd z (by decide)
  · exact br_f o5 (lx_mv hi ea hd ho (br_t rfl ⟨vi, vr, nm_r (by rw [e, eb, er]) ⟨rfl, h⟩⟩))
theorem lx_b1 {post : Int32 → St2 → Prop} {ns no ng ni nb nr : Nat} {xphase xopenOut xopenGroup : Int32} {xregionSize xcounter xmemory xstmtOp xstmtA xstmtB xstmtOwner xoutRegion xoutLoaded xoutGroup xoutAlign xoutVma xoutLma xoutDot xgroupStart xgroupEnd xgroupResident xinKind xinId xinAlign xinSize xinFirstByte xinStmt xinLive xinVma xfedBytes xrelocOwner xrelocOffset xrelocType xrelocTarget xrelocAddend : Nat → Int32} {i c d x : Nat} (hi : i < 32) (eox : xstmtOwner i = nI c) (hc : c < 8) (ed : xoutDot c = nI d) (ea : xstmtA i = nI x) (hx : x < d) (hd : d < 2 ^ 30) (o : xstmtOp i = 5) (h : post 0 (xphase, (nI ns), xopenOut, xopenGroup, (nI no), (nI ng), (nI ni), (nI nb), (nI nr), xregionSize, xcounter, xmemory, xstmtOp, xstmtA, xstmtB, xstmtOwner, xoutRegion, xoutLoaded, xoutGroup, xoutAlign, xoutVma, xoutLma, xoutDot, xgroupStart, xgroupEnd, xgroupResident, xinKind, xinId, xinAlign, xinSize, xinFirstByte, xinStmt, xinLive, xinVma, xfedBytes, xrelocOwner, xrelocOffset, xrelocType, xrelocTarget, xrelocAddend)) : wX_place_125 post (nI i) xphase (nI ns) xopenOut xopenGroup (nI no) (nI ng) (nI ni) (nI nb) (nI nr) xregionSize xcounter xmemory xstmtOp xstmtA xstmtB xstmtOwner xoutRegion xoutLoaded xoutGroup xoutAlign xoutVma xoutLma xoutDot xgroupStart xgroupEnd xgroupResident xinKind xinId xinAlign xinSize xinFirstByte xinStmt xinLive xinVma xfedBytes xrelocOwner xrelocOffset xrelocType xrelocTarget xrelocAddend := by
  have e : (nI i).toNatClampNeg = i := nI_clamp (by omega)
  have vi : vp_in (nI i) 32 := vp_in_nI hi (by omega)
  have ec : (nI c).toNatClampNeg = c := nI_clamp (by omega)
  have vc : vp_in (nI c) 8 := vp_in_nI hc (by omega)
  refine ⟨vi, nm_r (e' := nI c) (by rw [e, eox]) (br_f (lk_nn1 (by omega)) ⟨vc, vi, br_t (by rw [e, o]) ⟨vi, br_f ?_ ⟨rfl, h⟩⟩⟩)⟩
  rw [ec, ed, e, ea]
  exact nI_ge hx (by omega)
theorem lx_b0 {post : Int32 → St2 → Prop} {ns no ng ni nb nr : Nat} {xphase xopenOut xopenGroup : Int32} {xregionSize xcounter xmemory xstmtOp xstmtA xstmtB xstmtOwner xoutRegion xoutLoaded xoutGroup xoutAlign xoutVma xoutLma xoutDot xgroupStart xgroupEnd xgroupResident xinKind xinId xinAlign xinSize xinFirstByte xinStmt xinLive xinVma xfedBytes xrelocOwner xrelocOffset xrelocType xrelocTarget xrelocAddend : Nat → Int32} {i r d x : Nat} (hi : i < 32) (eox : xstmtOwner i = -1) (hr : r < 2) (eb : xstmtB i = nI r) (ed : xcounter r = nI d) (ea : xstmtA i = nI x) (hx : x < d) (hd : d < 2 ^ 30) (o : xstmtOp i = 5) (h : post 0 (xphase, (nI ns), xopenOut, xopenGroup, (nI no), (nI ng), (nI ni), (nI nb), (nI nr), xregionSize, xcounter, xmemory, xstmtOp, xstmtA, xstmtB, xstmtOwner, xoutRegion, xoutLoaded, xoutGroup, xoutAlign, xoutVma, xoutLma, xoutDot, xgroupStart, xgroupEnd, xgroupResident, xinKind, xinId, xinAlign, xinSize, xinFirstByte, xinStmt, xinLive, xinVma, xfedBytes, xrelocOwner, xrelocOffset, xrelocType, xrelocTarget, xrelocAddend)) : wX_place_125 post (nI i) xphase (nI ns) xopenOut xopenGroup (nI no) (nI ng) (nI ni) (nI nb) (nI nr) xregionSize xcounter xmemory xstmtOp xstmtA xstmtB xstmtOwner xoutRegion xoutLoaded xoutGroup xoutAlign xoutVma xoutLma xoutDot xgroupStart xgroupEnd xgroupResident xinKind xinId xinAlign xinSize xinFirstByte xinStmt xinLive xinVma xfedBytes xrelocOwner xrelocOffset xrelocType xrelocTarget xrelocAddend := by
  have e : (nI i).toNatClampNeg = i := nI_clamp (by omega)
  have vi : vp_in (nI i) 32 := vp_in_nI hi (by omega)
  have er : (nI r).toNatClampNeg = r := nI_clamp (by omega)
  have vr : vp_in (xstmtB (nI i).toNatClampNeg) 2 := by rw [e, eb]; exact vp_in_nI hr (by omega)
  refine ⟨vi, nm_r (e' := -1) (by rw [e, eox]) (br_t rfl ⟨vi, vr, vi, br_t (by rw [e, o]) ⟨vi, br_f ?_ ⟨rfl, h⟩⟩⟩)⟩
  rw [e, eb, er, ed, ea]
  exact nI_ge hx (by omega)
end
end
section

section
theorem lk_w_sec {ns no ng ni nb nr : Nat} {xphase xopenOut xopenGroup : Int32} {xregionSize xcounter xmemory xstmtOp xstmtA xstmtB xstmtOwner xoutRegion xoutLoaded xoutGroup xoutAlign xoutVma xoutLma xoutDot xgroupStart xgroupEnd xgroupResident xinKind xinId xinAlign xinSize xinFirstByte xinStmt xinLive xinVma xfedBytes xrelocOwner xrelocOffset xrelocType xrelocTarget xrelocAddend ystOut youtSize ygStart ygEnd yinBss yinLen yinVma yinLma : Nat → Int32} {i C0 C1 : Nat} {V L D G0 GE IV : Nat → Nat} {c0 c1 g0 yge grp kk dot vma lma ing : Int32} (hS : ∀ i, i < ns → lk_sc xstmtOp xstmtA xstmtB xstmtOwner ystOut xoutRegion xoutLoaded xoutGroup i) (hno : no = lk_no xstmtOp ns) (hng : ng = lk_ng xstmtOp ns) (h8 : no ≤ 8) (h4 : ng ≤ 4) (hN : lk_N ni nb xinKind xinAlign xinSize xinFirstByte yinBss yinLen) (hA : lk_hA ni ns xstmtOp xinStmt xinLive) (hl : lk_hl ni no ns xinStmt xinLive xstmtOwner ystOut) (hi : i < ns) (hW : lk_WI ni xstmtOp xoutRegion xoutLoaded xinStmt xinLive (fun s => (xstmtOwner (xinStmt s).toNatClampNeg).toNatClampNeg) (fun s => (xinSize s).toNatClampNeg) i C0 C1 V L D G0 GE IV xcounter xoutVma xoutLma xoutDot xgroupStart xgroupEnd xinVma youtSize ygStart ygEnd yinVma yinLma c0 c1 g0 yge grp kk dot vma lma ing) (hU : lk_U xstmtOp xoutRegion xoutGroup i C1 V D G0 GE) (ho : xstmtOp i = 1) : ∃ (C0' C1' : Nat) (V' L' D' G0' GE' IV' : Nat → Nat) (ct oa vm lm dt gs ge xv os yg0 yg1 yv yl : Nat → Int32) (d0 d1 d2 d3 d4 d5 d6 d7 d8 d9 : Int32), lk_WI ni xstmtOp xoutRegion xoutLoaded xinStmt xinLive (fun s => (xstmtOwner (xinStmt s).toNatClampNeg).toNatClampNeg) (fun s => (xinSize s).toNatClampNeg) (i + 1) C0' C1' V' L' D' G0' GE' IV' ct vm lm dt gs ge xv os yg0 yg1 yv yl d0 d1 d2 d3 d4 d5 d6 d7 d8 d9 ∧ lk_U xstmtOp xoutRegion xoutGroup (i + 1) C1' V' D' G0' GE' ∧ (∀ post : Int32 → St2 → Prop, post 1 (xphase, (nI ns), xopenOut, xopenGroup, (nI no), (nI ng), (nI ni), (nI nb), (nI nr), xregionSize, ct, xmemory, xstmtOp, xstmtA, xstmtB, xstmtOwner, xoutRegion, xoutLoaded, xoutGroup, oa, vm, lm, dt, gs, ge, xgroupResident, xinKind, xinId, xinAlign, xinSize, xinFirstByte, xinStmt, xinLive, xv, xfedBytes, xrelocOwner, xrelocOffset, xrelocType, xrelocTarget, xrelocAddend) → wpX_place post (xphase, (nI ns), xopenOut, xopenGroup, (nI no), (nI ng), (nI ni), (nI nb), (nI nr), xregionSize, xcounter, xmemory, xstmtOp, xstmtA, xstmtB, xstmtOwner, xoutRegion, xoutLoaded, xoutGroup, xoutAlign, xoutVma, xoutLma, xoutDot, xgroupStart, xgroupEnd, xgroupResident, xinKind, xinId, xinAlign, xinSize, xinFirstByte, xinStmt, xinLive, xinVma, xfedBytes, xrelocOwner, xrelocOffset, xrelocType, xrelocTarget, xrelocAddend) (nI i)) := by
  have n32 := hA.1
  have e : (nI i).toNatClampNeg = i := nI_clamp (by omega)
  have vi : vp_in (nI i) 32 := vp_in_nI (by omega) (by omega)
  have sc : xstmtOp i = 1 ∧ lk_is xstmtOp i = false ∧ ((xstmtA i = 0 ∧ xstmtB i = 1 ∧ lk_ig xstmtOp i = false) ∨ (xstmtA i = 1 ∧ (xstmtB i = 0 ∨ xstmtB i = 1))) ∧ xstmtOwner i = nI (lk_no xstmtOp i) ∧ ystOut i = nI (lk_no xstmtOp i) ∧ xoutRegion (lk_no xstmtOp i) = xstmtA i ∧ xoutLoaded (lk_no xstmtOp i) = xstmtB i ∧ xoutGroup (lk_no xstmtOp i) = (if lk_ig xstmtOp i = true then nI (lk_ng xstmtOp i - 1) else -1) := by
    rcases hS i hi with h | ⟨h | h | h, _⟩ | ⟨h | h | h, _⟩ | ⟨h, _⟩ | ⟨h, _⟩
    · exact h
    all_goals rw [ho] at h; exact absurd h (by decide)
  obtain ⟨_, his, hab, eox, eoy, erg, eld, egp⟩ := sc
  have hlt := lk_no_lt ho hi
  rw [← hno] at hlt
  obtain ⟨m, hm, em⟩ := lk_ga_A (p := lk_gp xstmtOwner xinStmt xinLive (nI (lk_no xstmtOp i))) (al := xinAlign) ni (fun s hs => by obtain ⟨A, _, _, _, a1, a2, _⟩ := hN.2.2 s hs; exact ⟨A, a1, a2⟩)
  have emy : lk_ga (lk_gp ystOut xinStmt xinLive (nI (lk_no xstmtOp i))) xinAlign ni = nI m := by rw [lk_ga_cg ni (lk_gp_cg hl), em]
  have hW2 := hW
  unfold lk_WI at hW2
  obtain ⟨⟨⟨g1, g2, g3, _, _⟩, _, _, _, _, g6, _⟩, ⟨w1, w2, w3, w4⟩, _, _, w5, _, _, ⟨w6, _, w7⟩, _⟩ := hW2
  have nglt := lk_ng_m (op := xstmtOp) (i := i) (ns - i)
  rw [show i + (ns - i) = ns by omega, ← hng] at nglt
  have hmb := lk_A_b hm
  have hU4 : lk_ig xstmtOp i = true → C1 = G0 (lk_ng xstmtOp i - 1) := fun z => by
    have h9 := hU
    unfold lk_U at h9
    exact (h9.2.2.2.1 z).2.symm
  -- the base
  have base : ∃ b, 0 ≤ b ∧ b ≤ 2000 + 4700 * i ∧ (xstmtA i = 1 → 256 ≤ b ∧ C1 ≤ b) ∧ (xstmtA i = 0 → b = C0) ∧
      ((lk_ig xstmtOp i = false ∧ xoutGroup (lk_no xstmtOp i) = -1 ∧ ing = 0 ∧ xcounter (xstmtA i).toNatClampNeg = nI b ∧ ((xstmtA i = 0 ∧ c0 = nI b) ∨ (¬ xstmtA i = 0 ∧ c1 = nI b))) ∨
       (xstmtA i = 1 ∧ ∃ g, g < 4 ∧ xoutGroup (lk_no xstmtOp i) = nI g ∧ ¬ ing = 0 ∧ xgroupStart g = nI b ∧ g0 = nI b)) := by
    rcases Bool.eq_false_or_eq_true (lk_ig xstmtOp i) with hig | hig
    · have ha : xstmtA i = 1 := by
        rcases hab with ⟨_, _, z⟩ | ⟨z, _⟩
        · rw [hig] at z; exact Bool.noConfusion z
        · exact z
      obtain ⟨p1, p2, _⟩ := w7 hig
      obtain ⟨q1, q2, q3, _⟩ := g6 (lk_ng xstmtOp i - 1) (by omega)
      refine ⟨G0 (lk_ng xstmtOp i - 1), Nat.zero_le _, by omega, fun _ => ⟨q1, Nat.le_of_eq (hU4 hig)⟩, fun z => ?_, Or.inr ⟨ha, lk_ng xstmtOp i - 1, by omega, ?_, ?_, (w5 _ (by omega)).1, p2⟩⟩
      · rw [ha] at z; exact absurd z (by decide)
      · rw [egp, if_pos hig]
      · rw [w6, if_pos hig]; decide
    · rcases hab with ⟨ha, _, _⟩ | ⟨ha, _⟩
      · refine ⟨C0, Nat.zero_le _, g1, fun z => ?_, fun _ => rfl, Or.inl ⟨hig, ?_, ?_, ?_, Or.inl ⟨ha, w3⟩⟩⟩
        · rw [ha] at z; exact absurd z (by decide)
        · rw [egp, hig, if_neg (by decide)]
        · rw [w6, hig, if_neg (by decide)]
        · rw [ha]; exact w1
      · refine ⟨C1, Nat.zero_le _, g2, fun _ => ⟨g3, Nat.le_refl _⟩, fun z => ?_, Or.inl ⟨hig, ?_, ?_, ?_, Or.inr ⟨?_, w4⟩⟩⟩
        · rw [ha] at z; exact absurd z (by decide)
        · rw [egp, hig, if_neg (by decide)]
        · rw [w6, hig, if_neg (by decide)]
        · rw [ha]; exact w2
        · rw [ha]; decide
  obtain ⟨b, _, hb, hb256, hb0, hbase⟩ := base
  have hv := lk_al_b (x := b) hm
  have hc := lk_al_b (x := C0) hm
  obtain ⟨l, el⟩ : ∃ l, l = if xstmtA i = 1 ∧ xstmtB i = 1 then lk_al C0 m else lk_al b m := ⟨_, rfl⟩
  have hl1 : l ≤ 2000 + 4700 * i + 15 := by
    rw [el]; split <;> omega
  have hl2 : xoutRegion (lk_no xstmtOp i) = 0 → l = lk_al b m := by
    intro z
    rw [erg] at z
    rw [el, if_neg]
    intro y
    rw [z] at y
    exact absurd y.1 (by decide)
  have hl3 : xoutLoaded (lk_no xstmtOp i) = 1 → C0 ≤ l := by
    intro z
    rw [eld] at z
    rcases hab with ⟨ha, _, _⟩ | ⟨ha, _⟩
    · rw [el, if_neg (by rw [ha]; intro y; exact absurd y.1 (by decide)), hb0 ha]
      exact hc.1
    · rw [el, if_pos ⟨ha, z⟩]
      exact hc.1
  have WI' := lk_V_sec (v := lk_al b m) (l := l) hW hA hi ho his (by omega) hl1 (fun z => by have := (hb256 (erg ▸ z)).1; omega) hl2 hl3
  refine ⟨_, _, _, _, _, _, _, _, _, upd xoutAlign (lk_no xstmtOp i) (nI m), _, _, _, _, _, _, _, _, _, _, _, _, _, _, _, _, _, _, _, _, _, WI', lk_U_sec hU ho his (by omega) egp (lk_S_oi hS i (by omega)) (fun z => by have := (hb256 (erg ▸ z)).2; omega), fun post hp => ?_⟩
  · have en : (nI (lk_no xstmtOp i)).toNatClampNeg = lk_no xstmtOp i := nI_clamp (by omega)
    have vn : vp_in (nI (lk_no xstmtOp i)) 8 := vp_in_nI (by omega) (by omega)
    have el' : l = if xoutRegion (lk_no xstmtOp i) = 1 ∧ xoutLoaded (lk_no xstmtOp i) = 1 then lk_al C0 m else lk_al b m := by rw [erg, eld]; exact el
    refine ⟨vi, nm_r (e' := nI (lk_no xstmtOp i)) (by rw [e, eox]) ⟨vi, nm_r (e' := 1) (by rw [e, ho]) ?_⟩⟩
    refine br_f (by decide) (br_f (by decide) (br_t rfl ?_))
    refine lx_ga hN.1 hl ⟨vn, ?_⟩
    rcases hbase with ⟨hig, z1, z2, z3, _⟩ | ⟨ha, g, hg, z1, z2, z3, _⟩
    · refine br_t (by rw [en]; exact z1) ⟨vn, ?_, lx_41 (by omega) (by rw [en, erg]; exact z3) em hm (by omega) w1 (by omega) rfl el' hp⟩
      rw [en, erg]
      rcases hab with ⟨ha, _, _⟩ | ⟨ha, _⟩
      · rw [ha]; exact vp_in_iff.mpr (by decide)
      · rw [ha]; exact vp_in_iff.mpr (by decide)
    · refine br_f (by rw [en, z1]; exact lk_nn1 (by omega)) ⟨vn, ?_, lx_41 (by omega) (by rw [en, z1, nI_clamp (by omega)]; exact z3) em hm (by omega) w1 (by omega) rfl el' hp⟩
      rw [en, z1]
      exact vp_in_nI hg (by omega)
end
end
section

section
theorem lk_w_end {ns no ng ni nb nr : Nat} {xphase xopenOut xopenGroup : Int32} {xregionSize xcounter xmemory xstmtOp xstmtA xstmtB xstmtOwner xoutRegion xoutLoaded xoutGroup xoutAlign xoutVma xoutLma xoutDot xgroupStart xgroupEnd xgroupResident xinKind xinId xinAlign xinSize xinFirstByte xinStmt xinLive xinVma xfedBytes xrelocOwner xrelocOffset xrelocType xrelocTarget xrelocAddend ystOut youtSize ygStart ygEnd yinBss yinLen yinVma yinLma : Nat → Int32} {i C0 C1 : Nat} {V L D G0 GE IV : Nat → Nat} {c0 c1 g0 yge grp kk dot vma lma ing : Int32} (hS : ∀ i, i < ns → lk_sc xstmtOp xstmtA xstmtB xstmtOwner ystOut xoutRegion xoutLoaded xoutGroup i) (hno : no = lk_no xstmtOp ns) (hng : ng = lk_ng xstmtOp ns) (h8 : no ≤ 8) (h4 : ng ≤ 4) (hN : lk_N ni nb xinKind xinAlign xinSize xinFirstByte yinBss yinLen) (hA : lk_hA ni ns xstmtOp xinStmt xinLive) (hl : lk_hl ni no ns xinStmt xinLive xstmtOwner ystOut) (hi : i < ns) (hW : lk_WI ni xstmtOp xoutRegion xoutLoaded xinStmt xinLive (fun s => (xstmtOwner (xinStmt s).toNatClampNeg).toNatClampNeg) (fun s => (xinSize s).toNatClampNeg) i C0 C1 V L D G0 GE IV xcounter xoutVma xoutLma xoutDot xgroupStart xgroupEnd xinVma youtSize ygStart ygEnd yinVma yinLma c0 c1 g0 yge grp kk dot vma lma ing) (hU : lk_U xstmtOp xoutRegion xoutGroup i C1 V D G0 GE) (ho : xstmtOp i = 2) : ∃ (C0' C1' : Nat) (V' L' D' G0' GE' IV' : Nat → Nat) (ct oa vm lm dt gs ge xv os yg0 yg1 yv yl : Nat → Int32) (d0 d1 d2 d3 d4 d5 d6 d7 d8 d9 : Int32), lk_WI ni xstmtOp xoutRegion xoutLoaded xinStmt xinLive (fun s => (xstmtOwner (xinStmt s).toNatClampNeg).toNatClampNeg) (fun s => (xinSize s).toNatClampNeg) (i + 1) C0' C1' V' L' D' G0' GE' IV' ct vm lm dt gs ge xv os yg0 yg1 yv yl d0 d1 d2 d3 d4 d5 d6 d7 d8 d9 ∧ lk_U xstmtOp xoutRegion xoutGroup (i + 1) C1' V' D' G0' GE' ∧ (∀ post : Int32 → St2 → Prop, post 1 (xphase, (nI ns), xopenOut, xopenGroup, (nI no), (nI ng), (nI ni), (nI nb), (nI nr), xregionSize, ct, xmemory, xstmtOp, xstmtA, xstmtB, xstmtOwner, xoutRegion, xoutLoaded, xoutGroup, oa, vm, lm, dt, gs, ge, xgroupResident, xinKind, xinId, xinAlign, xinSize, xinFirstByte, xinStmt, xinLive, xv, xfedBytes, xrelocOwner, xrelocOffset, xrelocType, xrelocTarget, xrelocAddend) → wpX_place post (xphase, (nI ns), xopenOut, xopenGroup, (nI no), (nI ng), (nI ni), (nI nb), (nI nr), xregionSize, xcounter, xmemory, xstmtOp, xstmtA, xstmtB, xstmtOwner, xoutRegion, xoutLoaded, xoutGroup, xoutAlign, xoutVma, xoutLma, xoutDot, xgroupStart, xgroupEnd, xgroupResident, xinKind, xinId, xinAlign, xinSize, xinFirstByte, xinStmt, xinLive, xinVma, xfedBytes, xrelocOwner, xrelocOffset, xrelocType, xrelocTarget, xrelocAddend) (nI i)) := by
  have n32 := hA.1
  have e : (nI i).toNatClampNeg = i := nI_clamp (by omega)
  have vi : vp_in (nI i) 32 := vp_in_nI (by omega) (by omega)
  have sc : lk_is xstmtOp i = true ∧ xstmtOwner i = nI (lk_no xstmtOp i - 1) := by
    rcases hS i hi with ⟨h, _⟩ | ⟨_, h1, h2, _⟩ | ⟨h | h | h, _⟩ | ⟨h, _⟩ | ⟨h, _⟩
    · rw [ho] at h; exact absurd h (by decide)
    · exact ⟨h1, h2⟩
    all_goals rw [ho] at h; exact absurd h (by decide)
  obtain ⟨his, eox⟩ := sc
  have hgp := lk_S_g hS i (by omega) his
  have nm := lk_no_m (op := xstmtOp) (i := i) (ns - i)
  rw [show i + (ns - i) = ns by omega, ← hno] at nm
  have nglt := lk_ng_m (op := xstmtOp) (i := i) (ns - i)
  rw [show i + (ns - i) = ns by omega, ← hng] at nglt
  have hnt := lk_nc_t his
  have hof := lk_S_o hS ns (Nat.le_refl ns) (lk_nc xstmtOp i) (by omega)
  rw [show lk_no xstmtOp i - 1 = lk_nc xstmtOp i by omega] at eox hgp
  have hW2 := hW
  unfold lk_WI at hW2
  obtain ⟨⟨⟨g1, g2, g3, _, _⟩, g4, _, _, g5, g6, _⟩, ⟨w1, w2, w3, w4⟩, w8, _, w5, _, _, ⟨w6, _, w7⟩, w9, _⟩ := hW2
  obtain ⟨b1, b2, b3, b4, b5⟩ := g4 (lk_nc xstmtOp i) (by omega)
  have b6 := g5 (by omega)
  obtain ⟨ev, el, ed⟩ := w8 (lk_nc xstmtOp i) (by omega)
  obtain ⟨k1, k2, k3, k4⟩ := w9 (by omega)
  have V' := fun {C0' C1' : Nat} {GE' : Nat → Nat} {ct' ge' : Nat → Int32} {c0' c1' yge' : Int32} => lk_V_end (C0' := C0') (C1' := C1') (GE' := GE') (ct' := ct') (ge' := ge') (c0' := c0') (c1' := c1') (yge' := yge') hW hA hi ho his
  have hU2 := hU
  unfold lk_U at hU2
  rw [hnt] at hU2
  have U' := fun {C1' : Nat} {GE' : Nat → Nat} => lk_U_end (C1' := C1') (GE' := GE') (V := V) (D := D) (G0 := G0) (rg := xoutRegion) (gp := xoutGroup) ho his
  generalize lk_nc xstmtOp i = c at *
  have hc8 : c < 8 := by omega
  have ec : (nI c).toNatClampNeg = c := nI_clamp (by omega)
  have vc : vp_in (nI c) 8 := vp_in_nI hc8 (by omega)
  have esz : dot - vma = nI (D c - V c) := by rw [k2, k3, pk_sub b1]
  have evs : vma + nI (D c - V c) = nI (V c + (D c - V c)) := by rw [k3, nI_add]
  have evd : V c + (D c - V c) = D c := by omega
  have hge : ∀ g, g < lk_ng xstmtOp i → xgroupEnd g = nI (GE g) := fun g hg => (w5 g hg).2
  have xpre : ∀ (post : Int32 → St2 → Prop), wpX_endPlacing (fun u => post 1 u) (xphase, (nI ns), xopenOut, xopenGroup, (nI no), (nI ng), (nI ni), (nI nb), (nI nr), xregionSize, xcounter, xmemory, xstmtOp, xstmtA, xstmtB, xstmtOwner, xoutRegion, xoutLoaded, xoutGroup, xoutAlign, xoutVma, xoutLma, xoutDot, xgroupStart, xgroupEnd, xgroupResident, xinKind, xinId, xinAlign, xinSize, xinFirstByte, xinStmt, xinLive, xinVma, xfedBytes, xrelocOwner, xrelocOffset, xrelocType, xrelocTarget, xrelocAddend) (nI c) → wpX_place post (xphase, (nI ns), xopenOut, xopenGroup, (nI no), (nI ng), (nI ni), (nI nb), (nI nr), xregionSize, xcounter, xmemory, xstmtOp, xstmtA, xstmtB, xstmtOwner, xoutRegion, xoutLoaded, xoutGroup, xoutAlign, xoutVma, xoutLma, xoutDot, xgroupStart, xgroupEnd, xgroupResident, xinKind, xinId, xinAlign, xinSize, xinFirstByte, xinStmt, xinLive, xinVma, xfedBytes, xrelocOwner, xrelocOffset, xrelocType, xrelocTarget, xrelocAddend) (nI i) := by
    intro post h
    exact ⟨vi, nm_r (e' := nI c) (by rw [e, eox]) ⟨vi, nm_r (e' := 2) (by rw [e, ho]) (br_f (by decide) (br_f (by decide) (br_f (by decide) (br_t rfl h))))⟩⟩
  rcases hof with ⟨r1, r2, r3⟩ | ⟨r1, r2, r3⟩
  · have W1 := V' (C0' := L c + (D c - V c)) (C1' := C1) (GE' := GE) (ct' := upd (upd xcounter 0 (nI (D c))) 0 (nI (L c + (D c - V c)))) (ge' := xgroupEnd) (c0' := nI (V c + (D c - V c))) (c1' := c1) (yge' := yge) (by omega) (by have := b6 r2; omega) (fun _ => Nat.le_refl _) g2 g3 (fun g _ => Or.inl rfl) ⟨pk_us, by rw [pk_un (by decide), pk_un (by decide)]; exact w2, by rw [b5 r1], w4⟩ hge (fun g _ _ => rfl) (fun z => (w7 z).2.2)
    refine ⟨_, _, _, _, _, _, _, _, _, xoutAlign, _, _, _, _, _, _, _, _, _, _, _, _, _, _, _, _, _, _, _, _, _, W1, U' (lk_G2_e0 hU2 r1), fun post hp => xpre post ?_⟩
    · exact ⟨vc, nm_r (e' := -1) (by rw [ec, r3]) (br_t rfl ⟨vc, vc, by rw [ec, r1]; exact vp_in_iff.mpr (by decide), nm_r (e' := upd xcounter 0 (nI (D c))) (by rw [ec, r1, ed]; rfl) (lx_59 hc8 el ed ev b1 (fun _ => hp) (fun z => absurd r2 z))⟩)⟩
  · have nr0 : ¬ xoutRegion c = 0 := by rw [r1]; decide
    rcases Bool.eq_false_or_eq_true (lk_ig xstmtOp i) with hig | hig
    · obtain ⟨gs, hgs⟩ : ∃ g, lk_ng xstmtOp i = g + 1 := ⟨lk_ng xstmtOp i - 1, by have := (w7 hig).1; omega⟩
      obtain ⟨_, p2, p3⟩ := w7 hig
      rw [hig, if_pos rfl] at hgp w6
      rw [hgs, Nat.add_sub_cancel] at hgp p2 p3
      have ni0 : ¬ ing = 0 := by rw [w6]; decide
      have hgs4 : gs < 4 := by omega
      have vg : vp_in (nI gs) 4 := vp_in_nI hgs4 (by omega)
      have eg : (nI gs).toNatClampNeg = gs := nI_clamp (by omega)
      have egE := hge gs (by omega)
      obtain ⟨q1, q2, q3, _⟩ := g6 gs (by omega)
      by_cases c2 : D c ≤ GE gs
      · have xc : xoutDot (nI c).toNatClampNeg ≤ xgroupEnd (nI gs).toNatClampNeg := by rw [ec, eg, ed, egE, nI_leI (by omega) (by omega)]; exact c2
        have yc : vma + nI (D c - V c) ≤ yge := by rw [evs, p3, nI_leI (by omega) (by omega)]; omega
        by_cases c3 : xoutLoaded c = 1
        · have W1 := V' (C0' := L c + (D c - V c)) (C1' := C1) (GE' := GE) (ct' := upd xcounter 0 (nI (L c + (D c - V c)))) (ge' := xgroupEnd) (c0' := nI (L c + (D c - V c))) (c1' := c1) (yge' := yge) (by omega) (by have := b6 c3; omega) (fun _ => Nat.le_refl _) g2 g3 (fun g _ => Or.inl rfl) ⟨pk_us, by rw [pk_un (by decide)]; exact w2, rfl, w4⟩ hge (fun g _ _ => rfl) (fun z => (w7 z).2.2)
          refine ⟨_, _, _, _, _, _, _, _, _, xoutAlign, _, _, _, _, _, _, _, _, _, _, _, _, _, _, _, _, _, _, _, _, _, W1, U' (by rw [hgs, hig] at hU2 ⊢; exact lk_G2_e2 hU2 r1 hgp (by omega) (fun _ _ => rfl) (Nat.le_refl _) c2), fun post hp => xpre post ?_⟩
          · exact ⟨vc, nm_r (e' := nI gs) (by rw [ec, hgp]) (br_f (lk_nn1 (by omega)) ⟨vc, vg, br_t xc (lx_59 hc8 el ed ev b1 (fun _ => hp) (fun z => absurd c3 z))⟩)⟩
        · have W1 := V' (C0' := C0) (C1' := C1) (GE' := GE) (ct' := xcounter) (ge' := xgroupEnd) (c0' := c0) (c1' := c1) (yge' := yge) g1 (Nat.le_refl _) (fun z => absurd z c3) g2 g3 (fun g _ => Or.inl rfl) ⟨w1, w2, w3, w4⟩ hge (fun g _ _ => rfl) (fun z => (w7 z).2.2)
          refine ⟨_, _, _, _, _, _, _, _, _, xoutAlign, _, _, _, _, _, _, _, _, _, _, _, _, _, _, _, _, _, _, _, _, _, W1, U' (by rw [hgs, hig] at hU2 ⊢; exact lk_G2_e2 hU2 r1 hgp (by omega) (fun _ _ => rfl) (Nat.le_refl _) c2), fun post hp => xpre post ?_⟩
          · exact ⟨vc, nm_r (e' := nI gs) (by rw [ec, hgp]) (br_f (lk_nn1 (by omega)) ⟨vc, vg, br_t xc (lx_59 hc8 el ed ev b1 (fun z => absurd z c3) (fun _ => hp))⟩)⟩
      · have xc : ¬ xoutDot (nI c).toNatClampNeg ≤ xgroupEnd (nI gs).toNatClampNeg := by rw [ec, eg, ed, egE, nI_leI (by omega) (by omega)]; exact c2
        have yc : ¬ vma + nI (D c - V c) ≤ yge := by rw [evs, p3, nI_leI (by omega) (by omega)]; omega
        have G1 : ∀ g, g < lk_ng xstmtOp i → lk_up GE gs (D c) g = GE g ∨ (xoutRegion c = 1 ∧ lk_up GE gs (D c) g = D c ∧ GE g ≤ D c) := by
          intro g hg
          by_cases z : g = gs
          · subst z; exact Or.inr ⟨r1, lk_ups, by omega⟩
          · exact Or.inl (lk_upn z)
        have G2 : ∀ g, g < lk_ng xstmtOp i → upd xgroupEnd gs (nI (D c)) g = nI (lk_up GE gs (D c) g) := by
          intro g hg
          by_cases z : g = gs
          · subst z; rw [pk_us, lk_ups]
          · rw [pk_un z, lk_upn z]; exact hge g hg
        have G3 : ∀ g, g < lk_ng xstmtOp i → (lk_ig xstmtOp i = true → g + 1 < lk_ng xstmtOp i) → lk_up GE gs (D c) g = GE g := fun g _ hh => lk_upn (by have := hh hig; omega)
        have G4 : lk_ig xstmtOp i = true → nI (V c + (D c - V c)) = nI (lk_up GE gs (D c) (lk_ng xstmtOp i - 1)) := fun _ => by rw [hgs, Nat.add_sub_cancel, lk_ups, evd]
        by_cases c3 : xoutLoaded c = 1
        · have W1 := V' (C0' := L c + (D c - V c)) (C1' := C1) (GE' := lk_up GE gs (D c)) (ct' := upd xcounter 0 (nI (L c + (D c - V c)))) (ge' := upd xgroupEnd gs (nI (D c))) (c0' := nI (L c + (D c - V c))) (c1' := c1) (yge' := nI (V c + (D c - V c))) (by omega) (by have := b6 c3; omega) (fun _ => Nat.le_refl _) g2 g3 G1 ⟨pk_us, by rw [pk_un (by decide)]; exact w2, rfl, w4⟩ G2 G3 G4
          refine ⟨_, _, _, _, _, _, _, _, _, xoutAlign, _, _, _, _, _, _, _, _, _, _, _, _, _, _, _, _, _, _, _, _, _, W1, U' (by rw [hgs, hig] at hU2 ⊢; exact lk_G2_e2 hU2 r1 hgp (by omega) (fun g hg => lk_upn (by omega)) (by rw [lk_ups]; omega) (by rw [lk_ups]; exact Nat.le_refl _)), fun post hp => xpre post ?_⟩
          · exact ⟨vc, nm_r (e' := nI gs) (by rw [ec, hgp]) (br_f (lk_nn1 (by omega)) ⟨vc, vg, br_f xc ⟨vc, vg, nm_r (e' := upd xgroupEnd gs (nI (D c))) (by rw [ec, eg, ed]) (lx_59 hc8 el ed ev b1 (fun _ => hp) (fun z => absurd c3 z))⟩⟩)⟩
        · have W1 := V' (C0' := C0) (C1' := C1) (GE' := lk_up GE gs (D c)) (ct' := xcounter) (ge' := upd xgroupEnd gs (nI (D c))) (c0' := c0) (c1' := c1) (yge' := nI (V c + (D c - V c))) g1 (Nat.le_refl _) (fun z => absurd z c3) g2 g3 G1 ⟨w1, w2, w3, w4⟩ G2 G3 G4
          refine ⟨_, _, _, _, _, _, _, _, _, xoutAlign, _, _, _, _, _, _, _, _, _, _, _, _, _, _, _, _, _, _, _, _, _, W1, U' (by rw [hgs, hig] at hU2 ⊢; exact lk_G2_e2 hU2 r1 hgp (by omega) (fun g hg => lk_upn (by omega)) (by rw [lk_ups]; omega) (by rw [lk_ups]; exact Nat.le_refl _)), fun post hp => xpre post ?_⟩
          · exact ⟨vc, nm_r (e' := nI gs) (by rw [ec, hgp]) (br_f (lk_nn1 (by omega)) ⟨vc, vg, br_f xc ⟨vc, vg, nm_r (e' := upd xgroupEnd gs (nI (D c))) (by rw [ec, eg, ed]) (lx_59 hc8 el ed ev b1 (fun z => absurd z c3) (fun _ => hp))⟩⟩)⟩
    · rw [hig, if_neg (by decide)] at hgp w6
      by_cases c3 : xoutLoaded c = 1
      · have W1 := V' (C0' := L c + (D c - V c)) (C1' := D c) (GE' := GE) (ct' := upd (upd xcounter 1 (nI (D c))) 0 (nI (L c + (D c - V c)))) (ge' := xgroupEnd) (c0' := nI (L c + (D c - V c))) (c1' := nI (V c + (D c - V c))) (yge' := yge) (by omega) (by have := b6 c3; omega) (fun _ => Nat.le_refl _) b2 (by have := b4 r1; omega) (fun g _ => Or.inl rfl) ⟨pk_us, by rw [pk_un (by decide), pk_us], rfl, by rw [evd]⟩ hge (fun g _ _ => rfl) (fun z => (w7 z).2.2)
        refine ⟨_, _, _, _, _, _, _, _, _, xoutAlign, _, _, _, _, _, _, _, _, _, _, _, _, _, _, _, _, _, _, _, _, _, W1, U' (by rw [hig] at hU2 ⊢; exact lk_G2_e1 hU2 r1 hgp (by omega) b1), fun post hp => xpre post ?_⟩
        · exact ⟨vc, nm_r (e' := -1) (by rw [ec, hgp]) (br_t rfl ⟨vc, vc, by rw [ec, r1]; exact vp_in_iff.mpr (by decide), nm_r (e' := upd xcounter 1 (nI (D c))) (by rw [ec, r1, ed]; rfl) (lx_59 hc8 el ed ev b1 (fun _ => hp) (fun z => absurd c3 z))⟩)⟩
      · have W1 := V' (C0' := C0) (C1' := D c) (GE' := GE) (ct' := upd xcounter 1 (nI (D c))) (ge' := xgroupEnd) (c0' := c0) (c1' := nI (V c + (D c - V c))) (yge' := yge) g1 (Nat.le_refl _) (fun z => absurd z c3) b2 (by have := b4 r1; omega) (fun g _ => Or.inl rfl) ⟨by rw [pk_un (by decide)]; exact w1, pk_us, w3, by rw [evd]⟩ hge (fun g _ _ => rfl) (fun z => (w7 z).2.2)
        refine ⟨_, _, _, _, _, _, _, _, _, xoutAlign, _, _, _, _, _, _, _, _, _, _, _, _, _, _, _, _, _, _, _, _, _, W1, U' (by rw [hig] at hU2 ⊢; exact lk_G2_e1 hU2 r1 hgp (by omega) b1), fun post hp => xpre post ?_⟩
        · exact ⟨vc, nm_r (e' := -1) (by rw [ec, hgp]) (br_t rfl ⟨vc, vc, by rw [ec, r1]; exact vp_in_iff.mpr (by decide), nm_r (e' := upd xcounter 1 (nI (D c))) (by rw [ec, r1, ed]; rfl) (lx_59 hc8 el ed ev b1 (fun z => absurd z c3) (fun _ => hp))⟩)⟩
end
end
section

section
theorem lk_w_loop {ns no ng ni nb nr : Nat} {xphase xopenOut xopenGroup : Int32} {xregionSize xcounter xmemory xstmtOp xstmtA xstmtB xstmtOwner xoutRegion xoutLoaded xoutGroup xoutAlign xoutVma xoutLma xoutDot xgroupStart xgroupEnd xgroupResident xinKind xinId xinAlign xinSize xinFirstByte xinStmt xinLive xinVma xfedBytes xrelocOwner xrelocOffset xrelocType xrelocTarget xrelocAddend ystOut youtSize ygStart ygEnd yinBss yinLen yinVma yinLma : Nat → Int32} {i C0 C1 : Nat} {V L G0 GE : Nat → Nat} {c0 c1 g0 yge grp kk vma lma ing : Int32} (hN : lk_N ni nb xinKind xinAlign xinSize xinFirstByte yinBss yinLen) (hi : i < 32) (hc : lk_nc xstmtOp i < 8) (eox : xstmtOwner i = nI (lk_nc xstmtOp i)) : ∀ d t, t + d = ni → ∀ (D IV : Nat → Nat) (dt xv yv yl : Nat → Int32) (dot : Int32), lk_WP ni xstmtOp xoutRegion xoutLoaded xinStmt xinLive (fun s => (xstmtOwner (xinStmt s).toNatClampNeg).toNatClampNeg) (fun s => (xinSize s).toNatClampNeg) i t C0 C1 V L D G0 GE IV xcounter xoutVma xoutLma dt xgroupStart xgroupEnd xv youtSize ygStart ygEnd yv yl c0 c1 g0 yge grp kk dot vma lma ing →
    ∃ (D' IV' : Nat → Nat) (dt' xv' yv' yl' : Nat → Int32) (dot' : Int32), lk_WP ni xstmtOp xoutRegion xoutLoaded xinStmt xinLive (fun s => (xstmtOwner (xinStmt s).toNatClampNeg).toNatClampNeg) (fun s => (xinSize s).toNatClampNeg) i ni C0 C1 V L D' G0 GE IV' xcounter xoutVma xoutLma dt' xgroupStart xgroupEnd xv' youtSize ygStart ygEnd yv' yl' c0 c1 g0 yge grp kk dot' vma lma ing ∧ (∀ k, k ≠ lk_nc xstmtOp i → D' k = D k) ∧
      (∀ post : St2 → Prop, post (xphase, (nI ns), xopenOut, xopenGroup, (nI no), (nI ng), (nI ni), (nI nb), (nI nr), xregionSize, xcounter, xmemory, xstmtOp, xstmtA, xstmtB, xstmtOwner, xoutRegion, xoutLoaded, xoutGroup, xoutAlign, xoutVma, xoutLma, dt', xgroupStart, xgroupEnd, xgroupResident, xinKind, xinId, xinAlign, xinSize, xinFirstByte, xinStmt, xinLive, xv', xfedBytes, xrelocOwner, xrelocOffset, xrelocType, xrelocTarget, xrelocAddend) → wX_placeInputs_9 post (nI i) (nI (lk_nc xstmtOp i)) xphase (nI ns) xopenOut xopenGroup (nI no) (nI ng) (nI ni) (nI nb) (nI nr) (d + 1) (nI t) xregionSize xcounter xmemory xstmtOp xstmtA xstmtB xstmtOwner xoutRegion xoutLoaded xoutGroup xoutAlign xoutVma xoutLma dt xgroupStart xgroupEnd xgroupResident xinKind xinId xinAlign xinSize xinFirstByte xinStmt xinLive xv xfedBytes xrelocOwner xrelocOffset xrelocType xrelocTarget xrelocAddend) := by
  have h16 := hN.1
  have ei : (nI i).toNatClampNeg = i := nI_clamp (by omega)
  intro d
  induction d with
  | zero =>
    intro t ht D IV dt xv yv yl dot h
    have e1 : t = ni := ht
    subst e1
    exact ⟨D, IV, dt, xv, yv, yl, dot, h, fun _ _ => rfl, fun post hp => br_t (nI_le (by omega) (by omega)) hp⟩
  | succ d ih =>
    intro t ht D IV dt xv yv yl dot h
    have e : (nI t).toNatClampNeg = t := nI_clamp (by omega)
    have v : vp_in (nI t) 16 := vp_in_nI (by omega) (by omega)
    have n1 : ¬ nI ni ≤ nI t := nI_ge (by omega) (by omega)
    have n2 : ¬ (16 : Int32) ≤ nI t := nI_ge (b := 16) (by omega) (by omega)
    by_cases a : xinLive (nI t).toNatClampNeg = 1
    · by_cases b : xinStmt (nI t).toNatClampNeg = nI i
      · obtain ⟨A, T, Z, Q, d1, d2, d3, d4, d5, d6, d7⟩ := hN.2.2 t (by omega)
        have hb := hN.2.1
        have hQ : Q ≤ 256 := by rcases d7 with ⟨_, _, z, _⟩ | ⟨_, z⟩ <;> omega
        have h2 := h
        unfold lk_WP at h2
        obtain ⟨⟨_, g4, _⟩, _, w8, _, _, _, _, _, w9, _⟩ := h2
        have hD := (g4 (lk_nc xstmtOp i) (by omega)).2.1
        have edt := (w8 (lk_nc xstmtOp i) (by omega)).2.2
        have edot := (w9 (by omega)).2.1
        have hx := lk_al_b (x := D (lk_nc xstmtOp i)) d1
        have b' : xinStmt t = nI i := by rw [e] at b; exact b
        have esz : (xinSize t).toNatClampNeg = Q := by rw [d6, nI_clamp (by omega)]
        have h3 := lk_WP_s (x := lk_al (D (lk_nc xstmtOp i)) A) h (by omega) b' (show (xstmtOwner (xinStmt t).toNatClampNeg).toNatClampNeg = lk_nc xstmtOp i by rw [b', ei, eox, nI_clamp (by omega)]) hx.1 hx.2 (show (xinSize t).toNatClampNeg ≤ 256 by rw [esz]; exact hQ)
        rw [esz] at h3
        obtain ⟨D', IV', dt', xv', yv', yl', dot', k1, kD, k2⟩ := ih (t + 1) (by omega) _ _ _ _ _ _ _ h3
        have ec : (nI (lk_nc xstmtOp i)).toNatClampNeg = lk_nc xstmtOp i := nI_clamp (by omega)
        have vc : vp_in (nI (lk_nc xstmtOp i)) 8 := vp_in_nI hc (by omega)
        refine ⟨D', IV', dt', xv', yv', yl', dot', k1, fun k hk => (kD k hk).trans (lk_upn hk), fun post hp => ?_⟩
        · refine br_f n1 ⟨v, br_t a ⟨v, br_t b ⟨vc, v, lx_al2 (by rw [ec, edt]) (by rw [e, d2]) d1 (by omega) ⟨v, nm_r (e' := upd xv t (nI (lk_al (D (lk_nc xstmtOp i)) A))) (by rw [e]) ⟨v, v, vc, nm_r (e' := upd dt (lk_nc xstmtOp i) (nI (lk_al (D (lk_nc xstmtOp i)) A + Q))) ?_ (nm_r (nI_1 t) (k2 post hp))⟩⟩⟩⟩⟩
          rw [e, ec, pk_us, d6, nI_add]
      · have h3 := lk_WP_n h (fun z => b (by rw [e]; exact z.2))
        obtain ⟨D', IV', dt', xv', yv', yl', dot', k1, kD, k2⟩ := ih (t + 1) (by omega) _ _ _ _ _ _ _ h3
        exact ⟨D', IV', dt', xv', yv', yl', dot', k1, kD, fun post hp => br_f n1 ⟨v, br_t a ⟨v, br_f b (nm_r (nI_1 t) (k2 post hp))⟩⟩⟩
    · have h3 := lk_WP_n h (fun z => a (by rw [e]; exact z.1))
      obtain ⟨D', IV', dt', xv', yv', yl', dot', k1, kD, k2⟩ := ih (t + 1) (by omega) _ _ _ _ _ _ _ h3
      exact ⟨D', IV', dt', xv', yv', yl', dot', k1, kD, fun post hp => br_f n1 ⟨v, br_f a (nm_r (nI_1 t) (k2 post hp))⟩⟩
theorem lk_w_inp {ns no ng ni nb nr : Nat} {xphase xopenOut xopenGroup : Int32} {xregionSize xcounter xmemory xstmtOp xstmtA xstmtB xstmtOwner xoutRegion xoutLoaded xoutGroup xoutAlign xoutVma xoutLma xoutDot xgroupStart xgroupEnd xgroupResident xinKind xinId xinAlign xinSize xinFirstByte xinStmt xinLive xinVma xfedBytes xrelocOwner xrelocOffset xrelocType xrelocTarget xrelocAddend ystOut youtSize ygStart ygEnd yinBss yinLen yinVma yinLma : Nat → Int32} {i C0 C1 : Nat} {V L D G0 GE IV : Nat → Nat} {c0 c1 g0 yge grp kk dot vma lma ing : Int32} (hS : ∀ i, i < ns → lk_sc xstmtOp xstmtA xstmtB xstmtOwner ystOut xoutRegion xoutLoaded xoutGroup i) (hno : no = lk_no xstmtOp ns) (hng : ng = lk_ng xstmtOp ns) (h8 : no ≤ 8) (h4 : ng ≤ 4) (hN : lk_N ni nb xinKind xinAlign xinSize xinFirstByte yinBss yinLen) (hA : lk_hA ni ns xstmtOp xinStmt xinLive) (hl : lk_hl ni no ns xinStmt xinLive xstmtOwner ystOut) (hi : i < ns) (hW : lk_WI ni xstmtOp xoutRegion xoutLoaded xinStmt xinLive (fun s => (xstmtOwner (xinStmt s).toNatClampNeg).toNatClampNeg) (fun s => (xinSize s).toNatClampNeg) i C0 C1 V L D G0 GE IV xcounter xoutVma xoutLma xoutDot xgroupStart xgroupEnd xinVma youtSize ygStart ygEnd yinVma yinLma c0 c1 g0 yge grp kk dot vma lma ing) (hU : lk_U xstmtOp xoutRegion xoutGroup i C1 V D G0 GE) (ho : xstmtOp i = 3 ∨ xstmtOp i = 4) : ∃ (C0' C1' : Nat) (V' L' D' G0' GE' IV' : Nat → Nat) (ct oa vm lm dt gs ge xv os yg0 yg1 yv yl : Nat → Int32) (d0 d1 d2 d3 d4 d5 d6 d7 d8 d9 : Int32), lk_WI ni xstmtOp xoutRegion xoutLoaded xinStmt xinLive (fun s => (xstmtOwner (xinStmt s).toNatClampNeg).toNatClampNeg) (fun s => (xinSize s).toNatClampNeg) (i + 1) C0' C1' V' L' D' G0' GE' IV' ct vm lm dt gs ge xv os yg0 yg1 yv yl d0 d1 d2 d3 d4 d5 d6 d7 d8 d9 ∧ lk_U xstmtOp xoutRegion xoutGroup (i + 1) C1' V' D' G0' GE' ∧ (∀ post : Int32 → St2 → Prop, post 1 (xphase, (nI ns), xopenOut, xopenGroup, (nI no), (nI ng), (nI ni), (nI nb), (nI nr), xregionSize, ct, xmemory, xstmtOp, xstmtA, xstmtB, xstmtOwner, xoutRegion, xoutLoaded, xoutGroup, oa, vm, lm, dt, gs, ge, xgroupResident, xinKind, xinId, xinAlign, xinSize, xinFirstByte, xinStmt, xinLive, xv, xfedBytes, xrelocOwner, xrelocOffset, xrelocType, xrelocTarget, xrelocAddend) → wpX_place post (xphase, (nI ns), xopenOut, xopenGroup, (nI no), (nI ng), (nI ni), (nI nb), (nI nr), xregionSize, xcounter, xmemory, xstmtOp, xstmtA, xstmtB, xstmtOwner, xoutRegion, xoutLoaded, xoutGroup, xoutAlign, xoutVma, xoutLma, xoutDot, xgroupStart, xgroupEnd, xgroupResident, xinKind, xinId, xinAlign, xinSize, xinFirstByte, xinStmt, xinLive, xinVma, xfedBytes, xrelocOwner, xrelocOffset, xrelocType, xrelocTarget, xrelocAddend) (nI i)) := by
  have n32 := hA.1
  have e : (nI i).toNatClampNeg = i := nI_clamp (by omega)
  have vi : vp_in (nI i) 32 := vp_in_nI (by omega) (by omega)
  obtain ⟨his, _, nm, eox, _⟩ := lk_S_i hS hi ho
  have hnt := lk_nc_t his
  rw [← hno] at nm
  rw [show lk_no xstmtOp i - 1 = lk_nc xstmtOp i by omega] at eox
  obtain ⟨D', IV', dt', xv', yv', yl', dot', k1, kD, k2⟩ := lk_w_loop (nr := nr) (ns := ns) (no := no) (ng := ng) (xphase := xphase) (xopenOut := xopenOut) (xopenGroup := xopenGroup) (xregionSize := xregionSize) (xmemory := xmemory) (xstmtA := xstmtA) (xstmtB := xstmtB) (xoutGroup := xoutGroup) (xoutAlign := xoutAlign) (xoutDot := xoutDot) (xgroupResident := xgroupResident) (xinId := xinId) (xinVma := xinVma) (xfedBytes := xfedBytes) (xrelocOwner := xrelocOwner) (xrelocOffset := xrelocOffset) (xrelocType := xrelocType) (xrelocTarget := xrelocTarget) (xrelocAddend := xrelocAddend) (ystOut := ystOut) (yinVma := yinVma) (yinLma := yinLma) hN (by omega) (by omega) eox ni 0 (by omega) D IV xoutDot xinVma yinVma yinLma dot (lk_WP_0 hW his)
  have W1 := lk_WP_e k1 hN.1 ho his
  refine ⟨_, _, _, _, _, _, _, _, _, xoutAlign, _, _, _, _, _, _, _, _, _, _, _, _, _, _, _, _, _, _, _, _, _, W1, lk_U_D hU (ho.elim Or.inl (fun z => Or.inr (Or.inl z))) his kD, fun post hp => ?_⟩
  · have hx : wX_place_78 post (nI i) xphase (nI ns) xopenOut xopenGroup (nI no) (nI ng) (nI ni) (nI nb) (nI nr) xregionSize xcounter xmemory xstmtOp xstmtA xstmtB xstmtOwner xoutRegion xoutLoaded xoutGroup xoutAlign xoutVma xoutLma xoutDot xgroupStart xgroupEnd xgroupResident xinKind xinId xinAlign xinSize xinFirstByte xinStmt xinLive xinVma xfedBytes xrelocOwner xrelocOffset xrelocType xrelocTarget xrelocAddend := ⟨vi, nm_r (e' := nI (lk_nc xstmtOp i)) (by rw [e, eox]) ⟨_, k2 _ hp⟩⟩
    rcases ho with ho | ho
    · exact ⟨vi, nm_e ⟨vi, nm_r (e' := 3) (by rw [e, ho]) (br_f (by decide) (br_f (by decide) (br_f (by decide) (br_f (by decide) (br_t rfl hx)))))⟩⟩
    · exact ⟨vi, nm_e ⟨vi, nm_r (e' := 4) (by rw [e, ho]) (br_f (by decide) (br_f (by decide) (br_f (by decide) (br_f (by decide) (br_f (by decide) (br_t rfl hx))))))⟩⟩
end
end
section

section
theorem lk_w_ovl {ns no ng ni nb nr : Nat} {xphase xopenOut xopenGroup : Int32} {xregionSize xcounter xmemory xstmtOp xstmtA xstmtB xstmtOwner xoutRegion xoutLoaded xoutGroup xoutAlign xoutVma xoutLma xoutDot xgroupStart xgroupEnd xgroupResident xinKind xinId xinAlign xinSize xinFirstByte xinStmt xinLive xinVma xfedBytes xrelocOwner xrelocOffset xrelocType xrelocTarget xrelocAddend ystOut youtSize ygStart ygEnd yinBss yinLen yinVma yinLma : Nat → Int32} {i C0 C1 : Nat} {V L D G0 GE IV : Nat → Nat} {c0 c1 g0 yge grp kk dot vma lma ing : Int32} (hS : ∀ i, i < ns → lk_sc xstmtOp xstmtA xstmtB xstmtOwner ystOut xoutRegion xoutLoaded xoutGroup i) (hno : no = lk_no xstmtOp ns) (hng : ng = lk_ng xstmtOp ns) (h8 : no ≤ 8) (h4 : ng ≤ 4) (hN : lk_N ni nb xinKind xinAlign xinSize xinFirstByte yinBss yinLen) (hA : lk_hA ni ns xstmtOp xinStmt xinLive) (hl : lk_hl ni no ns xinStmt xinLive xstmtOwner ystOut) (hi : i < ns) (hW : lk_WI ni xstmtOp xoutRegion xoutLoaded xinStmt xinLive (fun s => (xstmtOwner (xinStmt s).toNatClampNeg).toNatClampNeg) (fun s => (xinSize s).toNatClampNeg) i C0 C1 V L D G0 GE IV xcounter xoutVma xoutLma xoutDot xgroupStart xgroupEnd xinVma youtSize ygStart ygEnd yinVma yinLma c0 c1 g0 yge grp kk dot vma lma ing) (hU : lk_U xstmtOp xoutRegion xoutGroup i C1 V D G0 GE) (ho : xstmtOp i = 8) : ∃ (C0' C1' : Nat) (V' L' D' G0' GE' IV' : Nat → Nat) (ct oa vm lm dt gs ge xv os yg0 yg1 yv yl : Nat → Int32) (d0 d1 d2 d3 d4 d5 d6 d7 d8 d9 : Int32), lk_WI ni xstmtOp xoutRegion xoutLoaded xinStmt xinLive (fun s => (xstmtOwner (xinStmt s).toNatClampNeg).toNatClampNeg) (fun s => (xinSize s).toNatClampNeg) (i + 1) C0' C1' V' L' D' G0' GE' IV' ct vm lm dt gs ge xv os yg0 yg1 yv yl d0 d1 d2 d3 d4 d5 d6 d7 d8 d9 ∧ lk_U xstmtOp xoutRegion xoutGroup (i + 1) C1' V' D' G0' GE' ∧ (∀ post : Int32 → St2 → Prop, post 1 (xphase, (nI ns), xopenOut, xopenGroup, (nI no), (nI ng), (nI ni), (nI nb), (nI nr), xregionSize, ct, xmemory, xstmtOp, xstmtA, xstmtB, xstmtOwner, xoutRegion, xoutLoaded, xoutGroup, oa, vm, lm, dt, gs, ge, xgroupResident, xinKind, xinId, xinAlign, xinSize, xinFirstByte, xinStmt, xinLive, xv, xfedBytes, xrelocOwner, xrelocOffset, xrelocType, xrelocTarget, xrelocAddend) → wpX_place post (xphase, (nI ns), xopenOut, xopenGroup, (nI no), (nI ng), (nI ni), (nI nb), (nI nr), xregionSize, xcounter, xmemory, xstmtOp, xstmtA, xstmtB, xstmtOwner, xoutRegion, xoutLoaded, xoutGroup, xoutAlign, xoutVma, xoutLma, xoutDot, xgroupStart, xgroupEnd, xgroupResident, xinKind, xinId, xinAlign, xinSize, xinFirstByte, xinStmt, xinLive, xinVma, xfedBytes, xrelocOwner, xrelocOffset, xrelocType, xrelocTarget, xrelocAddend) (nI i)) := by
  have n32 := hA.1
  have e : (nI i).toNatClampNeg = i := nI_clamp (by omega)
  have vi : vp_in (nI i) 32 := vp_in_nI (by omega) (by omega)
  have nglt := lk_ng_m (op := xstmtOp) (i := i + 1) (ns - (i + 1))
  rw [show i + 1 + (ns - (i + 1)) = ns by omega, ← hng] at nglt
  rw [lk_ng_s, ho, if_pos rfl] at nglt
  have sc : lk_is xstmtOp i = false ∧ lk_ig xstmtOp i = false ∧ xstmtOwner i = nI (lk_ng xstmtOp i) := by
    rcases hS i hi with ⟨h, _⟩ | ⟨h | h | h, _⟩ | ⟨h | h | h, _⟩ | ⟨_, h⟩ | ⟨h, _⟩
    case inr.inr.inr.inl => exact h
    all_goals rw [ho] at h; exact absurd h (by decide)
  obtain ⟨his, hig, eox⟩ := sc
  have hW2 := hW
  unfold lk_WI at hW2
  obtain ⟨_, ⟨w1, w2, w3, w4⟩, _, _, _, _, _, ⟨_, w6, _⟩, _⟩ := hW2
  have W1 := lk_V_ovl hW hA hi ho his hig
  have vg : vp_in (nI (lk_ng xstmtOp i)) 4 := vp_in_nI (by omega) (by omega)
  have eg : (nI (lk_ng xstmtOp i)).toNatClampNeg = lk_ng xstmtOp i := nI_clamp (by omega)
  refine ⟨_, _, _, _, _, _, _, _, _, xoutAlign, _, _, _, _, _, _, _, _, _, _, _, _, _, _, _, _, _, _, _, _, _, W1, lk_U_ovl hU ho his hig (by omega) (lk_S_oi hS i (by omega)), fun post hp => ?_⟩
  · exact ⟨vi, nm_r (e' := nI (lk_ng xstmtOp i)) (by rw [e, eox]) ⟨vi, nm_r (e' := 8) (by rw [e, ho]) (br_f (by decide) (br_f (by decide) (br_f (by decide) (br_f (by decide) (br_f (by decide) (br_f (by decide) (br_f (by decide) (br_f (by decide) (br_f (by decide) (br_t rfl ⟨vg, nm_r (by rw [eg, w2]) ⟨vg, nm_r (by rw [eg, w2]) hp⟩⟩))))))))))⟩⟩
theorem lk_w_ove {ns no ng ni nb nr : Nat} {xphase xopenOut xopenGroup : Int32} {xregionSize xcounter xmemory xstmtOp xstmtA xstmtB xstmtOwner xoutRegion xoutLoaded xoutGroup xoutAlign xoutVma xoutLma xoutDot xgroupStart xgroupEnd xgroupResident xinKind xinId xinAlign xinSize xinFirstByte xinStmt xinLive xinVma xfedBytes xrelocOwner xrelocOffset xrelocType xrelocTarget xrelocAddend ystOut youtSize ygStart ygEnd yinBss yinLen yinVma yinLma : Nat → Int32} {i C0 C1 : Nat} {V L D G0 GE IV : Nat → Nat} {c0 c1 g0 yge grp kk dot vma lma ing : Int32} (hS : ∀ i, i < ns → lk_sc xstmtOp xstmtA xstmtB xstmtOwner ystOut xoutRegion xoutLoaded xoutGroup i) (hno : no = lk_no xstmtOp ns) (hng : ng = lk_ng xstmtOp ns) (h8 : no ≤ 8) (h4 : ng ≤ 4) (hN : lk_N ni nb xinKind xinAlign xinSize xinFirstByte yinBss yinLen) (hA : lk_hA ni ns xstmtOp xinStmt xinLive) (hl : lk_hl ni no ns xinStmt xinLive xstmtOwner ystOut) (hi : i < ns) (hW : lk_WI ni xstmtOp xoutRegion xoutLoaded xinStmt xinLive (fun s => (xstmtOwner (xinStmt s).toNatClampNeg).toNatClampNeg) (fun s => (xinSize s).toNatClampNeg) i C0 C1 V L D G0 GE IV xcounter xoutVma xoutLma xoutDot xgroupStart xgroupEnd xinVma youtSize ygStart ygEnd yinVma yinLma c0 c1 g0 yge grp kk dot vma lma ing) (hU : lk_U xstmtOp xoutRegion xoutGroup i C1 V D G0 GE) (ho : xstmtOp i = 9) : ∃ (C0' C1' : Nat) (V' L' D' G0' GE' IV' : Nat → Nat) (ct oa vm lm dt gs ge xv os yg0 yg1 yv yl : Nat → Int32) (d0 d1 d2 d3 d4 d5 d6 d7 d8 d9 : Int32), lk_WI ni xstmtOp xoutRegion xoutLoaded xinStmt xinLive (fun s => (xstmtOwner (xinStmt s).toNatClampNeg).toNatClampNeg) (fun s => (xinSize s).toNatClampNeg) (i + 1) C0' C1' V' L' D' G0' GE' IV' ct vm lm dt gs ge xv os yg0 yg1 yv yl d0 d1 d2 d3 d4 d5 d6 d7 d8 d9 ∧ lk_U xstmtOp xoutRegion xoutGroup (i + 1) C1' V' D' G0' GE' ∧ (∀ post : Int32 → St2 → Prop, post 1 (xphase, (nI ns), xopenOut, xopenGroup, (nI no), (nI ng), (nI ni), (nI nb), (nI nr), xregionSize, ct, xmemory, xstmtOp, xstmtA, xstmtB, xstmtOwner, xoutRegion, xoutLoaded, xoutGroup, oa, vm, lm, dt, gs, ge, xgroupResident, xinKind, xinId, xinAlign, xinSize, xinFirstByte, xinStmt, xinLive, xv, xfedBytes, xrelocOwner, xrelocOffset, xrelocType, xrelocTarget, xrelocAddend) → wpX_place post (xphase, (nI ns), xopenOut, xopenGroup, (nI no), (nI ng), (nI ni), (nI nb), (nI nr), xregionSize, xcounter, xmemory, xstmtOp, xstmtA, xstmtB, xstmtOwner, xoutRegion, xoutLoaded, xoutGroup, xoutAlign, xoutVma, xoutLma, xoutDot, xgroupStart, xgroupEnd, xgroupResident, xinKind, xinId, xinAlign, xinSize, xinFirstByte, xinStmt, xinLive, xinVma, xfedBytes, xrelocOwner, xrelocOffset, xrelocType, xrelocTarget, xrelocAddend) (nI i)) := by
  have n32 := hA.1
  have e : (nI i).toNatClampNeg = i := nI_clamp (by omega)
  have vi : vp_in (nI i) 32 := vp_in_nI (by omega) (by omega)
  have nglt := lk_ng_m (op := xstmtOp) (i := i) (ns - i)
  rw [show i + (ns - i) = ns by omega, ← hng] at nglt
  have sc : lk_is xstmtOp i = false ∧ lk_ig xstmtOp i = true ∧ xstmtOwner i = nI (lk_ng xstmtOp i - 1) := by
    rcases hS i hi with ⟨h, _⟩ | ⟨h | h | h, _⟩ | ⟨h | h | h, _⟩ | ⟨h, _⟩ | ⟨_, h⟩
    case inr.inr.inr.inr => exact h
    all_goals rw [ho] at h; exact absurd h (by decide)
  obtain ⟨his, hig, eox⟩ := sc
  have hW2 := hW
  unfold lk_WI at hW2
  obtain ⟨_, ⟨w1, w2, w3, w4⟩, _, _, w5, _, _, ⟨_, w6, w7⟩, _⟩ := hW2
  obtain ⟨g, hg⟩ : ∃ g, lk_ng xstmtOp i = g + 1 := ⟨lk_ng xstmtOp i - 1, by have := (w7 hig).1; omega⟩
  have W1 := lk_V_ove hW hA hi ho his hig hg
  have ege := (w5 g (by omega)).2
  rw [hg, Nat.add_sub_cancel] at eox
  rw [hg, nI_pred] at w6
  have vg : vp_in (nI g) 4 := vp_in_nI (by omega) (by omega)
  have eg : (nI g).toNatClampNeg = g := nI_clamp (by omega)
  refine ⟨_, _, _, _, _, _, _, _, _, xoutAlign, _, _, _, _, _, _, _, _, _, _, _, _, _, _, _, _, _, _, _, _, _, W1, lk_U_ove hU ho his hig hg, fun post hp => ?_⟩
  · exact ⟨vi, nm_r (e' := nI g) (by rw [e, eox]) ⟨vi, nm_r (e' := 9) (by rw [e, ho]) (br_f (by decide) (br_f (by decide) (br_f (by decide) (br_f (by decide) (br_f (by decide) (br_f (by decide) (br_f (by decide) (br_f (by decide) (br_f (by decide) (br_f (by decide) (br_t rfl ⟨vg, nm_r (by rw [eg, ege]) hp⟩)))))))))))⟩⟩
theorem lk_w_d5 {ns no ng ni nb nr : Nat} {xphase xopenOut xopenGroup : Int32} {xregionSize xcounter xmemory xstmtOp xstmtA xstmtB xstmtOwner xoutRegion xoutLoaded xoutGroup xoutAlign xoutVma xoutLma xoutDot xgroupStart xgroupEnd xgroupResident xinKind xinId xinAlign xinSize xinFirstByte xinStmt xinLive xinVma xfedBytes xrelocOwner xrelocOffset xrelocType xrelocTarget xrelocAddend ystOut youtSize ygStart ygEnd yinBss yinLen yinVma yinLma : Nat → Int32} {i C0 C1 : Nat} {V L D G0 GE IV : Nat → Nat} {c0 c1 g0 yge grp kk dot vma lma ing : Int32} (hS : ∀ i, i < ns → lk_sc xstmtOp xstmtA xstmtB xstmtOwner ystOut xoutRegion xoutLoaded xoutGroup i) (hno : no = lk_no xstmtOp ns) (hng : ng = lk_ng xstmtOp ns) (h8 : no ≤ 8) (h4 : ng ≤ 4) (hN : lk_N ni nb xinKind xinAlign xinSize xinFirstByte yinBss yinLen) (hA : lk_hA ni ns xstmtOp xinStmt xinLive) (hl : lk_hl ni no ns xinStmt xinLive xstmtOwner ystOut) (hi : i < ns) (hW : lk_WI ni xstmtOp xoutRegion xoutLoaded xinStmt xinLive (fun s => (xstmtOwner (xinStmt s).toNatClampNeg).toNatClampNeg) (fun s => (xinSize s).toNatClampNeg) i C0 C1 V L D G0 GE IV xcounter xoutVma xoutLma xoutDot xgroupStart xgroupEnd xinVma youtSize ygStart ygEnd yinVma yinLma c0 c1 g0 yge grp kk dot vma lma ing) (hU : lk_U xstmtOp xoutRegion xoutGroup i C1 V D G0 GE) (ho : xstmtOp i = 5) : (∃ (C0' C1' : Nat) (V' L' D' G0' GE' IV' : Nat → Nat) (ct oa vm lm dt gs ge xv os yg0 yg1 yv yl : Nat → Int32) (d0 d1 d2 d3 d4 d5 d6 d7 d8 d9 : Int32), lk_WI ni xstmtOp xoutRegion xoutLoaded xinStmt xinLive (fun s => (xstmtOwner (xinStmt s).toNatClampNeg).toNatClampNeg) (fun s => (xinSize s).toNatClampNeg) (i + 1) C0' C1' V' L' D' G0' GE' IV' ct vm lm dt gs ge xv os yg0 yg1 yv yl d0 d1 d2 d3 d4 d5 d6 d7 d8 d9 ∧ lk_U xstmtOp xoutRegion xoutGroup (i + 1) C1' V' D' G0' GE' ∧ (∀ post : Int32 → St2 → Prop, post 1 (xphase, (nI ns), xopenOut, xopenGroup, (nI no), (nI ng), (nI ni), (nI nb), (nI nr), xregionSize, ct, xmemory, xstmtOp, xstmtA, xstmtB, xstmtOwner, xoutRegion, xoutLoaded, xoutGroup, oa, vm, lm, dt, gs, ge, xgroupResident, xinKind, xinId, xinAlign, xinSize, xinFirstByte, xinStmt, xinLive, xv, xfedBytes, xrelocOwner, xrelocOffset, xrelocType, xrelocTarget, xrelocAddend) → wpX_place post (xphase, (nI ns), xopenOut, xopenGroup, (nI no), (nI ng), (nI ni), (nI nb), (nI nr), xregionSize, xcounter, xmemory, xstmtOp, xstmtA, xstmtB, xstmtOwner, xoutRegion, xoutLoaded, xoutGroup, xoutAlign, xoutVma, xoutLma, xoutDot, xgroupStart, xgroupEnd, xgroupResident, xinKind, xinId, xinAlign, xinSize, xinFirstByte, xinStmt, xinLive, xinVma, xfedBytes, xrelocOwner, xrelocOffset, xrelocType, xrelocTarget, xrelocAddend) (nI i))) ∨ (∀ post : Int32 → St2 → Prop, post 0 (xphase, (nI ns), xopenOut, xopenGroup, (nI no), (nI ng), (nI ni), (nI nb), (nI nr), xregionSize, xcounter, xmemory, xstmtOp, xstmtA, xstmtB, xstmtOwner, xoutRegion, xoutLoaded, xoutGroup, xoutAlign, xoutVma, xoutLma, xoutDot, xgroupStart, xgroupEnd, xgroupResident, xinKind, xinId, xinAlign, xinSize, xinFirstByte, xinStmt, xinLive, xinVma, xfedBytes, xrelocOwner, xrelocOffset, xrelocType, xrelocTarget, xrelocAddend) → wpX_place post (xphase, (nI ns), xopenOut, xopenGroup, (nI no), (nI ng), (nI ni), (nI nb), (nI nr), xregionSize, xcounter, xmemory, xstmtOp, xstmtA, xstmtB, xstmtOwner, xoutRegion, xoutLoaded, xoutGroup, xoutAlign, xoutVma, xoutLma, xoutDot, xgroupStart, xgroupEnd, xgroupResident, xinKind, xinId, xinAlign, xinSize, xinFirstByte, xinStmt, xinLive, xinVma, xfedBytes, xrelocOwner, xrelocOffset, xrelocType, xrelocTarget, xrelocAddend) (nI i)) := by
  have n32 := hA.1
  have e : (nI i).toNatClampNeg = i := nI_clamp (by omega)
  have vi : vp_in (nI i) 32 := vp_in_nI (by omega) (by omega)
  have sc : (∃ x, x ≤ 1023 ∧ xstmtA i = nI x ∧ (xstmtOp i = 7 → lk_A x)) ∧ ((lk_is xstmtOp i = true ∧ xstmtOwner i = nI (lk_no xstmtOp i - 1) ∧ ystOut i = nI (lk_no xstmtOp i - 1)) ∨ (lk_is xstmtOp i = false ∧ lk_ig xstmtOp i = false ∧ xstmtOwner i = -1 ∧ ystOut i = -1 ∧ (xstmtB i = 0 ∨ xstmtB i = 1))) := by
    rcases hS i hi with ⟨h, _⟩ | ⟨h | h | h, _⟩ | ⟨_, h⟩ | ⟨h, _⟩ | ⟨h, _⟩
    case inr.inr.inl => exact h
    all_goals rw [ho] at h; exact absurd h (by decide)
  obtain ⟨⟨x, hx, ea, hx7⟩, sc⟩ := sc
  have nm := lk_no_m (op := xstmtOp) (i := i) (ns - i)
  rw [show i + (ns - i) = ns by omega, ← hno] at nm
  have hW2 := hW
  unfold lk_WI at hW2
  obtain ⟨⟨⟨g1, g2, g3, _, _⟩, g4, _⟩, ⟨w1, w2, w3, w4⟩, w8, _, _, _, _, _, w9, w10⟩ := hW2
  rcases sc with ⟨his, eox, _⟩ | ⟨his, hig, eox, _, eb⟩
  · have hnt := lk_nc_t his
    rw [show lk_no xstmtOp i - 1 = lk_nc xstmtOp i by omega] at eox
    have hD := (g4 (lk_nc xstmtOp i) (by omega)).2.1
    have ed := (w8 (lk_nc xstmtOp i) (by omega)).2.2
    obtain ⟨k1, k2, _, _⟩ := w9 (by omega)
    have nk : ¬ kk < 0 := by rw [k1]; exact nI_pos (by omega)
    by_cases cx : D (lk_nc xstmtOp i) ≤ x
    · have W1 := lk_V_dot (x := x) hW hA hi (Or.inl ho) his (by omega) (by omega)
      refine Or.inl ⟨_, _, _, _, _, _, _, _, _, xoutAlign, _, _, _, _, _, _, _, _, _, _, _, _, _, _, _, _, _, _, _, _, _, W1, lk_U_D hU (Or.inr (Or.inr (Or.inl ho))) his (fun k hk => lk_upn hk), fun post hp => ?_⟩
      · exact ⟨vi, nm_e ⟨vi, nm_r (e' := 5) (by rw [e, ho]) (br_f (by decide) (br_f (by decide) (br_f (by decide) (br_f (by decide) (br_f (by decide) (br_f (by decide) (br_t rfl (lx_md1 (by omega) eox (by omega) ed ea hx (by omega) (Or.inl ⟨ho, cx, rfl⟩) hp))))))))⟩⟩
    · refine Or.inr (fun post hp => ?_)
      · exact ⟨vi, nm_e ⟨vi, nm_r (e' := 5) (by rw [e, ho]) (br_f (by decide) (br_f (by decide) (br_f (by decide) (br_f (by decide) (br_f (by decide) (br_f (by decide) (br_t rfl (lx_b1 (by omega) eox (by omega) ed ea (by omega) (by omega) ho hp))))))))⟩⟩
  · have hnf := lk_nc_f his
    have k1 := w10 hnf
    have nk : kk < 0 := by rw [k1]; decide
    rcases eb with eb | eb
    · by_cases cx : C0 ≤ x
      · have W1 := lk_V_cnt (C0' := x) (C1' := C1) (ct' := upd xcounter 0 (nI (x))) (c0' := nI (x)) (c1' := c1) hW hA hi (Or.inl ho) his (by omega) (by omega) (by omega) (by omega) ⟨pk_us, by rw [pk_un (by decide)]; exact w2, rfl, w4⟩
        refine Or.inl ⟨_, _, _, _, _, _, _, _, _, xoutAlign, _, _, _, _, _, _, _, _, _, _, _, _, _, _, _, _, _, _, _, _, _, W1, lk_U_cnt hU (Or.inl ho) his hig (by omega), fun post hp => ?_⟩
        · exact ⟨vi, nm_e ⟨vi, nm_r (e' := 5) (by rw [e, ho]) (br_f (by decide) (br_f (by decide) (br_f (by decide) (br_f (by decide) (br_f (by decide) (br_f (by decide) (br_t rfl (lx_md0 (r := 0) (by omega) eox (by omega) eb w1 ea hx (by omega) (Or.inl ⟨ho, cx, rfl⟩) hp))))))))⟩⟩
      · refine Or.inr (fun post hp => ?_)
        · exact ⟨vi, nm_e ⟨vi, nm_r (e' := 5) (by rw [e, ho]) (br_f (by decide) (br_f (by decide) (br_f (by decide) (br_f (by decide) (br_f (by decide) (br_f (by decide) (br_t rfl (lx_b0 (r := 0) (by omega) eox (by omega) eb w1 ea (by omega) (by omega) ho hp))))))))⟩⟩
    · by_cases cx : C1 ≤ x
      · have W1 := lk_V_cnt (C0' := C0) (C1' := x) (ct' := upd xcounter 1 (nI (x))) (c0' := c0) (c1' := nI (x)) hW hA hi (Or.inl ho) his (by omega) (by omega) (by omega) (by omega) ⟨by rw [pk_un (by decide)]; exact w1, pk_us, w3, rfl⟩
        refine Or.inl ⟨_, _, _, _, _, _, _, _, _, xoutAlign, _, _, _, _, _, _, _, _, _, _, _, _, _, _, _, _, _, _, _, _, _, W1, lk_U_cnt hU (Or.inl ho) his hig (by omega), fun post hp => ?_⟩
        · exact ⟨vi, nm_e ⟨vi, nm_r (e' := 5) (by rw [e, ho]) (br_f (by decide) (br_f (by decide) (br_f (by decide) (br_f (by decide) (br_f (by decide) (br_f (by decide) (br_t rfl (lx_md0 (r := 1) (by omega) eox (by omega) eb w2 ea hx (by omega) (Or.inl ⟨ho, cx, rfl⟩) hp))))))))⟩⟩
      · refine Or.inr (fun post hp => ?_)
        · exact ⟨vi, nm_e ⟨vi, nm_r (e' := 5) (by rw [e, ho]) (br_f (by decide) (br_f (by decide) (br_f (by decide) (br_f (by decide) (br_f (by decide) (br_f (by decide) (br_t rfl (lx_b0 (r := 1) (by omega) eox (by omega) eb w2 ea (by omega) (by omega) ho hp))))))))⟩⟩
theorem lk_w_d6 {ns no ng ni nb nr : Nat} {xphase xopenOut xopenGroup : Int32} {xregionSize xcounter xmemory xstmtOp xstmtA xstmtB xstmtOwner xoutRegion xoutLoaded xoutGroup xoutAlign xoutVma xoutLma xoutDot xgroupStart xgroupEnd xgroupResident xinKind xinId xinAlign xinSize xinFirstByte xinStmt xinLive xinVma xfedBytes xrelocOwner xrelocOffset xrelocType xrelocTarget xrelocAddend ystOut youtSize ygStart ygEnd yinBss yinLen yinVma yinLma : Nat → Int32} {i C0 C1 : Nat} {V L D G0 GE IV : Nat → Nat} {c0 c1 g0 yge grp kk dot vma lma ing : Int32} (hS : ∀ i, i < ns → lk_sc xstmtOp xstmtA xstmtB xstmtOwner ystOut xoutRegion xoutLoaded xoutGroup i) (hno : no = lk_no xstmtOp ns) (hng : ng = lk_ng xstmtOp ns) (h8 : no ≤ 8) (h4 : ng ≤ 4) (hN : lk_N ni nb xinKind xinAlign xinSize xinFirstByte yinBss yinLen) (hA : lk_hA ni ns xstmtOp xinStmt xinLive) (hl : lk_hl ni no ns xinStmt xinLive xstmtOwner ystOut) (hi : i < ns) (hW : lk_WI ni xstmtOp xoutRegion xoutLoaded xinStmt xinLive (fun s => (xstmtOwner (xinStmt s).toNatClampNeg).toNatClampNeg) (fun s => (xinSize s).toNatClampNeg) i C0 C1 V L D G0 GE IV xcounter xoutVma xoutLma xoutDot xgroupStart xgroupEnd xinVma youtSize ygStart ygEnd yinVma yinLma c0 c1 g0 yge grp kk dot vma lma ing) (hU : lk_U xstmtOp xoutRegion xoutGroup i C1 V D G0 GE) (ho : xstmtOp i = 6) : ∃ (C0' C1' : Nat) (V' L' D' G0' GE' IV' : Nat → Nat) (ct oa vm lm dt gs ge xv os yg0 yg1 yv yl : Nat → Int32) (d0 d1 d2 d3 d4 d5 d6 d7 d8 d9 : Int32), lk_WI ni xstmtOp xoutRegion xoutLoaded xinStmt xinLive (fun s => (xstmtOwner (xinStmt s).toNatClampNeg).toNatClampNeg) (fun s => (xinSize s).toNatClampNeg) (i + 1) C0' C1' V' L' D' G0' GE' IV' ct vm lm dt gs ge xv os yg0 yg1 yv yl d0 d1 d2 d3 d4 d5 d6 d7 d8 d9 ∧ lk_U xstmtOp xoutRegion xoutGroup (i + 1) C1' V' D' G0' GE' ∧ (∀ post : Int32 → St2 → Prop, post 1 (xphase, (nI ns), xopenOut, xopenGroup, (nI no), (nI ng), (nI ni), (nI nb), (nI nr), xregionSize, ct, xmemory, xstmtOp, xstmtA, xstmtB, xstmtOwner, xoutRegion, xoutLoaded, xoutGroup, oa, vm, lm, dt, gs, ge, xgroupResident, xinKind, xinId, xinAlign, xinSize, xinFirstByte, xinStmt, xinLive, xv, xfedBytes, xrelocOwner, xrelocOffset, xrelocType, xrelocTarget, xrelocAddend) → wpX_place post (xphase, (nI ns), xopenOut, xopenGroup, (nI no), (nI ng), (nI ni), (nI nb), (nI nr), xregionSize, xcounter, xmemory, xstmtOp, xstmtA, xstmtB, xstmtOwner, xoutRegion, xoutLoaded, xoutGroup, xoutAlign, xoutVma, xoutLma, xoutDot, xgroupStart, xgroupEnd, xgroupResident, xinKind, xinId, xinAlign, xinSize, xinFirstByte, xinStmt, xinLive, xinVma, xfedBytes, xrelocOwner, xrelocOffset, xrelocType, xrelocTarget, xrelocAddend) (nI i)) := by
  have n32 := hA.1
  have e : (nI i).toNatClampNeg = i := nI_clamp (by omega)
  have vi : vp_in (nI i) 32 := vp_in_nI (by omega) (by omega)
  have sc : (∃ x, x ≤ 1023 ∧ xstmtA i = nI x ∧ (xstmtOp i = 7 → lk_A x)) ∧ ((lk_is xstmtOp i = true ∧ xstmtOwner i = nI (lk_no xstmtOp i - 1) ∧ ystOut i = nI (lk_no xstmtOp i - 1)) ∨ (lk_is xstmtOp i = false ∧ lk_ig xstmtOp i = false ∧ xstmtOwner i = -1 ∧ ystOut i = -1 ∧ (xstmtB i = 0 ∨ xstmtB i = 1))) := by
    rcases hS i hi with ⟨h, _⟩ | ⟨h | h | h, _⟩ | ⟨_, h⟩ | ⟨h, _⟩ | ⟨h, _⟩
    case inr.inr.inl => exact h
    all_goals rw [ho] at h; exact absurd h (by decide)
  obtain ⟨⟨x, hx, ea, hx7⟩, sc⟩ := sc
  have nm := lk_no_m (op := xstmtOp) (i := i) (ns - i)
  rw [show i + (ns - i) = ns by omega, ← hno] at nm
  have hW2 := hW
  unfold lk_WI at hW2
  obtain ⟨⟨⟨g1, g2, g3, _, _⟩, g4, _⟩, ⟨w1, w2, w3, w4⟩, w8, _, _, _, _, _, w9, w10⟩ := hW2
  rcases sc with ⟨his, eox, _⟩ | ⟨his, hig, eox, _, eb⟩
  · have hnt := lk_nc_t his
    rw [show lk_no xstmtOp i - 1 = lk_nc xstmtOp i by omega] at eox
    have hD := (g4 (lk_nc xstmtOp i) (by omega)).2.1
    have ed := (w8 (lk_nc xstmtOp i) (by omega)).2.2
    obtain ⟨k1, k2, _, _⟩ := w9 (by omega)
    have nk : ¬ kk < 0 := by rw [k1]; exact nI_pos (by omega)
    have W1 := lk_V_dot (x := D (lk_nc xstmtOp i) + x) hW hA hi (Or.inr (Or.inl ho)) his (by omega) (by omega)
    refine ⟨_, _, _, _, _, _, _, _, _, xoutAlign, _, _, _, _, _, _, _, _, _, _, _, _, _, _, _, _, _, _, _, _, _, W1, lk_U_D hU (Or.inr (Or.inr (Or.inr (Or.inl ho)))) his (fun k hk => lk_upn hk), fun post hp => ?_⟩
    · exact ⟨vi, nm_e ⟨vi, nm_r (e' := 6) (by rw [e, ho]) (br_f (by decide) (br_f (by decide) (br_f (by decide) (br_f (by decide) (br_f (by decide) (br_f (by decide) (br_f (by decide) (br_t rfl (lx_md1 (by omega) eox (by omega) ed ea hx (by omega) (Or.inr (Or.inl ⟨ho, rfl⟩)) hp)))))))))⟩⟩
  · have hnf := lk_nc_f his
    have k1 := w10 hnf
    have nk : kk < 0 := by rw [k1]; decide
    rcases eb with eb | eb
    · have W1 := lk_V_cnt (C0' := C0 + x) (C1' := C1) (ct' := upd xcounter 0 (nI (C0 + x))) (c0' := nI (C0 + x)) (c1' := c1) hW hA hi (Or.inr (Or.inl ho)) his (by omega) (by omega) (by omega) (by omega) ⟨pk_us, by rw [pk_un (by decide)]; exact w2, rfl, w4⟩
      refine ⟨_, _, _, _, _, _, _, _, _, xoutAlign, _, _, _, _, _, _, _, _, _, _, _, _, _, _, _, _, _, _, _, _, _, W1, lk_U_cnt hU (Or.inr (Or.inl ho)) his hig (by omega), fun post hp => ?_⟩
      · exact ⟨vi, nm_e ⟨vi, nm_r (e' := 6) (by rw [e, ho]) (br_f (by decide) (br_f (by decide) (br_f (by decide) (br_f (by decide) (br_f (by decide) (br_f (by decide) (br_f (by decide) (br_t rfl (lx_md0 (r := 0) (by omega) eox (by omega) eb w1 ea hx (by omega) (Or.inr (Or.inl ⟨ho, rfl⟩)) hp)))))))))⟩⟩
    · have W1 := lk_V_cnt (C0' := C0) (C1' := C1 + x) (ct' := upd xcounter 1 (nI (C1 + x))) (c0' := c0) (c1' := nI (C1 + x)) hW hA hi (Or.inr (Or.inl ho)) his (by omega) (by omega) (by omega) (by omega) ⟨by rw [pk_un (by decide)]; exact w1, pk_us, w3, rfl⟩
      refine ⟨_, _, _, _, _, _, _, _, _, xoutAlign, _, _, _, _, _, _, _, _, _, _, _, _, _, _, _, _, _, _, _, _, _, W1, lk_U_cnt hU (Or.inr (Or.inl ho)) his hig (by omega), fun post hp => ?_⟩
      · exact ⟨vi, nm_e ⟨vi, nm_r (e' := 6) (by rw [e, ho]) (br_f (by decide) (br_f (by decide) (br_f (by decide) (br_f (by decide) (br_f (by decide) (br_f (by decide) (br_f (by decide) (br_t rfl (lx_md0 (r := 1) (by omega) eox (by omega) eb w2 ea hx (by omega) (Or.inr (Or.inl ⟨ho, rfl⟩)) hp)))))))))⟩⟩
theorem lk_w_d7 {ns no ng ni nb nr : Nat} {xphase xopenOut xopenGroup : Int32} {xregionSize xcounter xmemory xstmtOp xstmtA xstmtB xstmtOwner xoutRegion xoutLoaded xoutGroup xoutAlign xoutVma xoutLma xoutDot xgroupStart xgroupEnd xgroupResident xinKind xinId xinAlign xinSize xinFirstByte xinStmt xinLive xinVma xfedBytes xrelocOwner xrelocOffset xrelocType xrelocTarget xrelocAddend ystOut youtSize ygStart ygEnd yinBss yinLen yinVma yinLma : Nat → Int32} {i C0 C1 : Nat} {V L D G0 GE IV : Nat → Nat} {c0 c1 g0 yge grp kk dot vma lma ing : Int32} (hS : ∀ i, i < ns → lk_sc xstmtOp xstmtA xstmtB xstmtOwner ystOut xoutRegion xoutLoaded xoutGroup i) (hno : no = lk_no xstmtOp ns) (hng : ng = lk_ng xstmtOp ns) (h8 : no ≤ 8) (h4 : ng ≤ 4) (hN : lk_N ni nb xinKind xinAlign xinSize xinFirstByte yinBss yinLen) (hA : lk_hA ni ns xstmtOp xinStmt xinLive) (hl : lk_hl ni no ns xinStmt xinLive xstmtOwner ystOut) (hi : i < ns) (hW : lk_WI ni xstmtOp xoutRegion xoutLoaded xinStmt xinLive (fun s => (xstmtOwner (xinStmt s).toNatClampNeg).toNatClampNeg) (fun s => (xinSize s).toNatClampNeg) i C0 C1 V L D G0 GE IV xcounter xoutVma xoutLma xoutDot xgroupStart xgroupEnd xinVma youtSize ygStart ygEnd yinVma yinLma c0 c1 g0 yge grp kk dot vma lma ing) (hU : lk_U xstmtOp xoutRegion xoutGroup i C1 V D G0 GE) (ho : xstmtOp i = 7) : ∃ (C0' C1' : Nat) (V' L' D' G0' GE' IV' : Nat → Nat) (ct oa vm lm dt gs ge xv os yg0 yg1 yv yl : Nat → Int32) (d0 d1 d2 d3 d4 d5 d6 d7 d8 d9 : Int32), lk_WI ni xstmtOp xoutRegion xoutLoaded xinStmt xinLive (fun s => (xstmtOwner (xinStmt s).toNatClampNeg).toNatClampNeg) (fun s => (xinSize s).toNatClampNeg) (i + 1) C0' C1' V' L' D' G0' GE' IV' ct vm lm dt gs ge xv os yg0 yg1 yv yl d0 d1 d2 d3 d4 d5 d6 d7 d8 d9 ∧ lk_U xstmtOp xoutRegion xoutGroup (i + 1) C1' V' D' G0' GE' ∧ (∀ post : Int32 → St2 → Prop, post 1 (xphase, (nI ns), xopenOut, xopenGroup, (nI no), (nI ng), (nI ni), (nI nb), (nI nr), xregionSize, ct, xmemory, xstmtOp, xstmtA, xstmtB, xstmtOwner, xoutRegion, xoutLoaded, xoutGroup, oa, vm, lm, dt, gs, ge, xgroupResident, xinKind, xinId, xinAlign, xinSize, xinFirstByte, xinStmt, xinLive, xv, xfedBytes, xrelocOwner, xrelocOffset, xrelocType, xrelocTarget, xrelocAddend) → wpX_place post (xphase, (nI ns), xopenOut, xopenGroup, (nI no), (nI ng), (nI ni), (nI nb), (nI nr), xregionSize, xcounter, xmemory, xstmtOp, xstmtA, xstmtB, xstmtOwner, xoutRegion, xoutLoaded, xoutGroup, xoutAlign, xoutVma, xoutLma, xoutDot, xgroupStart, xgroupEnd, xgroupResident, xinKind, xinId, xinAlign, xinSize, xinFirstByte, xinStmt, xinLive, xinVma, xfedBytes, xrelocOwner, xrelocOffset, xrelocType, xrelocTarget, xrelocAddend) (nI i)) := by
  have n32 := hA.1
  have e : (nI i).toNatClampNeg = i := nI_clamp (by omega)
  have vi : vp_in (nI i) 32 := vp_in_nI (by omega) (by omega)
  have sc : (∃ x, x ≤ 1023 ∧ xstmtA i = nI x ∧ (xstmtOp i = 7 → lk_A x)) ∧ ((lk_is xstmtOp i = true ∧ xstmtOwner i = nI (lk_no xstmtOp i - 1) ∧ ystOut i = nI (lk_no xstmtOp i - 1)) ∨ (lk_is xstmtOp i = false ∧ lk_ig xstmtOp i = false ∧ xstmtOwner i = -1 ∧ ystOut i = -1 ∧ (xstmtB i = 0 ∨ xstmtB i = 1))) := by
    rcases hS i hi with ⟨h, _⟩ | ⟨h | h | h, _⟩ | ⟨_, h⟩ | ⟨h, _⟩ | ⟨h, _⟩
    case inr.inr.inl => exact h
    all_goals rw [ho] at h; exact absurd h (by decide)
  obtain ⟨⟨x, hx, ea, hx7⟩, sc⟩ := sc
  have nm := lk_no_m (op := xstmtOp) (i := i) (ns - i)
  rw [show i + (ns - i) = ns by omega, ← hno] at nm
  have hW2 := hW
  unfold lk_WI at hW2
  obtain ⟨⟨⟨g1, g2, g3, _, _⟩, g4, _⟩, ⟨w1, w2, w3, w4⟩, w8, _, _, _, _, _, w9, w10⟩ := hW2
  rcases sc with ⟨his, eox, _⟩ | ⟨his, hig, eox, _, eb⟩
  · have hnt := lk_nc_t his
    rw [show lk_no xstmtOp i - 1 = lk_nc xstmtOp i by omega] at eox
    have hD := (g4 (lk_nc xstmtOp i) (by omega)).2.1
    have ed := (w8 (lk_nc xstmtOp i) (by omega)).2.2
    obtain ⟨k1, k2, _, _⟩ := w9 (by omega)
    have nk : ¬ kk < 0 := by rw [k1]; exact nI_pos (by omega)
    have hal := lk_al_b (x := D (lk_nc xstmtOp i)) (hx7 ho)
    have W1 := lk_V_dot (x := lk_al (D (lk_nc xstmtOp i)) x) hW hA hi (Or.inr (Or.inr ho)) his (by omega) (by omega)
    refine ⟨_, _, _, _, _, _, _, _, _, xoutAlign, _, _, _, _, _, _, _, _, _, _, _, _, _, _, _, _, _, _, _, _, _, W1, lk_U_D hU (Or.inr (Or.inr (Or.inr (Or.inr ho)))) his (fun k hk => lk_upn hk), fun post hp => ?_⟩
    · exact ⟨vi, nm_e ⟨vi, nm_r (e' := 7) (by rw [e, ho]) (br_f (by decide) (br_f (by decide) (br_f (by decide) (br_f (by decide) (br_f (by decide) (br_f (by decide) (br_f (by decide) (br_f (by decide) (br_t rfl (lx_md1 (by omega) eox (by omega) ed ea hx (by omega) (Or.inr (Or.inr ⟨ho, hx7 ho, rfl⟩)) hp))))))))))⟩⟩
  · have hnf := lk_nc_f his
    have k1 := w10 hnf
    have nk : kk < 0 := by rw [k1]; decide
    rcases eb with eb | eb
    · have hal := lk_al_b (x := C0) (hx7 ho)
      have W1 := lk_V_cnt (C0' := lk_al (C0) x) (C1' := C1) (ct' := upd xcounter 0 (nI (lk_al (C0) x))) (c0' := nI (lk_al (C0) x)) (c1' := c1) hW hA hi (Or.inr (Or.inr ho)) his (by omega) (by omega) (by omega) (by omega) ⟨pk_us, by rw [pk_un (by decide)]; exact w2, rfl, w4⟩
      refine ⟨_, _, _, _, _, _, _, _, _, xoutAlign, _, _, _, _, _, _, _, _, _, _, _, _, _, _, _, _, _, _, _, _, _, W1, lk_U_cnt hU (Or.inr (Or.inr ho)) his hig (by omega), fun post hp => ?_⟩
      · exact ⟨vi, nm_e ⟨vi, nm_r (e' := 7) (by rw [e, ho]) (br_f (by decide) (br_f (by decide) (br_f (by decide) (br_f (by decide) (br_f (by decide) (br_f (by decide) (br_f (by decide) (br_f (by decide) (br_t rfl (lx_md0 (r := 0) (by omega) eox (by omega) eb w1 ea hx (by omega) (Or.inr (Or.inr ⟨ho, hx7 ho, rfl⟩)) hp))))))))))⟩⟩
    · have hal := lk_al_b (x := C1) (hx7 ho)
      have W1 := lk_V_cnt (C0' := C0) (C1' := lk_al (C1) x) (ct' := upd xcounter 1 (nI (lk_al (C1) x))) (c0' := c0) (c1' := nI (lk_al (C1) x)) hW hA hi (Or.inr (Or.inr ho)) his (by omega) (by omega) (by omega) (by omega) ⟨by rw [pk_un (by decide)]; exact w1, pk_us, w3, rfl⟩
      refine ⟨_, _, _, _, _, _, _, _, _, xoutAlign, _, _, _, _, _, _, _, _, _, _, _, _, _, _, _, _, _, _, _, _, _, W1, lk_U_cnt hU (Or.inr (Or.inr ho)) his hig (by omega), fun post hp => ?_⟩
      · exact ⟨vi, nm_e ⟨vi, nm_r (e' := 7) (by rw [e, ho]) (br_f (by decide) (br_f (by decide) (br_f (by decide) (br_f (by decide) (br_f (by decide) (br_f (by decide) (br_f (by decide) (br_f (by decide) (br_t rfl (lx_md0 (r := 1) (by omega) eox (by omega) eb w2 ea hx (by omega) (Or.inr (Or.inr ⟨ho, hx7 ho, rfl⟩)) hp))))))))))⟩⟩
end
end
section

section
theorem lk_walk {ns no ng ni nb nr : Nat} {xphase xopenOut xopenGroup : Int32} {xregionSize xmemory xstmtOp xstmtA xstmtB xstmtOwner xoutRegion xoutLoaded xoutGroup xgroupResident xinKind xinId xinAlign xinSize xinFirstByte xinStmt xinLive xfedBytes xrelocOwner xrelocOffset xrelocType xrelocTarget xrelocAddend ystOut yinBss yinLen : Nat → Int32} (hS : ∀ i, i < ns → lk_sc xstmtOp xstmtA xstmtB xstmtOwner ystOut xoutRegion xoutLoaded xoutGroup i) (hno : no = lk_no xstmtOp ns) (hng : ng = lk_ng xstmtOp ns) (h8 : no ≤ 8) (h4 : ng ≤ 4) (hN : lk_N ni nb xinKind xinAlign xinSize xinFirstByte yinBss yinLen) (hA : lk_hA ni ns xstmtOp xinStmt xinLive) (hl : lk_hl ni no ns xinStmt xinLive xstmtOwner ystOut) : ∀ d i, i + d = ns → ∀ (C0 C1 : Nat) (V L D G0 GE IV : Nat → Nat) (xcounter xoutAlign xoutVma xoutLma xoutDot xgroupStart xgroupEnd xinVma youtSize ygStart ygEnd yinVma yinLma : Nat → Int32) (c0 c1 g0 yge grp kk dot vma lma ing : Int32), lk_WI ni xstmtOp xoutRegion xoutLoaded xinStmt xinLive (fun s => (xstmtOwner (xinStmt s).toNatClampNeg).toNatClampNeg) (fun s => (xinSize s).toNatClampNeg) i C0 C1 V L D G0 GE IV xcounter xoutVma xoutLma xoutDot xgroupStart xgroupEnd xinVma youtSize ygStart ygEnd yinVma yinLma c0 c1 g0 yge grp kk dot vma lma ing → lk_U xstmtOp xoutRegion xoutGroup i C1 V D G0 GE →
    ∃ (b : Bool) (C0' C1' : Nat) (V' L' D' G0' GE' IV' : Nat → Nat) (ct oa vm lm dt gs ge xv os yg0 yg1 yv yl : Nat → Int32) (d0 d1 d2 d3 d4 d5 d6 d7 d8 d9 : Int32), (b = true → lk_WI ni xstmtOp xoutRegion xoutLoaded xinStmt xinLive (fun s => (xstmtOwner (xinStmt s).toNatClampNeg).toNatClampNeg) (fun s => (xinSize s).toNatClampNeg) ns C0' C1' V' L' D' G0' GE' IV' ct vm lm dt gs ge xv os yg0 yg1 yv yl d0 d1 d2 d3 d4 d5 d6 d7 d8 d9 ∧ lk_U xstmtOp xoutRegion xoutGroup ns C1' V' D' G0' GE') ∧
      (∀ post : Int32 → St2 → Prop, post (if b = true then 1 else 0) (xphase, (nI ns), xopenOut, xopenGroup, (nI no), (nI ng), (nI ni), (nI nb), (nI nr), xregionSize, ct, xmemory, xstmtOp, xstmtA, xstmtB, xstmtOwner, xoutRegion, xoutLoaded, xoutGroup, oa, vm, lm, dt, gs, ge, xgroupResident, xinKind, xinId, xinAlign, xinSize, xinFirstByte, xinStmt, xinLive, xv, xfedBytes, xrelocOwner, xrelocOffset, xrelocType, xrelocTarget, xrelocAddend) → wX_placeAll_18 post (d + 1) (nI i) xphase (nI ns) xopenOut xopenGroup (nI no) (nI ng) (nI ni) (nI nb) (nI nr) xregionSize xcounter xmemory xstmtOp xstmtA xstmtB xstmtOwner xoutRegion xoutLoaded xoutGroup xoutAlign xoutVma xoutLma xoutDot xgroupStart xgroupEnd xgroupResident xinKind xinId xinAlign xinSize xinFirstByte xinStmt xinLive xinVma xfedBytes xrelocOwner xrelocOffset xrelocType xrelocTarget xrelocAddend) := by
  have n32 := hA.1
  intro d
  induction d with
  | zero =>
    intro i hi C0 C1 V L D G0 GE IV xcounter xoutAlign xoutVma xoutLma xoutDot xgroupStart xgroupEnd xinVma youtSize ygStart ygEnd yinVma yinLma c0 c1 g0 yge grp kk dot vma lma ing hW hU
    have e1 : i = ns := hi
    subst e1
    exact ⟨true, C0, C1, V, L, D, G0, GE, IV, xcounter, xoutAlign, xoutVma, xoutLma, xoutDot, xgroupStart, xgroupEnd, xinVma, youtSize, ygStart, ygEnd, yinVma, yinLma, c0, c1, g0, yge, grp, kk, dot, vma, lma, ing, fun _ => ⟨hW, hU⟩, fun post hp => br_t (nI_le (by omega) (by omega)) hp⟩
  | succ d ih =>
    intro i hid C0 C1 V L D G0 GE IV xcounter xoutAlign xoutVma xoutLma xoutDot xgroupStart xgroupEnd xinVma youtSize ygStart ygEnd yinVma yinLma c0 c1 g0 yge grp kk dot vma lma ing hW hU
    have hi : i < ns := by omega
    have st : (∃ (C0' C1' : Nat) (V' L' D' G0' GE' IV' : Nat → Nat) (ct oa vm lm dt gs ge xv os yg0 yg1 yv yl : Nat → Int32) (d0 d1 d2 d3 d4 d5 d6 d7 d8 d9 : Int32), lk_WI ni xstmtOp xoutRegion xoutLoaded xinStmt xinLive (fun s => (xstmtOwner (xinStmt s).toNatClampNeg).toNatClampNeg) (fun s => (xinSize s).toNatClampNeg) (i + 1) C0' C1' V' L' D' G0' GE' IV' ct vm lm dt gs ge xv os yg0 yg1 yv yl d0 d1 d2 d3 d4 d5 d6 d7 d8 d9 ∧ lk_U xstmtOp xoutRegion xoutGroup (i + 1) C1' V' D' G0' GE' ∧ (∀ post : Int32 → St2 → Prop, post 1 (xphase, (nI ns), xopenOut, xopenGroup, (nI no), (nI ng), (nI ni), (nI nb), (nI nr), xregionSize, ct, xmemory, xstmtOp, xstmtA, xstmtB, xstmtOwner, xoutRegion, xoutLoaded, xoutGroup, oa, vm, lm, dt, gs, ge, xgroupResident, xinKind, xinId, xinAlign, xinSize, xinFirstByte, xinStmt, xinLive, xv, xfedBytes, xrelocOwner, xrelocOffset, xrelocType, xrelocTarget, xrelocAddend) → wpX_place post (xphase, (nI ns), xopenOut, xopenGroup, (nI no), (nI ng), (nI ni), (nI nb), (nI nr), xregionSize, xcounter, xmemory, xstmtOp, xstmtA, xstmtB, xstmtOwner, xoutRegion, xoutLoaded, xoutGroup, xoutAlign, xoutVma, xoutLma, xoutDot, xgroupStart, xgroupEnd, xgroupResident, xinKind, xinId, xinAlign, xinSize, xinFirstByte, xinStmt, xinLive, xinVma, xfedBytes, xrelocOwner, xrelocOffset, xrelocType, xrelocTarget, xrelocAddend) (nI i))) ∨ (∀ post : Int32 → St2 → Prop, post 0 (xphase, (nI ns), xopenOut, xopenGroup, (nI no), (nI ng), (nI ni), (nI nb), (nI nr), xregionSize, xcounter, xmemory, xstmtOp, xstmtA, xstmtB, xstmtOwner, xoutRegion, xoutLoaded, xoutGroup, xoutAlign, xoutVma, xoutLma, xoutDot, xgroupStart, xgroupEnd, xgroupResident, xinKind, xinId, xinAlign, xinSize, xinFirstByte, xinStmt, xinLive, xinVma, xfedBytes, xrelocOwner, xrelocOffset, xrelocType, xrelocTarget, xrelocAddend) → wpX_place post (xphase, (nI ns), xopenOut, xopenGroup, (nI no), (nI ng), (nI ni), (nI nb), (nI nr), xregionSize, xcounter, xmemory, xstmtOp, xstmtA, xstmtB, xstmtOwner, xoutRegion, xoutLoaded, xoutGroup, xoutAlign, xoutVma, xoutLma, xoutDot, xgroupStart, xgroupEnd, xgroupResident, xinKind, xinId, xinAlign, xinSize, xinFirstByte, xinStmt, xinLive, xinVma, xfedBytes, xrelocOwner, xrelocOffset, xrelocType, xrelocTarget, xrelocAddend) (nI i)) := by
      rcases hS i hi with ⟨h, _⟩ | ⟨h | h | h, _⟩ | ⟨h | h | h, _⟩ | ⟨h, _⟩ | ⟨h, _⟩
      · exact Or.inl (lk_w_sec hS hno hng h8 h4 hN hA hl hi hW hU h)
      · exact Or.inl (lk_w_end hS hno hng h8 h4 hN hA hl hi hW hU h)
      · exact Or.inl (lk_w_inp hS hno hng h8 h4 hN hA hl hi hW hU (Or.inl h))
      · exact Or.inl (lk_w_inp hS hno hng h8 h4 hN hA hl hi hW hU (Or.inr h))
      · exact lk_w_d5 hS hno hng h8 h4 hN hA hl hi hW hU h
      · exact Or.inl (lk_w_d6 hS hno hng h8 h4 hN hA hl hi hW hU h)
      · exact Or.inl (lk_w_d7 hS hno hng h8 h4 hN hA hl hi hW hU h)
      · exact Or.inl (lk_w_ovl hS hno hng h8 h4 hN hA hl hi hW hU h)
      · exact Or.inl (lk_w_ove hS hno hng h8 h4 hN hA hl hi hW hU h)
    rcases st with ⟨C0', C1', V', L', D', G0', GE', IV', ct, oa, vm, lm, dt, gs, ge, xv, os, yg0, yg1, yv, yl, d0, d1, d2, d3, d4, d5, d6, d7, d8, d9, W1, U1, k2⟩ | f1
    · obtain ⟨b, C0n, C1n, Vn, Ln, Dn, G0n, GEn, IVn, ctn, oan, vmn, lmn, dtn, gsn, gen, xvn, osn, yg0n, yg1n, yvn, yln, n0, n1, n2, n3, n4, n5, n6, n7, n8, n9, j1, j2⟩ := ih (i + 1) (by omega) C0' C1' V' L' D' G0' GE' IV' ct oa vm lm dt gs ge xv os yg0 yg1 yv yl d0 d1 d2 d3 d4 d5 d6 d7 d8 d9 W1 U1
      exact ⟨b, C0n, C1n, Vn, Ln, Dn, G0n, GEn, IVn, ctn, oan, vmn, lmn, dtn, gsn, gen, xvn, osn, yg0n, yg1n, yvn, yln, n0, n1, n2, n3, n4, n5, n6, n7, n8, n9, j1, fun post hp => br_f (nI_ge hi (by omega)) (k2 _ (br_f (by decide) (nm_r (nI_1 i) (j2 post hp))))⟩
    · exact ⟨false, C0, C1, V, L, D, G0, GE, IV, xcounter, xoutAlign, xoutVma, xoutLma, xoutDot, xgroupStart, xgroupEnd, xinVma, youtSize, ygStart, ygEnd, yinVma, yinLma, c0, c1, g0, yge, grp, kk, dot, vma, lma, ing, fun z => Bool.noConfusion z, fun post hp => br_f (nI_ge hi (by omega)) (f1 _ (br_t rfl hp))⟩
theorem lx_as2 {post : St2 → Prop} {ns no ng ni nb nr : Nat} {xphase xopenOut xopenGroup : Int32} {xregionSize xcounter xmemory xstmtOp xstmtA xstmtB xstmtOwner xoutRegion xoutLoaded xoutGroup xoutAlign xoutVma xoutLma xoutDot xgroupStart xgroupEnd xgroupResident xinKind xinId xinAlign xinSize xinFirstByte xinStmt xinLive xinVma xfedBytes xrelocOwner xrelocOffset xrelocType xrelocTarget xrelocAddend : Nat → Int32} {st : Nat → Int32} (hi : ni ≤ 16) (hn : ns ≤ 32) (e : st = lk_as xinStmt ni (lk_fm xstmtOp xstmtA xstmtB xinKind xinId ns)) (h : post (xphase, (nI ns), xopenOut, xopenGroup, (nI no), (nI ng), (nI ni), (nI nb), (nI nr), xregionSize, xcounter, xmemory, xstmtOp, xstmtA, xstmtB, xstmtOwner, xoutRegion, xoutLoaded, xoutGroup, xoutAlign, xoutVma, xoutLma, xoutDot, xgroupStart, xgroupEnd, xgroupResident, xinKind, xinId, xinAlign, xinSize, xinFirstByte, st, xinLive, xinVma, xfedBytes, xrelocOwner, xrelocOffset, xrelocType, xrelocTarget, xrelocAddend)) : wpX_assignSections post (xphase, (nI ns), xopenOut, xopenGroup, (nI no), (nI ng), (nI ni), (nI nb), (nI nr), xregionSize, xcounter, xmemory, xstmtOp, xstmtA, xstmtB, xstmtOwner, xoutRegion, xoutLoaded, xoutGroup, xoutAlign, xoutVma, xoutLma, xoutDot, xgroupStart, xgroupEnd, xgroupResident, xinKind, xinId, xinAlign, xinSize, xinFirstByte, xinStmt, xinLive, xinVma, xfedBytes, xrelocOwner, xrelocOffset, xrelocType, xrelocTarget, xrelocAddend) := by
  subst e
  exact lx_as hi hn h
theorem lx_live2 {post : St2 → Prop} {ns no ng ni nb nr : Nat} {xphase xopenOut xopenGroup : Int32} {xregionSize xcounter xmemory xstmtOp xstmtA xstmtB xstmtOwner xoutRegion xoutLoaded xoutGroup xoutAlign xoutVma xoutLma xoutDot xgroupStart xgroupEnd xgroupResident xinKind xinId xinAlign xinSize xinFirstByte xinStmt xinLive xinVma xfedBytes xrelocOwner xrelocOffset xrelocType xrelocTarget xrelocAddend : Nat → Int32} {gc : Int32} {lv : Nat → Int32} (hq : lk_hq ni nr xrelocOwner xrelocTarget) (ht : lk_ht ni xinStmt) (e : lv = lk_lv xstmtOp xinStmt xrelocOwner xrelocTarget gc ni nr xinLive) (h : post (xphase, (nI ns), xopenOut, xopenGroup, (nI no), (nI ng), (nI ni), (nI nb), (nI nr), xregionSize, xcounter, xmemory, xstmtOp, xstmtA, xstmtB, xstmtOwner, xoutRegion, xoutLoaded, xoutGroup, xoutAlign, xoutVma, xoutLma, xoutDot, xgroupStart, xgroupEnd, xgroupResident, xinKind, xinId, xinAlign, xinSize, xinFirstByte, xinStmt, lv, xinVma, xfedBytes, xrelocOwner, xrelocOffset, xrelocType, xrelocTarget, xrelocAddend)) : wpX_markLive post (xphase, (nI ns), xopenOut, xopenGroup, (nI no), (nI ng), (nI ni), (nI nb), (nI nr), xregionSize, xcounter, xmemory, xstmtOp, xstmtA, xstmtB, xstmtOwner, xoutRegion, xoutLoaded, xoutGroup, xoutAlign, xoutVma, xoutLma, xoutDot, xgroupStart, xgroupEnd, xgroupResident, xinKind, xinId, xinAlign, xinSize, xinFirstByte, xinStmt, xinLive, xinVma, xfedBytes, xrelocOwner, xrelocOffset, xrelocType, xrelocTarget, xrelocAddend) gc := by
  subst e
  exact lx_live hq ht h
theorem lk_pa {ns no ng ni nb nr : Nat} {xphase xopenOut xopenGroup : Int32} {xregionSize xcounter xmemory xstmtOp xstmtA xstmtB xstmtOwner xoutRegion xoutLoaded xoutGroup xoutAlign xoutVma xoutLma xoutDot xgroupStart xgroupEnd xgroupResident xinKind xinId xinAlign xinSize xinFirstByte xinStmt xinLive xinVma xfedBytes xrelocOwner xrelocOffset xrelocType xrelocTarget xrelocAddend ystOut youtSize ygStart ygEnd yinBss yinLen yinVma yinLma : Nat → Int32} (hS : ∀ i, i < ns → lk_sc xstmtOp xstmtA xstmtB xstmtOwner ystOut xoutRegion xoutLoaded xoutGroup i) (hno : no = lk_no xstmtOp ns) (hng : ng = lk_ng xstmtOp ns) (h8 : no ≤ 8) (h4 : ng ≤ 4) (hN : lk_N ni nb xinKind xinAlign xinSize xinFirstByte yinBss yinLen) (hA : lk_hA ni ns xstmtOp xinStmt xinLive) (hl : lk_hl ni no ns xinStmt xinLive xstmtOwner ystOut) : ∃ (b : Bool) (C0' C1' : Nat) (V' L' D' G0' GE' IV' : Nat → Nat) (ct oa vm lm dt gs ge xv os yg0 yg1 yv yl : Nat → Int32) (d0 d1 d2 d3 d4 d5 d6 d7 d8 d9 : Int32), (b = true → lk_WI ni xstmtOp xoutRegion xoutLoaded xinStmt xinLive (fun s => (xstmtOwner (xinStmt s).toNatClampNeg).toNatClampNeg) (fun s => (xinSize s).toNatClampNeg) ns C0' C1' V' L' D' G0' GE' IV' ct vm lm dt gs ge xv os yg0 yg1 yv yl d0 d1 d2 d3 d4 d5 d6 d7 d8 d9 ∧ lk_U xstmtOp xoutRegion xoutGroup ns C1' V' D' G0' GE') ∧
      (∀ post : Int32 → St2 → Prop, post (if b = true then 1 else 0) (xphase, (nI ns), xopenOut, xopenGroup, (nI no), (nI ng), (nI ni), (nI nb), (nI nr), xregionSize, ct, xmemory, xstmtOp, xstmtA, xstmtB, xstmtOwner, xoutRegion, xoutLoaded, xoutGroup, oa, vm, lm, dt, gs, ge, xgroupResident, xinKind, xinId, xinAlign, xinSize, xinFirstByte, xinStmt, xinLive, xv, xfedBytes, xrelocOwner, xrelocOffset, xrelocType, xrelocTarget, xrelocAddend) → wpX_placeAll post (xphase, (nI ns), xopenOut, xopenGroup, (nI no), (nI ng), (nI ni), (nI nb), (nI nr), xregionSize, xcounter, xmemory, xstmtOp, xstmtA, xstmtB, xstmtOwner, xoutRegion, xoutLoaded, xoutGroup, xoutAlign, xoutVma, xoutLma, xoutDot, xgroupStart, xgroupEnd, xgroupResident, xinKind, xinId, xinAlign, xinSize, xinFirstByte, xinStmt, xinLive, xinVma, xfedBytes, xrelocOwner, xrelocOffset, xrelocType, xrelocTarget, xrelocAddend)) := by
  obtain ⟨b, C0n, C1n, Vn, Ln, Dn, G0n, GEn, IVn, ctn, oan, vmn, lmn, dtn, gsn, gen, xvn, osn, yg0n, yg1n, yvn, yln, n0, n1, n2, n3, n4, n5, n6, n7, n8, n9, j1, j2⟩ := lk_walk (nr := nr) (xphase := xphase) (xopenOut := xopenOut) (xopenGroup := xopenGroup) (xregionSize := xregionSize) (xmemory := xmemory) (xgroupResident := xgroupResident) (xinId := xinId) (xfedBytes := xfedBytes) (xrelocOwner := xrelocOwner) (xrelocOffset := xrelocOffset) (xrelocType := xrelocType) (xrelocTarget := xrelocTarget) (xrelocAddend := xrelocAddend) hS hno hng h8 h4 hN hA hl ns 0 (by omega) 0 256 (fun _ => 0) (fun _ => 0) (fun _ => 0) (fun _ => 0) (fun _ => 0) (fun _ => 0) (upd (upd xcounter 0 0) 1 256) xoutAlign xoutVma xoutLma xoutDot xgroupStart xgroupEnd xinVma youtSize ygStart ygEnd yinVma yinLma 0 256 0 0 (-1) (-1) 0 0 0 0 (lk_WI_0 (by rw [pk_un (by decide), pk_us]) pk_us) lk_G2_0
  exact ⟨b, C0n, C1n, Vn, Ln, Dn, G0n, GEn, IVn, ctn, oan, vmn, lmn, dtn, gsn, gen, xvn, osn, yg0n, yg1n, yvn, yln, n0, n1, n2, n3, n4, n5, n6, n7, n8, n9, j1, fun post hp => nm_e (nm_e ⟨_, j2 post hp⟩)⟩
end
end
section

section
def lk_hk (no : Nat) (rg vm lm : Nat → Int32) (V L D : Nat → Nat) : Prop := no ≤ 8 ∧ ∀ k, k < no → (rg k = 0 ∨ rg k = 1) ∧ vm k = nI (V k) ∧ lm k = nI (L k) ∧ V k ≤ D k ∧ D k < 2 ^ 29 ∧ L k + (D k - V k) < 2 ^ 29 ∧ (rg k = 0 → L k = V k)
theorem lx_re {post : Int32 → Prop} {ns no ng ni nb nr : Nat} {xphase xopenOut xopenGroup : Int32} {xregionSize xcounter xmemory xstmtOp xstmtA xstmtB xstmtOwner xoutRegion xoutLoaded xoutGroup xoutAlign xoutVma xoutLma xoutDot xgroupStart xgroupEnd xgroupResident xinKind xinId xinAlign xinSize xinFirstByte xinStmt xinLive xinVma xfedBytes xrelocOwner xrelocOffset xrelocType xrelocTarget xrelocAddend : Nat → Int32} {R0 R1 : Nat} {z : Int32} (hZ : lk_Z xregionSize R0 R1) (hz : z = 0 ∨ z = 1) (h : post (nI (if z = 0 then R0 else 256 + R1))) : wpX_regionEnd post (xphase, (nI ns), xopenOut, xopenGroup, (nI no), (nI ng), (nI ni), (nI nb), (nI nr), xregionSize, xcounter, xmemory, xstmtOp, xstmtA, xstmtB, xstmtOwner, xoutRegion, xoutLoaded, xoutGroup, xoutAlign, xoutVma, xoutLma, xoutDot, xgroupStart, xgroupEnd, xgroupResident, xinKind, xinId, xinAlign, xinSize, xinFirstByte, xinStmt, xinLive, xinVma, xfedBytes, xrelocOwner, xrelocOffset, xrelocType, xrelocTarget, xrelocAddend) z := by
  rcases hz with e | e
  · subst e
    rw [if_pos rfl] at h
    refine br_t rfl ⟨vp_in_iff.mpr (by decide), ?_⟩
    rw [lk_e0, hZ.1, Int32.zero_add]
    exact h
  · subst e
    rw [if_neg (by decide)] at h
    refine br_f (by decide) ⟨vp_in_iff.mpr (by decide), ?_⟩
    rw [lk_e1, hZ.2.1, lk_256]
    exact h
theorem lx_le {post : Int32 → Prop} {ns no ng ni nb nr : Nat} {xphase xopenOut xopenGroup : Int32} {xregionSize xcounter xmemory xstmtOp xstmtA xstmtB xstmtOwner xoutRegion xoutLoaded xoutGroup xoutAlign xoutVma xoutLma xoutDot xgroupStart xgroupEnd xgroupResident xinKind xinId xinAlign xinSize xinFirstByte xinStmt xinLive xinVma xfedBytes xrelocOwner xrelocOffset xrelocType xrelocTarget xrelocAddend : Nat → Int32} {k l d v : Nat} (hk : k < 8) (el : xoutLma k = nI l) (ed : xoutDot k = nI d) (ev : xoutVma k = nI v) (hvd : v ≤ d) (h : post (nI (l + (d - v)))) : wpX_loadEnd post (xphase, (nI ns), xopenOut, xopenGroup, (nI no), (nI ng), (nI ni), (nI nb), (nI nr), xregionSize, xcounter, xmemory, xstmtOp, xstmtA, xstmtB, xstmtOwner, xoutRegion, xoutLoaded, xoutGroup, xoutAlign, xoutVma, xoutLma, xoutDot, xgroupStart, xgroupEnd, xgroupResident, xinKind, xinId, xinAlign, xinSize, xinFirstByte, xinStmt, xinLive, xinVma, xfedBytes, xrelocOwner, xrelocOffset, xrelocType, xrelocTarget, xrelocAddend) (nI k) := by
  have e : (nI k).toNatClampNeg = k := nI_clamp (by omega)
  have v8 : vp_in (nI k) 8 := vp_in_nI hk (by omega)
  refine ⟨v8, v8, v8, ?_⟩
  rw [e, el, ed, ev, pk_sub hvd]
  show post (nI l + nI (d - v))
  rw [nI_add]
  exact h
theorem lx_ov {post : Int32 → Prop} {ns no ng ni nb nr : Nat} {xphase xopenOut xopenGroup : Int32} {xregionSize xcounter xmemory xstmtOp xstmtA xstmtB xstmtOwner xoutRegion xoutLoaded xoutGroup xoutAlign xoutVma xoutLma xoutDot xgroupStart xgroupEnd xgroupResident xinKind xinId xinAlign xinSize xinFirstByte xinStmt xinLive xinVma xfedBytes xrelocOwner xrelocOffset xrelocType xrelocTarget xrelocAddend : Nat → Int32} {R0 R1 : Nat} {V L D : Nat → Nat} (hZ : lk_Z xregionSize R0 R1) (hk : lk_hk no xoutRegion xoutVma xoutLma V L D) (hd : ∀ k, k < no → xoutDot k = nI (D k)) (h1 : lk_ex (lk_ov R0 R1 xoutRegion xoutLoaded V L D) no 0 = true → post 1) (h0 : lk_ex (lk_ov R0 R1 xoutRegion xoutLoaded V L D) no 0 = false → post 0) : wpX_overflows post (xphase, (nI ns), xopenOut, xopenGroup, (nI no), (nI ng), (nI ni), (nI nb), (nI nr), xregionSize, xcounter, xmemory, xstmtOp, xstmtA, xstmtB, xstmtOwner, xoutRegion, xoutLoaded, xoutGroup, xoutAlign, xoutVma, xoutLma, xoutDot, xgroupStart, xgroupEnd, xgroupResident, xinKind, xinId, xinAlign, xinSize, xinFirstByte, xinStmt, xinLive, xinVma, xfedBytes, xrelocOwner, xrelocOffset, xrelocType, xrelocTarget, xrelocAddend) := by
  obtain ⟨h8, hk⟩ := hk
  have hZ2 := hZ
  obtain ⟨_, _, z1, z2, z3, z4⟩ := hZ2
  have H : ∀ d k, k + d = no → (lk_ex (lk_ov R0 R1 xoutRegion xoutLoaded V L D) d k = true → post 1) → (lk_ex (lk_ov R0 R1 xoutRegion xoutLoaded V L D) d k = false → post 0) → wX_overflows_8 post (nI R0) xphase (nI ns) xopenOut xopenGroup (nI no) (nI ng) (nI ni) (nI nb) (nI nr) xregionSize xcounter xmemory xstmtOp xstmtA xstmtB xstmtOwner xoutRegion xoutLoaded xoutGroup xoutAlign xoutVma xoutLma xoutDot xgroupStart xgroupEnd xgroupResident xinKind xinId xinAlign xinSize xinFirstByte xinStmt xinLive xinVma xfedBytes xrelocOwner xrelocOffset xrelocType xrelocTarget xrelocAddend (d + 1) (nI k) := by
    intro d
    induction d with
    | zero => intro k hkd _ h0; exact br_t (nI_le (by omega) (by omega)) (h0 rfl)
    | succ d ih =>
      intro k hkd h1 h0
      obtain ⟨r1, e1, e2, e3, e4, e5, e6⟩ := hk k (by omega)
      have e7 := hd k (by omega)
      have e : (nI k).toNatClampNeg = k := nI_clamp (by omega)
      have v8 : vp_in (nI k) 8 := vp_in_nI (by omega) (by omega)
      have hn : ¬ lk_ov R0 R1 xoutRegion xoutLoaded V L D k = true → wX_overflows_8 post (nI R0) xphase (nI ns) xopenOut xopenGroup (nI no) (nI ng) (nI ni) (nI nb) (nI nr) xregionSize xcounter xmemory xstmtOp xstmtA xstmtB xstmtOwner xoutRegion xoutLoaded xoutGroup xoutAlign xoutVma xoutLma xoutDot xgroupStart xgroupEnd xgroupResident xinKind xinId xinAlign xinSize xinFirstByte xinStmt xinLive xinVma xfedBytes xrelocOwner xrelocOffset xrelocType xrelocTarget xrelocAddend (d + 1) (nI (k + 1)) := by
        intro z
        rw [lk_ex_f z] at h1 h0
        exact ih (k + 1) (by omega) h1 h0
      have hy : lk_ov R0 R1 xoutRegion xoutLoaded V L D k = true → post 1 := fun z => h1 (lk_ex_t z)
      obtain ⟨rg, hrg⟩ : ∃ rg, rg = if xoutRegion k = 0 then R0 else 256 + R1 := ⟨_, rfl⟩
      have hrg2 : rg ≤ 384 := by rw [hrg]; split <;> omega
      refine br_f (nI_ge (by omega) (by omega)) ⟨v8, v8, lx_re hZ (by rw [e]; exact r1) ?_⟩
      rw [e, ← hrg]
      by_cases a : D k ≤ rg
      · refine br_t (by rw [e7, nI_leI (by omega) (by omega)]; exact a) ⟨v8, ?_⟩
        by_cases b : xoutLoaded k = 1
        · refine br_t b (lx_le (by omega) e2 e7 e1 e3 ?_)
          by_cases c : L k + (D k - V k) ≤ R0
          · refine br_t (nI_le c (by omega)) (nm_r (nI_1 k) (hn (fun z => ?_)))
            rcases of_decide_eq_true z with y | y
            · rw [← hrg] at y; omega
            · have := y.2; omega
          · exact br_f (nI_ge (by omega) (by omega)) (hy (decide_eq_true (Or.inr ⟨b, by omega⟩)))
        · refine br_f b (nm_r (nI_1 k) (hn (fun z => ?_)))
          rcases of_decide_eq_true z with y | y
          · rw [← hrg] at y; omega
          · exact b y.1
      · exact br_f (by rw [e7, nI_leI (by omega) (by omega)]; exact a) (hy (decide_eq_true (Or.inl (by rw [← hrg]; omega))))
  unfold wpX_overflows
  refine lx_re hZ (Or.inl rfl) ?_
  rw [if_pos rfl]
  exact ⟨_, H no 0 (by omega) h1 h0⟩
def lk_f1 (gp : Nat → Int32) (no : Nat) (z : Int32) : Int32 := lk_ff (fun k => decide (gp k = z)) no 0
theorem lx_f1 {post : Int32 → Prop} {ns no ng ni nb nr : Nat} {xphase xopenOut xopenGroup : Int32} {xregionSize xcounter xmemory xstmtOp xstmtA xstmtB xstmtOwner xoutRegion xoutLoaded xoutGroup xoutAlign xoutVma xoutLma xoutDot xgroupStart xgroupEnd xgroupResident xinKind xinId xinAlign xinSize xinFirstByte xinStmt xinLive xinVma xfedBytes xrelocOwner xrelocOffset xrelocType xrelocTarget xrelocAddend : Nat → Int32} {z : Int32} (h8 : no ≤ 8) (h : post (lk_f1 xoutGroup no z)) : wpX_firstMember post (xphase, (nI ns), xopenOut, xopenGroup, (nI no), (nI ng), (nI ni), (nI nb), (nI nr), xregionSize, xcounter, xmemory, xstmtOp, xstmtA, xstmtB, xstmtOwner, xoutRegion, xoutLoaded, xoutGroup, xoutAlign, xoutVma, xoutLma, xoutDot, xgroupStart, xgroupEnd, xgroupResident, xinKind, xinId, xinAlign, xinSize, xinFirstByte, xinStmt, xinLive, xinVma, xfedBytes, xrelocOwner, xrelocOffset, xrelocType, xrelocTarget, xrelocAddend) z := by
  have H : ∀ d k, k + d = no → post (lk_ff (fun k => decide (xoutGroup k = z)) d k) → wX_firstMember_2 post z xphase (nI ns) xopenOut xopenGroup (nI no) (nI ng) (nI ni) (nI nb) (nI nr) xregionSize xcounter xmemory xstmtOp xstmtA xstmtB xstmtOwner xoutRegion xoutLoaded xoutGroup xoutAlign xoutVma xoutLma xoutDot xgroupStart xgroupEnd xgroupResident xinKind xinId xinAlign xinSize xinFirstByte xinStmt xinLive xinVma xfedBytes xrelocOwner xrelocOffset xrelocType xrelocTarget xrelocAddend (d + 1) (nI k) := by
    intro d
    induction d with
    | zero => intro k hk h; exact br_t (nI_le (by omega) (by omega)) h
    | succ d ih =>
      intro k hk h
      have e : (nI k).toNatClampNeg = k := nI_clamp (by omega)
      have v8 : vp_in (nI k) 8 := vp_in_nI (by omega) (by omega)
      refine br_f (nI_ge (by omega) (by omega)) ⟨v8, ?_⟩
      by_cases a : xoutGroup k = z
      · rw [lk_ff_t (show (fun k => decide (xoutGroup k = z)) k = true from decide_eq_true a)] at h
        exact br_t (by rw [e]; exact a) h
      · rw [lk_ff_f (show ¬ (fun k => decide (xoutGroup k = z)) k = true from fun y => a (of_decide_eq_true y))] at h
        exact br_f (by rw [e]; exact a) (nm_r (nI_1 k) (ih (k + 1) (by omega) h))
  exact ⟨_, H no 0 (by omega) h⟩
theorem lx_res {post : St2 → Prop} {ns no ng ni nb nr : Nat} {xphase xopenOut xopenGroup : Int32} {xregionSize xcounter xmemory xstmtOp xstmtA xstmtB xstmtOwner xoutRegion xoutLoaded xoutGroup xoutAlign xoutVma xoutLma xoutDot xgroupStart xgroupEnd xgroupResident xinKind xinId xinAlign xinSize xinFirstByte xinStmt xinLive xinVma xfedBytes xrelocOwner xrelocOffset xrelocType xrelocTarget xrelocAddend : Nat → Int32} (h8 : no ≤ 8) (h4 : ng ≤ 4) (h : post (xphase, (nI ns), xopenOut, xopenGroup, (nI no), (nI ng), (nI ni), (nI nb), (nI nr), xregionSize, xcounter, xmemory, xstmtOp, xstmtA, xstmtB, xstmtOwner, xoutRegion, xoutLoaded, xoutGroup, xoutAlign, xoutVma, xoutLma, xoutDot, xgroupStart, xgroupEnd, (lk_as xgroupResident ng (fun g => lk_f1 xoutGroup no (nI g))), xinKind, xinId, xinAlign, xinSize, xinFirstByte, xinStmt, xinLive, xinVma, xfedBytes, xrelocOwner, xrelocOffset, xrelocType, xrelocTarget, xrelocAddend)) : wpX_makeFirstMembersResident post (xphase, (nI ns), xopenOut, xopenGroup, (nI no), (nI ng), (nI ni), (nI nb), (nI nr), xregionSize, xcounter, xmemory, xstmtOp, xstmtA, xstmtB, xstmtOwner, xoutRegion, xoutLoaded, xoutGroup, xoutAlign, xoutVma, xoutLma, xoutDot, xgroupStart, xgroupEnd, xgroupResident, xinKind, xinId, xinAlign, xinSize, xinFirstByte, xinStmt, xinLive, xinVma, xfedBytes, xrelocOwner, xrelocOffset, xrelocType, xrelocTarget, xrelocAddend) := by
  have H : ∀ d g, g + d = ng → wX_makeFirstMembersResident_2 post xphase (nI ns) xopenOut xopenGroup (nI no) (nI ng) (nI ni) (nI nb) (nI nr) (d + 1) (nI g) xregionSize xcounter xmemory xstmtOp xstmtA xstmtB xstmtOwner xoutRegion xoutLoaded xoutGroup xoutAlign xoutVma xoutLma xoutDot xgroupStart xgroupEnd (lk_as xgroupResident g (fun g => lk_f1 xoutGroup no (nI g))) xinKind xinId xinAlign xinSize xinFirstByte xinStmt xinLive xinVma xfedBytes xrelocOwner xrelocOffset xrelocType xrelocTarget xrelocAddend := by
    intro d
    induction d with
    | zero =>
      intro g hg
      have e1 : g = ng := hg
      subst e1
      exact br_t (nI_le (by omega) (by omega)) h
    | succ d ih =>
      intro g hg
      exact br_f (nI_ge (by omega) (by omega)) (lx_f1 h8 ⟨vp_in_nI (by omega) (by omega), nm_r (by rw [nI_clamp (by omega)]; exact lk_as_s rfl) (nm_r (nI_1 g) (ih (g + 1) (by omega)))⟩)
  have H2 := H ng 0 (by omega)
  rw [lk_as_0] at H2
  exact ⟨_, H2⟩
def lk_r1 (gp : Nat → Int32) (no k : Nat) : Int32 := if ¬ gp k = -1 ∧ lk_f1 gp no (gp k) = nI k then 1 else 0
end
end
section

section
theorem lx_fill2 {post : St2 → Prop} {xphase xstmtCount xopenOut xopenGroup xoutCount xgroupCount xinCount xbyteCount xrelocCount : Int32} {xregionSize xcounter xmemory xstmtOp xstmtA xstmtB xstmtOwner xoutRegion xoutLoaded xoutGroup xoutAlign xoutVma xoutLma xoutDot xgroupStart xgroupEnd xgroupResident xinKind xinId xinAlign xinSize xinFirstByte xinStmt xinLive xinVma xfedBytes xrelocOwner xrelocOffset xrelocType xrelocTarget xrelocAddend : Nat → Int32} {s e : Nat} {v z w : Int32} (hz : z = nI s) (hw : w = nI e) (he : e ≤ 384) (hs : s < 2 ^ 31) (h : post (xphase, xstmtCount, xopenOut, xopenGroup, xoutCount, xgroupCount, xinCount, xbyteCount, xrelocCount, xregionSize, xcounter, (lk_wr xmemory s e (fun _ => v)), xstmtOp, xstmtA, xstmtB, xstmtOwner, xoutRegion, xoutLoaded, xoutGroup, xoutAlign, xoutVma, xoutLma, xoutDot, xgroupStart, xgroupEnd, xgroupResident, xinKind, xinId, xinAlign, xinSize, xinFirstByte, xinStmt, xinLive, xinVma, xfedBytes, xrelocOwner, xrelocOffset, xrelocType, xrelocTarget, xrelocAddend)) : wpX_fill post (xphase, xstmtCount, xopenOut, xopenGroup, xoutCount, xgroupCount, xinCount, xbyteCount, xrelocCount, xregionSize, xcounter, xmemory, xstmtOp, xstmtA, xstmtB, xstmtOwner, xoutRegion, xoutLoaded, xoutGroup, xoutAlign, xoutVma, xoutLma, xoutDot, xgroupStart, xgroupEnd, xgroupResident, xinKind, xinId, xinAlign, xinSize, xinFirstByte, xinStmt, xinLive, xinVma, xfedBytes, xrelocOwner, xrelocOffset, xrelocType, xrelocTarget, xrelocAddend) z w v := by
  subst hz
  subst hw
  exact lx_fill he hs h
theorem lx_lmaI {post : Int32 → Prop} {ns no ng ni nb nr : Nat} {xphase xopenOut xopenGroup : Int32} {xregionSize xcounter xmemory xstmtOp xstmtA xstmtB xstmtOwner xoutRegion xoutLoaded xoutGroup xoutAlign xoutVma xoutLma xoutDot xgroupStart xgroupEnd xgroupResident xinKind xinId xinAlign xinSize xinFirstByte xinStmt xinLive xinVma xfedBytes xrelocOwner xrelocOffset xrelocType xrelocTarget xrelocAddend : Nat → Int32} {s q k : Nat} {z : Int32} (hz : z = nI s) (hs : s < 16) (hq : q < 32) (hk : k < 8) (es : xinStmt s = nI q) (eq : xstmtOwner q = nI k) (h : post (xinVma s + xoutLma k - xoutVma k)) : wpX_lmaOfLive post (xphase, (nI ns), xopenOut, xopenGroup, (nI no), (nI ng), (nI ni), (nI nb), (nI nr), xregionSize, xcounter, xmemory, xstmtOp, xstmtA, xstmtB, xstmtOwner, xoutRegion, xoutLoaded, xoutGroup, xoutAlign, xoutVma, xoutLma, xoutDot, xgroupStart, xgroupEnd, xgroupResident, xinKind, xinId, xinAlign, xinSize, xinFirstByte, xinStmt, xinLive, xinVma, xfedBytes, xrelocOwner, xrelocOffset, xrelocType, xrelocTarget, xrelocAddend) z := by
  subst hz
  have e : (nI s).toNatClampNeg = s := nI_clamp (by omega)
  have e2 : (nI q).toNatClampNeg = q := nI_clamp (by omega)
  have e3 : (nI k).toNatClampNeg = k := nI_clamp (by omega)
  have v16 : vp_in (nI s) 16 := vp_in_nI hs (by omega)
  have v32 : vp_in (xinStmt (nI s).toNatClampNeg) 32 := by rw [e, es]; exact vp_in_nI hq (by omega)
  have eo : xstmtOwner (xinStmt (nI s).toNatClampNeg).toNatClampNeg = nI k := by rw [e, es, e2, eq]
  have v8 : vp_in (xstmtOwner (xinStmt (nI s).toNatClampNeg).toNatClampNeg) 8 := by rw [eo]; exact vp_in_nI hk (by omega)
  refine ⟨v16, v32, v16, v8, v8, ?_⟩
  rw [eo, e3, e]
  exact h
theorem lx_lma {post : Int32 → Prop} {ns no ng ni nb nr : Nat} {xphase xopenOut xopenGroup : Int32} {xregionSize xcounter xmemory xstmtOp xstmtA xstmtB xstmtOwner xoutRegion xoutLoaded xoutGroup xoutAlign xoutVma xoutLma xoutDot xgroupStart xgroupEnd xgroupResident xinKind xinId xinAlign xinSize xinFirstByte xinStmt xinLive xinVma xfedBytes xrelocOwner xrelocOffset xrelocType xrelocTarget xrelocAddend : Nat → Int32} {s q k iv l v : Nat} {z : Int32} (hz : z = nI s) (hs : s < 16) (hq : q < 32) (hk : k < 8) (es : xinStmt s = nI q) (eq : xstmtOwner q = nI k) (ei : xinVma s = nI iv) (el : xoutLma k = nI l) (ev : xoutVma k = nI v) (hv : v ≤ iv) (h : post (nI (l + (iv - v)))) : wpX_lmaOfLive post (xphase, (nI ns), xopenOut, xopenGroup, (nI no), (nI ng), (nI ni), (nI nb), (nI nr), xregionSize, xcounter, xmemory, xstmtOp, xstmtA, xstmtB, xstmtOwner, xoutRegion, xoutLoaded, xoutGroup, xoutAlign, xoutVma, xoutLma, xoutDot, xgroupStart, xgroupEnd, xgroupResident, xinKind, xinId, xinAlign, xinSize, xinFirstByte, xinStmt, xinLive, xinVma, xfedBytes, xrelocOwner, xrelocOffset, xrelocType, xrelocTarget, xrelocAddend) z := by
  refine lx_lmaI hz hs hq hk es eq ?_
  rw [ei, el, ev, nI_add, pk_sub (by omega), show iv + l - v = l + (iv - v) by omega]
  exact h
theorem lx_wf {post : St2 → Prop} {ns no ng ni nb nr : Nat} {xphase xopenOut xopenGroup : Int32} {xregionSize xcounter xmemory xstmtOp xstmtA xstmtB xstmtOwner xoutRegion xoutLoaded xoutGroup xoutAlign xoutVma xoutLma xoutDot xgroupStart xgroupEnd xgroupResident xinKind xinId xinAlign xinSize xinFirstByte xinStmt xinLive xinVma xfedBytes xrelocOwner xrelocOffset xrelocType xrelocTarget xrelocAddend : Nat → Int32} {s q k iv l v Z T : Nat} (hs : s < 16) (hq : q < 32) (hk : k < 8) (es : xinStmt s = nI q) (eq : xstmtOwner q = nI k) (ei : xinVma s = nI iv) (el : xoutLma k = nI l) (ev : xoutVma k = nI v) (hv : v ≤ iv) (ez : xinSize s = nI Z) (et : xinFirstByte s = nI T) (hT : T + Z ≤ 256) (hl : l + (iv - v) + Z ≤ 384) (h : post (xphase, (nI ns), xopenOut, xopenGroup, (nI no), (nI ng), (nI ni), (nI nb), (nI nr), xregionSize, xcounter, (lk_wr xmemory (l + (iv - v)) (l + (iv - v) + Z) (fun j => xfedBytes (xinFirstByte s + nI (j - (l + (iv - v)))).toNatClampNeg)), xstmtOp, xstmtA, xstmtB, xstmtOwner, xoutRegion, xoutLoaded, xoutGroup, xoutAlign, xoutVma, xoutLma, xoutDot, xgroupStart, xgroupEnd, xgroupResident, xinKind, xinId, xinAlign, xinSize, xinFirstByte, xinStmt, xinLive, xinVma, xfedBytes, xrelocOwner, xrelocOffset, xrelocType, xrelocTarget, xrelocAddend)) : wpX_writeFedBytes post (xphase, (nI ns), xopenOut, xopenGroup, (nI no), (nI ng), (nI ni), (nI nb), (nI nr), xregionSize, xcounter, xmemory, xstmtOp, xstmtA, xstmtB, xstmtOwner, xoutRegion, xoutLoaded, xoutGroup, xoutAlign, xoutVma, xoutLma, xoutDot, xgroupStart, xgroupEnd, xgroupResident, xinKind, xinId, xinAlign, xinSize, xinFirstByte, xinStmt, xinLive, xinVma, xfedBytes, xrelocOwner, xrelocOffset, xrelocType, xrelocTarget, xrelocAddend) (nI s) := by
  have e : (nI s).toNatClampNeg = s := nI_clamp (by omega)
  have v16 : vp_in (nI s) 16 := vp_in_nI hs (by omega)
  unfold wpX_writeFedBytes
  refine lx_lma rfl hs hq hk es eq ei el ev hv ⟨v16, nm_r (e' := nI Z) (by rw [e, ez]) ?_⟩
  generalize l + (iv - v) = a at h hl
  have H : ∀ d i, i + d = Z → wX_writeFedBytes_16 post (nI s) (nI a) (nI Z) xphase (nI ns) xopenOut xopenGroup (nI no) (nI ng) (nI ni) (nI nb) (nI nr) (d + 1) (nI i) xregionSize xcounter (lk_wr xmemory a (a + i) (fun j => xfedBytes (xinFirstByte s + nI (j - a)).toNatClampNeg)) xstmtOp xstmtA xstmtB xstmtOwner xoutRegion xoutLoaded xoutGroup xoutAlign xoutVma xoutLma xoutDot xgroupStart xgroupEnd xgroupResident xinKind xinId xinAlign xinSize xinFirstByte xinStmt xinLive xinVma xfedBytes xrelocOwner xrelocOffset xrelocType xrelocTarget xrelocAddend := by
    intro d
    induction d with
    | zero =>
      intro i hi
      have e1 : i = Z := hi
      subst e1
      exact br_t (nI_le (by omega) (by omega)) h
    | succ d ih =>
      intro i hi
      refine br_f (nI_ge (by omega) (by omega)) ⟨v16, by rw [e, et, nI_add]; exact vp_in_nI (by omega) (by omega), by rw [nI_add]; exact vp_in_nI (by omega) (by omega), nm_r ?_ (nm_r (nI_1 i) (ih (i + 1) (by omega)))⟩
      rw [nI_add, nI_clamp (by omega), e]
      refine lk_wr_s (by omega) ?_
      show _ = xfedBytes (xinFirstByte s + nI (a + i - a)).toNatClampNeg
      rw [Nat.add_sub_cancel_left]
  have H2 := H Z 0 (by omega)
  rw [lk_wr_e (show a + 0 ≤ a from Nat.le_refl a)] at H2
  exact ⟨_, H2⟩
theorem lx_rv {post : Int32 → Prop} {ns no ng ni nb nr : Nat} {xphase xopenOut xopenGroup : Int32} {xregionSize xcounter xmemory xstmtOp xstmtA xstmtB xstmtOwner xoutRegion xoutLoaded xoutGroup xoutAlign xoutVma xoutLma xoutDot xgroupStart xgroupEnd xgroupResident xinKind xinId xinAlign xinSize xinFirstByte xinStmt xinLive xinVma xfedBytes xrelocOwner xrelocOffset xrelocType xrelocTarget xrelocAddend : Nat → Int32} {yv yl : Nat → Int32} {r o t q k : Nat} (hr : r < 32) (h16 : ni ≤ 16) (eo : xrelocOwner r = nI o) (ho : o < ni) (et : xrelocTarget r = nI t) (ht : t < ni) (hq : q < 32) (hk : k < 8) (es : xinStmt t = nI q) (eq : xstmtOwner q = nI k) (e1 : yv t = xinVma t) (e2 : yv o = xinVma o) (e3 : yl t = xinVma t + xoutLma k - xoutVma k) (h : post (lk_rv ni xrelocOwner xrelocOffset xrelocType xrelocTarget xrelocAddend yv yl r)) : wpX_relocValue post (xphase, (nI ns), xopenOut, xopenGroup, (nI no), (nI ng), (nI ni), (nI nb), (nI nr), xregionSize, xcounter, xmemory, xstmtOp, xstmtA, xstmtB, xstmtOwner, xoutRegion, xoutLoaded, xoutGroup, xoutAlign, xoutVma, xoutLma, xoutDot, xgroupStart, xgroupEnd, xgroupResident, xinKind, xinId, xinAlign, xinSize, xinFirstByte, xinStmt, xinLive, xinVma, xfedBytes, xrelocOwner, xrelocOffset, xrelocType, xrelocTarget, xrelocAddend) (nI r) := by
  have e : (nI r).toNatClampNeg = r := nI_clamp (by omega)
  have ec : (nI t).toNatClampNeg = t := nI_clamp (by omega)
  have eoc : (nI o).toNatClampNeg = o := nI_clamp (by omega)
  have v32 : vp_in (nI r) 32 := vp_in_nI hr (by omega)
  have v16 : vp_in (nI t) 16 := vp_in_nI (by omega) (by omega)
  have vo : vp_in (xrelocOwner (nI r).toNatClampNeg) 16 := by rw [e, eo]; exact vp_in_nI (by omega) (by omega)
  unfold lk_rv at h
  rw [et, if_neg (nI_ge ht (by omega)), ec] at h
  refine ⟨v32, nm_r (e' := nI t) (by rw [e, et]) ⟨v32, nm_r (e' := xrelocType r) (by rw [e]) ?_⟩⟩
  by_cases a : xrelocType r = 1
  · rw [if_pos a, e1] at h
    refine br_t a ⟨v16, v32, ?_⟩
    rw [ec, e]
    exact h
  · rw [if_neg a] at h
    refine br_f a ?_
    by_cases b : xrelocType r = 2
    · rw [if_pos b, e3] at h
      refine br_t b (lx_lmaI rfl (by omega) hq hk es eq ⟨v32, ?_⟩)
      rw [e]
      exact h
    · rw [if_neg b, e1, eo, eoc, e2] at h
      refine br_f b ⟨v16, v32, v32, vo, v32, ?_⟩
      rw [ec, e, eo, eoc]
      exact h
theorem lx_wr {post : St2 → Prop} {ns no ng ni nb nr : Nat} {xphase xopenOut xopenGroup : Int32} {xregionSize xcounter xmemory xstmtOp xstmtA xstmtB xstmtOwner xoutRegion xoutLoaded xoutGroup xoutAlign xoutVma xoutLma xoutDot xgroupStart xgroupEnd xgroupResident xinKind xinId xinAlign xinSize xinFirstByte xinStmt xinLive xinVma xfedBytes xrelocOwner xrelocOffset xrelocType xrelocTarget xrelocAddend : Nat → Int32} {yv yl : Nat → Int32} {r o f t q k q2 k2 iv l v : Nat} (hr : r < 32) (h16 : ni ≤ 16) (eo : xrelocOwner r = nI o) (ho : o < ni) (ef : xrelocOffset r = nI f) (et : xrelocTarget r = nI t) (ht : t < ni) (hq : q < 32) (hk : k < 8) (es : xinStmt t = nI q) (eq : xstmtOwner q = nI k) (e1 : yv t = xinVma t) (e2 : yv o = xinVma o) (e3 : yl t = xinVma t + xoutLma k - xoutVma k)
    (hq2 : q2 < 32) (hk2 : k2 < 8) (es2 : xinStmt o = nI q2) (eq2 : xstmtOwner q2 = nI k2) (ei : xinVma o = nI iv) (el : xoutLma k2 = nI l) (ev : xoutVma k2 = nI v) (hv : v ≤ iv) (hl : l + (iv - v) + f + 2 ≤ 384)
    (h : post (xphase, (nI ns), xopenOut, xopenGroup, (nI no), (nI ng), (nI ni), (nI nb), (nI nr), xregionSize, xcounter, (upd (upd xmemory (l + (iv - v) + f) (lk_lo ni xrelocOwner xrelocOffset xrelocType xrelocTarget xrelocAddend yv yl r)) (l + (iv - v) + f + 1) (lk_hi ni xrelocOwner xrelocOffset xrelocType xrelocTarget xrelocAddend yv yl r)), xstmtOp, xstmtA, xstmtB, xstmtOwner, xoutRegion, xoutLoaded, xoutGroup, xoutAlign, xoutVma, xoutLma, xoutDot, xgroupStart, xgroupEnd, xgroupResident, xinKind, xinId, xinAlign, xinSize, xinFirstByte, xinStmt, xinLive, xinVma, xfedBytes, xrelocOwner, xrelocOffset, xrelocType, xrelocTarget, xrelocAddend)) : wpX_writeReloc post (xphase, (nI ns), xopenOut, xopenGroup, (nI no), (nI ng), (nI ni), (nI nb), (nI nr), xregionSize, xcounter, xmemory, xstmtOp, xstmtA, xstmtB, xstmtOwner, xoutRegion, xoutLoaded, xoutGroup, xoutAlign, xoutVma, xoutLma, xoutDot, xgroupStart, xgroupEnd, xgroupResident, xinKind, xinId, xinAlign, xinSize, xinFirstByte, xinStmt, xinLive, xinVma, xfedBytes, xrelocOwner, xrelocOffset, xrelocType, xrelocTarget, xrelocAddend) (nI r) := by
  have e : (nI r).toNatClampNeg = r := nI_clamp (by omega)
  have v32 : vp_in (nI r) 32 := vp_in_nI hr (by omega)
  refine ⟨v32, lx_lma (by rw [e, eo]) (by omega) hq2 hk2 es2 eq2 ei el ev hv ⟨v32, nm_r (e' := nI (l + (iv - v) + f)) (by rw [e, ef, nI_add]) (lx_rv hr h16 eo ho et ht hq hk es eq e1 e2 e3 ⟨vp_in_nI (by omega) (by omega), nm_r (by rw [nI_clamp (by omega)]) ⟨by rw [nI_1]; exact vp_in_nI (by omega) (by omega), nm_r (by rw [nI_1, nI_clamp (by omega)]; rfl) h⟩⟩)⟩⟩
theorem lx_rom1 {ns no ng ni nb nr : Nat} {xphase xopenOut xopenGroup : Int32} {xregionSize xcounter xmemory xstmtOp xstmtA xstmtB xstmtOwner xoutRegion xoutLoaded xoutGroup xoutAlign xoutVma xoutLma xoutDot xgroupStart xgroupEnd xgroupResident xinKind xinId xinAlign xinSize xinFirstByte xinStmt xinLive xinVma xfedBytes xrelocOwner xrelocOffset xrelocType xrelocTarget xrelocAddend : Nat → Int32} {V L D : Nat → Nat} (hk : lk_hk no xoutRegion xoutVma xoutLma V L D) (hd : ∀ k, k < no → xoutDot k = nI (D k)) (h128 : ∀ k, k < no → xoutLoaded k = 1 → L k + (D k - V k) ≤ 128) (n32 : ns ≤ 32) : ∀ d k, k + d = no → ∀ m : Nat → Int32, lk_I1 xoutLoaded L D V xmemory k m → ∃ m' : Nat → Int32, lk_I1 xoutLoaded L D V xmemory no m' ∧ ∀ post : St2 → Prop, (∃ n, wX_writeRom_46 post n 0 xphase (nI ns) xopenOut xopenGroup (nI no) (nI ng) (nI ni) (nI nb) (nI nr) xregionSize xcounter m' xstmtOp xstmtA xstmtB xstmtOwner xoutRegion xoutLoaded xoutGroup xoutAlign xoutVma xoutLma xoutDot xgroupStart xgroupEnd xgroupResident xinKind xinId xinAlign xinSize xinFirstByte xinStmt xinLive xinVma xfedBytes xrelocOwner xrelocOffset xrelocType xrelocTarget xrelocAddend) → wX_writeRom_2 post (d + 1) (nI k) xphase (nI ns) xopenOut xopenGroup (nI no) (nI ng) (nI ni) (nI nb) (nI nr) xregionSize xcounter m xstmtOp xstmtA xstmtB xstmtOwner xoutRegion xoutLoaded xoutGroup xoutAlign xoutVma xoutLma xoutDot xgroupStart xgroupEnd xgroupResident xinKind xinId xinAlign xinSize xinFirstByte xinStmt xinLive xinVma xfedBytes xrelocOwner xrelocOffset xrelocType xrelocTarget xrelocAddend := by
  obtain ⟨h8, hk⟩ := hk
  intro d
  induction d with
  | zero =>
    intro k hkd m hm
    have e1 : k = no := hkd
    subst e1
    exact ⟨m, hm, fun post hp => br_t (nI_le (by omega) (by omega)) hp⟩
  | succ d ih =>
    intro k hkd m hm
    obtain ⟨_, ev, el, hvd, _, _, _⟩ := hk k (by omega)
    have ed := hd k (by omega)
    have e : (nI k).toNatClampNeg = k := nI_clamp (by omega)
    have v8 : vp_in (nI k) 8 := vp_in_nI (by omega) (by omega)
    have n1 : ¬ nI no ≤ nI k := nI_ge (by omega) (by omega)
    by_cases a : xoutLoaded k = 1
    · have hb := h128 k (by omega) a
      obtain ⟨m', j1, j2⟩ := ih (k + 1) (by omega) _ (lk_I1_s hm a)
      exact ⟨m', j1, fun post hp => br_f n1 ⟨v8, br_t (by rw [e]; exact a) (lx_le (by omega) el ed ev hvd ⟨v8, lx_fill2 (by rw [e, el]) rfl (by omega) (by omega) (nm_r (nI_1 k) (j2 post hp))⟩)⟩⟩
    · obtain ⟨m', j1, j2⟩ := ih (k + 1) (by omega) m (lk_I1_n hm a)
      exact ⟨m', j1, fun post hp => br_f n1 ⟨v8, br_f (by rw [e]; exact a) (nm_r (nI_1 k) (j2 post hp))⟩⟩
theorem lx_rom2 {ns no ng ni nb nr : Nat} {xphase xopenOut xopenGroup : Int32} {xregionSize xcounter xstmtOp xstmtA xstmtB xstmtOwner xoutRegion xoutLoaded xoutGroup xoutAlign xoutVma xoutLma xoutDot xgroupStart xgroupEnd xgroupResident xinKind xinId xinAlign xinSize xinFirstByte xinStmt xinLive xinVma xfedBytes xrelocOwner xrelocOffset xrelocType xrelocTarget xrelocAddend : Nat → Int32} {V L D IV : Nat → Nat} {oy yv yl yinBss yinLen m1 : Nat → Int32} (hk : lk_hk no xoutRegion xoutVma xoutLma V L D) (hd : ∀ k, k < no → xoutDot k = nI (D k)) (h128 : ∀ k, k < no → xoutLoaded k = 1 → L k + (D k - V k) ≤ 128) (n32 : ns ≤ 32) (hF : ∀ s, s < ni → xinLive s = 1 → ∃ q k, q < ns ∧ xinStmt s = nI q ∧ xstmtOwner q = nI k ∧ oy q = nI k ∧ k < no ∧ xinVma s = nI (IV s) ∧ yv s = nI (IV s) ∧ IV s < 2 ^ 30 ∧ yl s = nI (IV s) + (xoutLma k - xoutVma k)) (hG : ∀ s, s < ni → xinLive s = 1 → V (xstmtOwner (xinStmt s).toNatClampNeg).toNatClampNeg ≤ IV s ∧ IV s + (xinSize s).toNatClampNeg ≤ D (xstmtOwner (xinStmt s).toNatClampNeg).toNatClampNeg) (hLd : ∀ s, s < ni → xinLive s = 1 → ¬ xinKind s = 3 → xoutLoaded (xstmtOwner (xinStmt s).toNatClampNeg).toNatClampNeg = 1) (hN : lk_N ni nb xinKind xinAlign xinSize xinFirstByte yinBss yinLen) (dj : lk_dj ni (fun s => xinLive s = 1 ∧ ¬ xinKind s = 3) (fun s => L (xstmtOwner (xinStmt s).toNatClampNeg).toNatClampNeg + (IV s - V (xstmtOwner (xinStmt s).toNatClampNeg).toNatClampNeg)) (fun s => (xinSize s).toNatClampNeg)) : ∀ d s, s + d = ni → ∀ m : Nat → Int32, lk_I2 (fun s => xinLive s = 1 ∧ ¬ xinKind s = 3) (fun s => L (xstmtOwner (xinStmt s).toNatClampNeg).toNatClampNeg + (IV s - V (xstmtOwner (xinStmt s).toNatClampNeg).toNatClampNeg)) (fun s => (xinSize s).toNatClampNeg) (fun s p => xfedBytes (xinFirstByte s + nI p).toNatClampNeg) m1 s m → ∃ m' : Nat → Int32, lk_I2 (fun s => xinLive s = 1 ∧ ¬ xinKind s = 3) (fun s => L (xstmtOwner (xinStmt s).toNatClampNeg).toNatClampNeg + (IV s - V (xstmtOwner (xinStmt s).toNatClampNeg).toNatClampNeg)) (fun s => (xinSize s).toNatClampNeg) (fun s p => xfedBytes (xinFirstByte s + nI p).toNatClampNeg) m1 ni m' ∧ ∀ post : St2 → Prop, (∃ n, wX_writeRom_87 post n 0 xphase (nI ns) xopenOut xopenGroup (nI no) (nI ng) (nI ni) (nI nb) (nI nr) xregionSize xcounter m' xstmtOp xstmtA xstmtB xstmtOwner xoutRegion xoutLoaded xoutGroup xoutAlign xoutVma xoutLma xoutDot xgroupStart xgroupEnd xgroupResident xinKind xinId xinAlign xinSize xinFirstByte xinStmt xinLive xinVma xfedBytes xrelocOwner xrelocOffset xrelocType xrelocTarget xrelocAddend) → wX_writeRom_46 post (d + 1) (nI s) xphase (nI ns) xopenOut xopenGroup (nI no) (nI ng) (nI ni) (nI nb) (nI nr) xregionSize xcounter m xstmtOp xstmtA xstmtB xstmtOwner xoutRegion xoutLoaded xoutGroup xoutAlign xoutVma xoutLma xoutDot xgroupStart xgroupEnd xgroupResident xinKind xinId xinAlign xinSize xinFirstByte xinStmt xinLive xinVma xfedBytes xrelocOwner xrelocOffset xrelocType xrelocTarget xrelocAddend := by
  obtain ⟨h8, hk⟩ := hk
  have h16 := hN.1
  intro d
  induction d with
  | zero =>
    intro s hs m hm
    have e1 : s = ni := hs
    subst e1
    exact ⟨m, hm, fun post hp => br_t (nI_le (by omega) (by omega)) hp⟩
  | succ d ih =>
    intro s hs m hm
    have e : (nI s).toNatClampNeg = s := nI_clamp (by omega)
    have v16 : vp_in (nI s) 16 := vp_in_nI (by omega) (by omega)
    have n1 : ¬ nI ni ≤ nI s := nI_ge (by omega) (by omega)
    by_cases a : xinLive s = 1
    · by_cases b : xinKind s = 3
      · obtain ⟨m', j1, j2⟩ := ih (s + 1) (by omega) m (lk_I2_n hm (fun z => z.2 b))
        exact ⟨m', j1, fun post hp => br_f n1 ⟨v16, br_t (by rw [e]; exact a) ⟨v16, br_t (by rw [e]; exact b) (nm_r (nI_1 s) (j2 post hp))⟩⟩⟩
      · obtain ⟨q, k, hq, es, eq, _, hkn, ei, _, _, _⟩ := hF s (by omega) a
        obtain ⟨_, ev, el, hvd, _, _, _⟩ := hk k hkn
        obtain ⟨A, T, Z, Q, _, _, et, _, hTZ, ez, d7⟩ := hN.2.2 s (by omega)
        have hQZ : Q = Z := by
          rcases d7 with ⟨z, _⟩ | ⟨_, z⟩
          · exact absurd z b
          · exact z
        have hnb := hN.2.1
        have own : (xstmtOwner (xinStmt s).toNatClampNeg).toNatClampNeg = k := by rw [es, nI_clamp (by omega), eq, nI_clamp (by omega)]
        have g := hG s (by omega) a
        have gl := hLd s (by omega) a b
        rw [own] at g gl
        have hb := h128 k hkn gl
        have esz : (xinSize s).toNatClampNeg = Q := by rw [ez, nI_clamp (by omega)]
        rw [esz] at g
        have hI := lk_I2_s (m' := lk_wr m (L k + (IV s - V k)) (L k + (IV s - V k) + Q) (fun j => xfedBytes (xinFirstByte s + nI (j - (L k + (IV s - V k)))).toNatClampNeg)) dj (show s < ni by omega) (show xinLive s = 1 ∧ ¬ xinKind s = 3 from ⟨a, b⟩) hm (fun p hp => by
            have hp2 : p < Q := by have : p < (xinSize s).toNatClampNeg := hp; rw [esz] at this; exact this
            show lk_wr m (L k + (IV s - V k)) (L k + (IV s - V k) + Q) _ (L (xstmtOwner (xinStmt s).toNatClampNeg).toNatClampNeg + (IV s - V (xstmtOwner (xinStmt s).toNatClampNeg).toNatClampNeg) + p) = _
            rw [own, lk_wr_t (by omega) (by omega), Nat.add_sub_cancel_left]) (fun j hj => by
            have hj2 : ¬ (L (xstmtOwner (xinStmt s).toNatClampNeg).toNatClampNeg + (IV s - V (xstmtOwner (xinStmt s).toNatClampNeg).toNatClampNeg) ≤ j ∧ j < L (xstmtOwner (xinStmt s).toNatClampNeg).toNatClampNeg + (IV s - V (xstmtOwner (xinStmt s).toNatClampNeg).toNatClampNeg) + (xinSize s).toNatClampNeg) := hj
            rw [own, esz] at hj2
            exact lk_wr_f hj2)
        obtain ⟨m', j1, j2⟩ := ih (s + 1) (by omega) _ hI
        exact ⟨m', j1, fun post hp => br_f n1 ⟨v16, br_t (by rw [e]; exact a) ⟨v16, br_f (by rw [e]; exact b) (lx_wf (by omega) (by omega) (by omega) es eq ei el ev g.1 ez et (by omega) (by omega) (nm_r (nI_1 s) (j2 post hp)))⟩⟩⟩
    · obtain ⟨m', j1, j2⟩ := ih (s + 1) (by omega) m (lk_I2_n hm (fun z => a z.1))
      exact ⟨m', j1, fun post hp => br_f n1 ⟨v16, br_f (by rw [e]; exact a) (nm_r (nI_1 s) (j2 post hp))⟩⟩
end
end
section

section
theorem lx_rom3 {ns no ng ni nb nr : Nat} {xphase xopenOut xopenGroup : Int32} {xregionSize xcounter xstmtOp xstmtA xstmtB xstmtOwner xoutRegion xoutLoaded xoutGroup xoutAlign xoutVma xoutLma xoutDot xgroupStart xgroupEnd xgroupResident xinKind xinId xinAlign xinSize xinFirstByte xinStmt xinLive xinVma xfedBytes xrelocOwner xrelocOffset xrelocType xrelocTarget xrelocAddend : Nat → Int32} {V L D IV : Nat → Nat} {oy yv yl yinBss yinLen m1 : Nat → Int32} (hk : lk_hk no xoutRegion xoutVma xoutLma V L D) (hd : ∀ k, k < no → xoutDot k = nI (D k)) (h128 : ∀ k, k < no → xoutLoaded k = 1 → L k + (D k - V k) ≤ 128) (n32 : ns ≤ 32) (hF : ∀ s, s < ni → xinLive s = 1 → ∃ q k, q < ns ∧ xinStmt s = nI q ∧ xstmtOwner q = nI k ∧ oy q = nI k ∧ k < no ∧ xinVma s = nI (IV s) ∧ yv s = nI (IV s) ∧ IV s < 2 ^ 30 ∧ yl s = nI (IV s) + (xoutLma k - xoutVma k)) (hG : ∀ s, s < ni → xinLive s = 1 → V (xstmtOwner (xinStmt s).toNatClampNeg).toNatClampNeg ≤ IV s ∧ IV s + (xinSize s).toNatClampNeg ≤ D (xstmtOwner (xinStmt s).toNatClampNeg).toNatClampNeg) (hLd : ∀ s, s < ni → xinLive s = 1 → ¬ xinKind s = 3 → xoutLoaded (xstmtOwner (xinStmt s).toNatClampNeg).toNatClampNeg = 1) (hN : lk_N ni nb xinKind xinAlign xinSize xinFirstByte yinBss yinLen) (hQ : lk_Q nr ni xinKind yinLen xrelocOwner xrelocOffset xrelocTarget) (hcl : ∀ r, r < nr → xinLive (xrelocOwner r).toNatClampNeg = 1 → ∃ t, t < ni ∧ xrelocTarget r = nI t ∧ xinLive t = 1) (dj : lk_dj ni (fun s => xinLive s = 1 ∧ ¬ xinKind s = 3) (fun s => L (xstmtOwner (xinStmt s).toNatClampNeg).toNatClampNeg + (IV s - V (xstmtOwner (xinStmt s).toNatClampNeg).toNatClampNeg)) (fun s => (xinSize s).toNatClampNeg)) : ∀ d r, r + d = nr → ∀ m : Nat → Int32, lk_I3 ni (fun s => xinLive s = 1 ∧ ¬ xinKind s = 3) (fun s => L (xstmtOwner (xinStmt s).toNatClampNeg).toNatClampNeg + (IV s - V (xstmtOwner (xinStmt s).toNatClampNeg).toNatClampNeg)) (fun s => (xinSize s).toNatClampNeg) xrelocOwner xrelocOffset (lk_lo ni xrelocOwner xrelocOffset xrelocType xrelocTarget xrelocAddend yv yl) (lk_hi ni xrelocOwner xrelocOffset xrelocType xrelocTarget xrelocAddend yv yl) (fun s p => xfedBytes (xinFirstByte s + nI p).toNatClampNeg) m1 r m → ∃ m' : Nat → Int32, lk_I3 ni (fun s => xinLive s = 1 ∧ ¬ xinKind s = 3) (fun s => L (xstmtOwner (xinStmt s).toNatClampNeg).toNatClampNeg + (IV s - V (xstmtOwner (xinStmt s).toNatClampNeg).toNatClampNeg)) (fun s => (xinSize s).toNatClampNeg) xrelocOwner xrelocOffset (lk_lo ni xrelocOwner xrelocOffset xrelocType xrelocTarget xrelocAddend yv yl) (lk_hi ni xrelocOwner xrelocOffset xrelocType xrelocTarget xrelocAddend yv yl) (fun s p => xfedBytes (xinFirstByte s + nI p).toNatClampNeg) m1 nr m' ∧ ∀ post : St2 → Prop, post (xphase, (nI ns), xopenOut, xopenGroup, (nI no), (nI ng), (nI ni), (nI nb), (nI nr), xregionSize, xcounter, m', xstmtOp, xstmtA, xstmtB, xstmtOwner, xoutRegion, xoutLoaded, xoutGroup, xoutAlign, xoutVma, xoutLma, xoutDot, xgroupStart, xgroupEnd, xgroupResident, xinKind, xinId, xinAlign, xinSize, xinFirstByte, xinStmt, xinLive, xinVma, xfedBytes, xrelocOwner, xrelocOffset, xrelocType, xrelocTarget, xrelocAddend) → wX_writeRom_87 post (d + 1) (nI r) xphase (nI ns) xopenOut xopenGroup (nI no) (nI ng) (nI ni) (nI nb) (nI nr) xregionSize xcounter m xstmtOp xstmtA xstmtB xstmtOwner xoutRegion xoutLoaded xoutGroup xoutAlign xoutVma xoutLma xoutDot xgroupStart xgroupEnd xgroupResident xinKind xinId xinAlign xinSize xinFirstByte xinStmt xinLive xinVma xfedBytes xrelocOwner xrelocOffset xrelocType xrelocTarget xrelocAddend := by
  obtain ⟨h8, hk⟩ := hk
  have h16 := hN.1
  have hnb := hN.2.1
  have hr32 := hQ.1
  have hlen : ∀ s, s < ni → (fun s => (xinSize s).toNatClampNeg) s < 2 ^ 30 := by
    intro s hs
    obtain ⟨A, T, Z, Q, _, _, _, _, hTZ, ez, d7⟩ := hN.2.2 s hs
    show (xinSize s).toNatClampNeg < 2 ^ 30
    have : Q ≤ 256 := by rcases d7 with ⟨_, _, z, _⟩ | ⟨_, z⟩ <;> omega
    rw [ez, nI_clamp (by omega)]
    omega
  intro d
  induction d with
  | zero =>
    intro r hr m hm
    have e1 : r = nr := hr
    subst e1
    exact ⟨m, hm, fun post hp => br_t (nI_le (by omega) (by omega)) hp⟩
  | succ d ih =>
    intro r hr m hm
    obtain ⟨o, f, t0, Z, ho, eo, nk3, eln, hZ, hf, ef, _, _⟩ := hQ.2 r (by omega)
    have e : (nI r).toNatClampNeg = r := nI_clamp (by omega)
    have eoc : (nI o).toNatClampNeg = o := nI_clamp (by omega)
    have v32 : vp_in (nI r) 32 := vp_in_nI (by omega) (by omega)
    have v16 : vp_in (xrelocOwner (nI r).toNatClampNeg) 16 := by rw [e, eo]; exact vp_in_nI (by omega) (by omega)
    have n1 : ¬ nI nr ≤ nI r := nI_ge (by omega) (by omega)
    by_cases a : xinLive o = 1
    · obtain ⟨t, ht, et, lt⟩ := hcl r (by omega) (by rw [eo, eoc]; exact a)
      obtain ⟨q, k, hq, es, eq, _, hkn, ei, ey, _, eyl⟩ := hF t ht lt
      obtain ⟨q2, k2, hq2, es2, eq2, _, hkn2, ei2, ey2, _, _⟩ := hF o ho a
      obtain ⟨_, ev, el, hvd, _, _, _⟩ := hk k2 hkn2
      obtain ⟨A, T, Z', Q, _, _, _, eln2, hTZ, ez, d7⟩ := hN.2.2 o ho
      have hZZ : Z' = Z := (nI_eq (by omega) (by omega)).mp (eln2.symm.trans eln)
      have hQZ : Q = Z := by
        rcases d7 with ⟨z, _⟩ | ⟨_, z⟩
        · exact absurd z nk3
        · omega
      have own : (xstmtOwner (xinStmt o).toNatClampNeg).toNatClampNeg = k2 := by rw [es2, nI_clamp (by omega), eq2, nI_clamp (by omega)]
      have g := hG o ho a
      have gl := hLd o ho a nk3
      rw [own] at g gl
      have hb := h128 k2 hkn2 gl
      have esz : (xinSize o).toNatClampNeg = Z := by rw [ez, nI_clamp (by omega), hQZ]
      rw [esz] at g
      have hI := lk_I3_s dj (by omega) hlen ho eo ef (show f + 2 ≤ (xinSize o).toNatClampNeg by rw [esz]; exact hf) (show xinLive o = 1 ∧ ¬ xinKind o = 3 from ⟨a, nk3⟩) hm
      rw [own] at hI
      obtain ⟨m', j1, j2⟩ := ih (r + 1) (by omega) _ hI
      refine ⟨m', j1, fun post hp => br_f n1 ⟨v32, v16, br_t (by rw [e, eo, eoc]; exact a) (lx_wr (yv := yv) (yl := yl) (by omega) h16 eo ho ef et ht (by omega) (by omega) es eq (by rw [ey, ei]) (by rw [ey2, ei2]) (by rw [eyl, ei, lk_asc]) (by omega) (by omega) es2 eq2 ei2 el ev g.1 (by omega) (nm_r (nI_1 r) (j2 post hp)))⟩⟩
    · obtain ⟨m', j1, j2⟩ := ih (r + 1) (by omega) m (lk_I3_n (by omega) ho eo (fun z => a z.1) hm)
      exact ⟨m', j1, fun post hp => br_f n1 ⟨v32, v16, br_f (by rw [e, eo, eoc]; exact a) (nm_r (nI_1 r) (j2 post hp))⟩⟩
theorem lx_rom {ns no ng ni nb nr : Nat} {xphase xopenOut xopenGroup : Int32} {xregionSize xcounter xmemory xstmtOp xstmtA xstmtB xstmtOwner xoutRegion xoutLoaded xoutGroup xoutAlign xoutVma xoutLma xoutDot xgroupStart xgroupEnd xgroupResident xinKind xinId xinAlign xinSize xinFirstByte xinStmt xinLive xinVma xfedBytes xrelocOwner xrelocOffset xrelocType xrelocTarget xrelocAddend : Nat → Int32} {V L D IV : Nat → Nat} {oy yv yl yinBss yinLen : Nat → Int32} (hk : lk_hk no xoutRegion xoutVma xoutLma V L D) (hd : ∀ k, k < no → xoutDot k = nI (D k)) (h128 : ∀ k, k < no → xoutLoaded k = 1 → L k + (D k - V k) ≤ 128) (n32 : ns ≤ 32) (hF : ∀ s, s < ni → xinLive s = 1 → ∃ q k, q < ns ∧ xinStmt s = nI q ∧ xstmtOwner q = nI k ∧ oy q = nI k ∧ k < no ∧ xinVma s = nI (IV s) ∧ yv s = nI (IV s) ∧ IV s < 2 ^ 30 ∧ yl s = nI (IV s) + (xoutLma k - xoutVma k)) (hG : ∀ s, s < ni → xinLive s = 1 → V (xstmtOwner (xinStmt s).toNatClampNeg).toNatClampNeg ≤ IV s ∧ IV s + (xinSize s).toNatClampNeg ≤ D (xstmtOwner (xinStmt s).toNatClampNeg).toNatClampNeg) (hLd : ∀ s, s < ni → xinLive s = 1 → ¬ xinKind s = 3 → xoutLoaded (xstmtOwner (xinStmt s).toNatClampNeg).toNatClampNeg = 1) (hN : lk_N ni nb xinKind xinAlign xinSize xinFirstByte yinBss yinLen) (hQ : lk_Q nr ni xinKind yinLen xrelocOwner xrelocOffset xrelocTarget) (hcl : ∀ r, r < nr → xinLive (xrelocOwner r).toNatClampNeg = 1 → ∃ t, t < ni ∧ xrelocTarget r = nI t ∧ xinLive t = 1) (dj : lk_dj ni (fun s => xinLive s = 1 ∧ ¬ xinKind s = 3) (fun s => L (xstmtOwner (xinStmt s).toNatClampNeg).toNatClampNeg + (IV s - V (xstmtOwner (xinStmt s).toNatClampNeg).toNatClampNeg)) (fun s => (xinSize s).toNatClampNeg)) : ∃ m1 mf : Nat → Int32, lk_I1 xoutLoaded L D V xmemory no m1 ∧ lk_I3 ni (fun s => xinLive s = 1 ∧ ¬ xinKind s = 3) (fun s => L (xstmtOwner (xinStmt s).toNatClampNeg).toNatClampNeg + (IV s - V (xstmtOwner (xinStmt s).toNatClampNeg).toNatClampNeg)) (fun s => (xinSize s).toNatClampNeg) xrelocOwner xrelocOffset (lk_lo ni xrelocOwner xrelocOffset xrelocType xrelocTarget xrelocAddend yv yl) (lk_hi ni xrelocOwner xrelocOffset xrelocType xrelocTarget xrelocAddend yv yl) (fun s p => xfedBytes (xinFirstByte s + nI p).toNatClampNeg) m1 nr mf ∧ ∀ post : St2 → Prop, post (xphase, (nI ns), xopenOut, xopenGroup, (nI no), (nI ng), (nI ni), (nI nb), (nI nr), xregionSize, xcounter, mf, xstmtOp, xstmtA, xstmtB, xstmtOwner, xoutRegion, xoutLoaded, xoutGroup, xoutAlign, xoutVma, xoutLma, xoutDot, xgroupStart, xgroupEnd, xgroupResident, xinKind, xinId, xinAlign, xinSize, xinFirstByte, xinStmt, xinLive, xinVma, xfedBytes, xrelocOwner, xrelocOffset, xrelocType, xrelocTarget, xrelocAddend) → wpX_writeRom post (xphase, (nI ns), xopenOut, xopenGroup, (nI no), (nI ng), (nI ni), (nI nb), (nI nr), xregionSize, xcounter, xmemory, xstmtOp, xstmtA, xstmtB, xstmtOwner, xoutRegion, xoutLoaded, xoutGroup, xoutAlign, xoutVma, xoutLma, xoutDot, xgroupStart, xgroupEnd, xgroupResident, xinKind, xinId, xinAlign, xinSize, xinFirstByte, xinStmt, xinLive, xinVma, xfedBytes, xrelocOwner, xrelocOffset, xrelocType, xrelocTarget, xrelocAddend) := by
  obtain ⟨m1, a1, a2⟩ := lx_rom1 (xphase := xphase) (xopenOut := xopenOut) (xopenGroup := xopenGroup) (ns := ns) (ng := ng) (ni := ni) (nb := nb) (nr := nr) (xregionSize := xregionSize) (xcounter := xcounter) (xmemory := xmemory) (xstmtOp := xstmtOp) (xstmtA := xstmtA) (xstmtB := xstmtB) (xstmtOwner := xstmtOwner) (xoutGroup := xoutGroup) (xoutAlign := xoutAlign) (xgroupStart := xgroupStart) (xgroupEnd := xgroupEnd) (xgroupResident := xgroupResident) (xinKind := xinKind) (xinId := xinId) (xinAlign := xinAlign) (xinSize := xinSize) (xinFirstByte := xinFirstByte) (xinStmt := xinStmt) (xinLive := xinLive) (xinVma := xinVma) (xfedBytes := xfedBytes) (xrelocOwner := xrelocOwner) (xrelocOffset := xrelocOffset) (xrelocType := xrelocType) (xrelocTarget := xrelocTarget) (xrelocAddend := xrelocAddend) hk hd h128 n32 no 0 (by omega) xmemory lk_I1_0
  obtain ⟨m2, b1, b2⟩ := lx_rom2 (m1 := m1) (xphase := xphase) (xopenOut := xopenOut) (xopenGroup := xopenGroup) (ng := ng) (nr := nr) (xregionSize := xregionSize) (xcounter := xcounter) (xstmtOp := xstmtOp) (xstmtA := xstmtA) (xstmtB := xstmtB) (xoutGroup := xoutGroup) (xoutAlign := xoutAlign) (xgroupStart := xgroupStart) (xgroupEnd := xgroupEnd) (xgroupResident := xgroupResident) (xinId := xinId) (xfedBytes := xfedBytes) (xrelocOwner := xrelocOwner) (xrelocOffset := xrelocOffset) (xrelocType := xrelocType) (xrelocTarget := xrelocTarget) (xrelocAddend := xrelocAddend) hk hd h128 n32 hF hG hLd hN dj ni 0 (by omega) m1 lk_I2_0
  obtain ⟨mf, c1, c2⟩ := lx_rom3 (m1 := m1) (xphase := xphase) (xopenOut := xopenOut) (xopenGroup := xopenGroup) (ng := ng) (xregionSize := xregionSize) (xcounter := xcounter) (xstmtOp := xstmtOp) (xstmtA := xstmtA) (xstmtB := xstmtB) (xoutGroup := xoutGroup) (xoutAlign := xoutAlign) (xgroupStart := xgroupStart) (xgroupEnd := xgroupEnd) (xgroupResident := xgroupResident) (xinId := xinId) (xfedBytes := xfedBytes) (xrelocType := xrelocType) (xrelocAddend := xrelocAddend) hk hd h128 n32 hF hG hLd hN hQ hcl dj nr 0 (by omega) m2 (lk_I3_0 b1)
  exact ⟨m1, mf, a1, c1, fun post hp => ⟨_, a2 post ⟨_, b2 post ⟨_, c2 post hp⟩⟩⟩⟩
end
end
section

section
theorem lk_asm1 {ni ns no ng : Nat} {op rg ld gp ox oy st lv sz : Nat → Int32} {C0 C1 : Nat} {V L D G0 GE IV : Nat → Nat} {ct vm lm dt gs ge xv os yg0 yg1 yv yl : Nat → Int32} {c0 c1 g0 yge grp k dot vma lma ing : Int32}
    (hW : lk_WI ni op rg ld st lv (fun s => (ox (st s).toNatClampNeg).toNatClampNeg) (fun s => (sz s).toNatClampNeg) ns C0 C1 V L D G0 GE IV ct vm lm dt gs ge xv os yg0 yg1 yv yl c0 c1 g0 yge grp k dot vma lma ing)
    (his : lk_is op ns = false) (hno : no = lk_no op ns) (h8 : no ≤ 8) (n32 : ns ≤ 32) (hof : ∀ k, k < no → lk_of ng rg ld gp k) (hl : lk_hl ni no ns st lv ox oy) :
    lk_hk no rg vm lm V L D ∧ (∀ k, k < no → dt k = nI (D k)) ∧ (∀ k, k < no → os k = nI (D k - V k)) ∧
    (∀ s, s < ni → lv s = 1 → ∃ q k, q < ns ∧ st s = nI q ∧ ox q = nI k ∧ oy q = nI k ∧ k < no ∧ xv s = nI (IV s) ∧ yv s = nI (IV s) ∧ IV s < 2 ^ 30 ∧ yl s = nI (IV s) + (lm k - vm k)) ∧
    (∀ s, s < ni → lv s = 1 → V (ox (st s).toNatClampNeg).toNatClampNeg ≤ IV s ∧ IV s + (sz s).toNatClampNeg ≤ D (ox (st s).toNatClampNeg).toNatClampNeg) ∧
    (ct 0 = c0 ∧ ct 1 = c1) := by
  unfold lk_WI at hW
  rw [lk_nc_f his, ← hno] at hW
  obtain ⟨⟨_, g2, _, _, _, _, g7, _⟩, ⟨w1, w2, w3, w4⟩, w5, w6, _, _, w7, _⟩ := hW
  have pl : ∀ s, s < ni → lv s = 1 → lk_pl st lv ns s := by
    intro s hs h
    obtain ⟨q, k, hq, eq, _⟩ := hl.2.2 s hs h
    exact ⟨h, q, hq, eq⟩
  refine ⟨⟨h8, fun k hk => ?_⟩, fun k hk => (w5 k hk).2.2, w6, fun s hs h => ?_, fun s hs h => ?_, by rw [w1, w3], by rw [w2, w4]⟩
  · obtain ⟨a1, a2, a3, a4, a5⟩ := g2 k hk
    obtain ⟨b1, b2, _⟩ := w5 k hk
    refine ⟨?_, b1, b2, a1, by omega, by omega, a5⟩
    rcases hof k hk with ⟨z, _⟩ | ⟨z, _⟩
    · exact Or.inl z
    · exact Or.inr z
  · obtain ⟨q, k, hq, eq, hk, ek, ek2⟩ := hl.2.2 s hs h
    obtain ⟨a1, a2, a3⟩ := w7 s hs (pl s hs h)
    obtain ⟨b1, b2, b3⟩ := g7 s hs (pl s hs h)
    have own : (ox (st s).toNatClampNeg).toNatClampNeg = k := by rw [eq, nI_clamp (by omega), ek, nI_clamp (by omega)]
    have a3' : yl s = nI (IV s) + (lm (ox (st s).toNatClampNeg).toNatClampNeg - vm (ox (st s).toNatClampNeg).toNatClampNeg) := a3
    have b1' : (ox (st s).toNatClampNeg).toNatClampNeg < no := b1
    have b3' : IV s + (sz s).toNatClampNeg ≤ D (ox (st s).toNatClampNeg).toNatClampNeg := b3
    rw [own] at a3' b1' b3'
    have := (g2 k b1').2.1
    exact ⟨q, k, hq, eq, ek, ek2, hk, a1, a2, by omega, a3'⟩
  · obtain ⟨b1, b2, b3⟩ := g7 s hs (pl s hs h)
    exact ⟨b2, b3⟩
section
variable {ni ns no ng nb nr R0 : Nat} {op rg ld gp ox oy st lv sz kd al fb bs ln by_ ro rf ty rt ra : Nat → Int32} {C0 C1 : Nat} {V L D G0 GE IV : Nat → Nat} {ct vm lm dt gs ge xv os yg0 yg1 yv yl me m1 mf rom : Nat → Int32} {c0 c1 g0 yge grp k dot vma lma ing : Int32}
theorem lk_dj2 (hW : lk_WI ni op rg ld st lv (fun s => (ox (st s).toNatClampNeg).toNatClampNeg) (fun s => (sz s).toNatClampNeg) ns C0 C1 V L D G0 GE IV ct vm lm dt gs ge xv os yg0 yg1 yv yl c0 c1 g0 yge grp k dot vma lma ing)
    (his : lk_is op ns = false) (hl : lk_hl ni no ns st lv ox oy) (hLd : ∀ s, s < ni → lv s = 1 → ¬ kd s = 3 → ld (ox (st s).toNatClampNeg).toNatClampNeg = 1) :
    lk_dj ni (fun s => lv s = 1 ∧ ¬ kd s = 3) (fun s => L (ox (st s).toNatClampNeg).toNatClampNeg + (IV s - V (ox (st s).toNatClampNeg).toNatClampNeg)) (fun s => (sz s).toNatClampNeg) := by
  unfold lk_WI at hW
  rw [lk_nc_f his] at hW
  refine lk_G_dj (own := fun s => (ox (st s).toNatClampNeg).toNatClampNeg) hW.1 (fun s hs h => ?_)
  obtain ⟨q, k, hq, eq, _⟩ := hl.2.2 s hs h.1
  exact ⟨⟨h.1, q, hq, eq⟩, rfl, hLd s hs h.1 h.2⟩
theorem lk_mem3 (hW : lk_WI ni op rg ld st lv (fun s => (ox (st s).toNatClampNeg).toNatClampNeg) (fun s => (sz s).toNatClampNeg) ns C0 C1 V L D G0 GE IV ct vm lm dt gs ge xv os yg0 yg1 yv yl c0 c1 g0 yge grp k dot vma lma ing)
    (his : lk_is op ns = false) (hno : no = lk_no op ns) (hl : lk_hl ni no ns st lv ox oy) (hLd : ∀ s, s < ni → lv s = 1 → ¬ kd s = 3 → ld (ox (st s).toNatClampNeg).toNatClampNeg = 1)
    (h128 : ∀ k, k < no → ld k = 1 → L k + (D k - V k) ≤ 128)
    (hI1 : lk_I1 ld L D V me no m1)
    (hI : lk_I3 ni (fun s => lv s = 1 ∧ ¬ kd s = 3) (fun s => L (ox (st s).toNatClampNeg).toNatClampNeg + (IV s - V (ox (st s).toNatClampNeg).toNatClampNeg)) (fun s => (sz s).toNatClampNeg) ro rf (lk_lo ni ro rf ty rt ra yv yl) (lk_hi ni ro rf ty rt ra yv yl) (fun s p => by_ (fb s + nI p).toNatClampNeg) m1 nr mf) : ∀ j, 128 ≤ j → mf j = me j := by
  have hW2 := hW
  unfold lk_WI at hW2
  rw [lk_nc_f his, ← hno] at hW2
  obtain ⟨hG, _⟩ := hW2
  have h7 := hG.2.2.2.2.2.2.1
  have ha : ∀ s, s < ni → (fun s => lv s = 1 ∧ ¬ kd s = 3) s → lk_pl st lv ns s ∧ (fun s => (sz s).toNatClampNeg) s = (fun s => (sz s).toNatClampNeg) s ∧ ld ((fun s => (ox (st s).toNatClampNeg).toNatClampNeg) s) = 1 := by
    intro s hs h
    obtain ⟨q, k, hq, eq, _⟩ := hl.2.2 s hs h.1
    exact ⟨⟨h.1, q, hq, eq⟩, rfl, hLd s hs h.1 h.2⟩
  intro j hj
  rw [hI.2 j (fun s hs has c => ?_)]
  · exact hI1.2 j (fun q hq hlq c => by have := h128 q hq hlq; omega)
  · obtain ⟨p1, _, l1⟩ := ha s hs has
    obtain ⟨b1, b2, b3⟩ := h7 s hs p1
    have h9 : L (ox (st s).toNatClampNeg).toNatClampNeg + (D (ox (st s).toNatClampNeg).toNatClampNeg - V (ox (st s).toNatClampNeg).toNatClampNeg) ≤ 128 := h128 _ b1 l1
    have b2' : V (ox (st s).toNatClampNeg).toNatClampNeg ≤ IV s := b2
    have b3' : IV s + (sz s).toNatClampNeg ≤ D (ox (st s).toNatClampNeg).toNatClampNeg := b3
    have c' : L (ox (st s).toNatClampNeg).toNatClampNeg + (IV s - V (ox (st s).toNatClampNeg).toNatClampNeg) ≤ j ∧ j < L (ox (st s).toNatClampNeg).toNatClampNeg + (IV s - V (ox (st s).toNatClampNeg).toNatClampNeg) + (sz s).toNatClampNeg := c
    omega
end
end
end
section
section
/-! the class in FEED -/
def lq_F (no R0 R1 : Nat) (u : St2) : Prop := ∃ (ns ng ni nb nr : Nat) (xopenOut xopenGroup : Int32) (xregionSize xcounter xmemory xstmtOp xstmtA xstmtB xstmtOwner xoutRegion xoutLoaded xoutGroup xoutAlign xoutVma xoutLma xoutDot xgroupStart xgroupEnd xgroupResident xinKind xinId xinAlign xinSize xinFirstByte xinStmt xinLive xinVma xfedBytes xrelocOwner xrelocOffset xrelocType xrelocTarget xrelocAddend : Nat → Int32) (yinGroup : Int32) (ystOut yinBss yinLen : Nat → Int32), u = (0, (nI ns), xopenOut, xopenGroup, (nI no), (nI ng), (nI ni), (nI nb), (nI nr), xregionSize, xcounter, xmemory, xstmtOp, xstmtA, xstmtB, xstmtOwner, xoutRegion, xoutLoaded, xoutGroup, xoutAlign, xoutVma, xoutLma, xoutDot, xgroupStart, xgroupEnd, xgroupResident, xinKind, xinId, xinAlign, xinSize, xinFirstByte, xinStmt, xinLive, xinVma, xfedBytes, xrelocOwner, xrelocOffset, xrelocType, xrelocTarget, xrelocAddend) ∧ lk_S ns no ng xstmtOp xstmtA xstmtB xstmtOwner ystOut xoutRegion xoutLoaded xoutGroup xopenOut xopenGroup yinGroup ∧ lk_N ni nb xinKind xinAlign xinSize xinFirstByte yinBss yinLen ∧ lk_Q nr ni xinKind yinLen xrelocOwner xrelocOffset xrelocTarget ∧ lk_Z xregionSize R0 R1 ∧ ∀ j, j < 384 → xmemory j = 255
def lq_Fx (R0 R1 : Nat) (u : St2) : Prop := ∃ no, lq_F no R0 R1 u
theorem lq_byte {P : St2 → Prop} {R0 R1 : Nat} {u : St2} {v1 : Int32} (I : lq_Fx R0 R1 u) (KK : ∀ u, lq_Fx R0 R1 u → P u) : wpX_addByte (fun _ u => P u) u v1 := by
  have J := KK _ I
  obtain ⟨no, ns, ng, ni, nb, nr, xopenOut, xopenGroup, xregionSize, xcounter, xmemory, xstmtOp, xstmtA, xstmtB, xstmtOwner, xoutRegion, xoutLoaded, xoutGroup, xoutAlign, xoutVma, xoutLma, xoutDot, xgroupStart, xgroupEnd, xgroupResident, xinKind, xinId, xinAlign, xinSize, xinFirstByte, xinStmt, xinLive, xinVma, xfedBytes, xrelocOwner, xrelocOffset, xrelocType, xrelocTarget, xrelocAddend, yinGroup, ystOut, yinBss, yinLen, rfl, hS, hN, hQ, hZ, hM⟩ := I
  exact lk_fbyte J hN hQ (fun hN hQ => KK _ ⟨no, _, _, _, _, _, _, _, _, _, _, _, _, _, _, _, _, _, _, _, _, _, _, _, _, _, _, _, _, _, _, _, _, _, _, _, _, _, _, _, _, _, _, rfl, hS, hN, hQ, hZ, hM⟩) rfl
theorem lq_reloc {P : St2 → Prop} {R0 R1 : Nat} {u : St2} {v1 v2 v3 v4 : Int32} (I : lq_Fx R0 R1 u) (KK : ∀ u, lq_Fx R0 R1 u → P u) : wpX_addReloc (fun _ u => P u) u v1 v2 v3 v4 := by
  have J := KK _ I
  obtain ⟨no, ns, ng, ni, nb, nr, xopenOut, xopenGroup, xregionSize, xcounter, xmemory, xstmtOp, xstmtA, xstmtB, xstmtOwner, xoutRegion, xoutLoaded, xoutGroup, xoutAlign, xoutVma, xoutLma, xoutDot, xgroupStart, xgroupEnd, xgroupResident, xinKind, xinId, xinAlign, xinSize, xinFirstByte, xinStmt, xinLive, xinVma, xfedBytes, xrelocOwner, xrelocOffset, xrelocType, xrelocTarget, xrelocAddend, yinGroup, ystOut, yinBss, yinLen, rfl, hS, hN, hQ, hZ, hM⟩ := I
  exact lk_freloc J hN hQ (fun hQ => KK _ ⟨no, _, _, _, _, _, _, _, _, _, _, _, _, _, _, _, _, _, _, _, _, _, _, _, _, _, _, _, _, _, _, _, _, _, _, _, _, _, _, _, _, _, _, rfl, hS, hN, hQ, hZ, hM⟩) rfl
theorem lq_begin {P : St2 → Prop} {R0 R1 : Nat} {u : St2} {v1 v2 v3 v4 : Int32} (I : lq_Fx R0 R1 u) (KK : ∀ u, lq_Fx R0 R1 u → P u) : wpX_beginSection (fun _ u => P u) u v1 v2 v3 v4 := by
  have J := KK _ I
  obtain ⟨no, ns, ng, ni, nb, nr, xopenOut, xopenGroup, xregionSize, xcounter, xmemory, xstmtOp, xstmtA, xstmtB, xstmtOwner, xoutRegion, xoutLoaded, xoutGroup, xoutAlign, xoutVma, xoutLma, xoutDot, xgroupStart, xgroupEnd, xgroupResident, xinKind, xinId, xinAlign, xinSize, xinFirstByte, xinStmt, xinLive, xinVma, xfedBytes, xrelocOwner, xrelocOffset, xrelocType, xrelocTarget, xrelocAddend, yinGroup, ystOut, yinBss, yinLen, rfl, hS, hN, hQ, hZ, hM⟩ := I
  exact lk_fbegin J hN hQ (fun hN hQ => KK _ ⟨no, _, _, _, _, _, _, _, _, _, _, _, _, _, _, _, _, _, _, _, _, _, _, _, _, _, _, _, _, _, _, _, _, _, _, _, _, _, _, _, _, _, _, rfl, hS, hN, hQ, hZ, hM⟩) rfl
theorem lq_script {P : St2 → Prop} {R0 R1 : Nat} {u : St2} {v1 v2 v3 : Int32} (I : lq_Fx R0 R1 u) (KK : ∀ u, lq_Fx R0 R1 u → P u) : wpX_script (fun _ u => P u) u v1 v2 v3 := by
  have J := KK _ I
  obtain ⟨no, ns, ng, ni, nb, nr, xopenOut, xopenGroup, xregionSize, xcounter, xmemory, xstmtOp, xstmtA, xstmtB, xstmtOwner, xoutRegion, xoutLoaded, xoutGroup, xoutAlign, xoutVma, xoutLma, xoutDot, xgroupStart, xgroupEnd, xgroupResident, xinKind, xinId, xinAlign, xinSize, xinFirstByte, xinStmt, xinLive, xinVma, xfedBytes, xrelocOwner, xrelocOffset, xrelocType, xrelocTarget, xrelocAddend, yinGroup, ystOut, yinBss, yinLen, rfl, hS, hN, hQ, hZ, hM⟩ := I
  by_cases b1 : v1 < 1
  · repeat (first | refine br_t (by assumption) ?_ | refine br_f (by assumption) ?_ | refine br_t (by decide) ?_ | refine br_f (by decide) ?_ | refine nm_e ?_ | refine And.intro (by assumption) ?_ | refine And.intro rfl ?_ | refine lx_isA (by assumption) ?_ | refine lx_nA (by assumption) ?_)
    exact J
  by_cases b2 : v1 ≤ 9
  · have K : ∀ {ns no ng : Nat} {xopenOut xopenGroup yinGroup : Int32} {xstmtOp xstmtA xstmtB xstmtOwner xoutRegion xoutLoaded xoutGroup ystOut : Nat → Int32}, lk_S ns no ng xstmtOp xstmtA xstmtB xstmtOwner ystOut xoutRegion xoutLoaded xoutGroup xopenOut xopenGroup yinGroup → P (0, (nI ns), xopenOut, xopenGroup, (nI no), (nI ng), (nI ni), (nI nb), (nI nr), xregionSize, xcounter, xmemory, xstmtOp, xstmtA, xstmtB, xstmtOwner, xoutRegion, xoutLoaded, xoutGroup, xoutAlign, xoutVma, xoutLma, xoutDot, xgroupStart, xgroupEnd, xgroupResident, xinKind, xinId, xinAlign, xinSize, xinFirstByte, xinStmt, xinLive, xinVma, xfedBytes, xrelocOwner, xrelocOffset, xrelocType, xrelocTarget, xrelocAddend) := by
      intro ns no ng xopenOut xopenGroup yinGroup xstmtOp xstmtA xstmtB xstmtOwner xoutRegion xoutLoaded xoutGroup ystOut hS
      exact KK _ ⟨no, ns, ng, ni, nb, nr, xopenOut, xopenGroup, xregionSize, xcounter, xmemory, xstmtOp, xstmtA, xstmtB, xstmtOwner, xoutRegion, xoutLoaded, xoutGroup, xoutAlign, xoutVma, xoutLma, xoutDot, xgroupStart, xgroupEnd, xgroupResident, xinKind, xinId, xinAlign, xinSize, xinFirstByte, xinStmt, xinLive, xinVma, xfedBytes, xrelocOwner, xrelocOffset, xrelocType, xrelocTarget, xrelocAddend, yinGroup, ystOut, yinBss, yinLen, rfl, hS, hN, hQ, hZ, hM⟩
    rcases lk_19 b1 b2 with rfl | rfl | rfl | rfl | rfl | rfl | rfl | rfl | rfl
    · exact lk_scr1 J hS K rfl
    · exact lk_scr2 J hS K rfl
    · exact lk_scr3 J hS K rfl
    · exact lk_scr4 J hS K rfl
    · exact lk_scr5 J hS K rfl
    · exact lk_scr6 J hS K rfl
    · exact lk_scr7 J hS K rfl
    · exact lk_scr8 J hS K rfl
    · exact lk_scr9 J hS K rfl
  · repeat (first | refine br_t (by assumption) ?_ | refine br_f (by assumption) ?_ | refine br_t (by decide) ?_ | refine br_f (by decide) ?_ | refine nm_e ?_ | refine And.intro (by assumption) ?_ | refine And.intro rfl ?_ | refine lx_isA (by assumption) ?_ | refine lx_nA (by assumption) ?_)
    exact J
end
end
section

section
/-! the class once linked -/
def lq_K (no ng R0 R1 : Nat) (rg ld gp vm lm dt gs ge gr : Nat → Int32) (V L D G0 GE : Nat → Nat) : Prop :=
  no ≤ 8 ∧ ng ≤ 4 ∧ (∀ k, k < no → lk_of ng rg ld gp k) ∧
  (∀ k, k < no → vm k = nI (V k) ∧ lm k = nI (L k) ∧ dt k = nI (D k) ∧ V k ≤ D k ∧ (rg k = 1 → 256 ≤ V k ∧ D k ≤ 256 + R1) ∧ (rg k = 0 → D k ≤ R0 ∧ L k = V k) ∧ (ld k = 1 → L k + (D k - V k) ≤ R0)) ∧
  (∀ j k, j < k → k < no → ld j = 1 → ld k = 1 → L j + (D j - V j) ≤ L k) ∧
  (∀ g, g < ng → gs g = nI (G0 g) ∧ ge g = nI (GE g) ∧ 256 ≤ G0 g ∧ G0 g ≤ GE g ∧ GE g < 2 ^ 30 ∧ (GE g = G0 g ∨ GE g ≤ 256 + R1)) ∧
  (∃ C1, lk_G2 rg gp no no ng false C1 V D G0 GE) ∧
  (∀ g, g < ng → gr g = -1 ∨ ∃ k, k < no ∧ gr g = nI k ∧ gp k = nI g)
def lq_L (ph : Int32) (no R0 R1 : Nat) (u : St2) : Prop := match u with
  | (xphase, xstmtCount, xopenOut, xopenGroup, xoutCount, xgroupCount, xinCount, xbyteCount, xrelocCount, xregionSize, xcounter, xmemory, xstmtOp, xstmtA, xstmtB, xstmtOwner, xoutRegion, xoutLoaded, xoutGroup, xoutAlign, xoutVma, xoutLma, xoutDot, xgroupStart, xgroupEnd, xgroupResident, xinKind, xinId, xinAlign, xinSize, xinFirstByte, xinStmt, xinLive, xinVma, xfedBytes, xrelocOwner, xrelocOffset, xrelocType, xrelocTarget, xrelocAddend) => ∃ (ng : Nat) (V L D G0 GE : Nat → Nat) (me : Nat → Int32), xphase = ph ∧ xoutCount = nI no ∧ xgroupCount = nI ng ∧ lk_Z xregionSize R0 R1 ∧ lq_K no ng R0 R1 xoutRegion xoutLoaded xoutGroup xoutVma xoutLma xoutDot xgroupStart xgroupEnd xgroupResident V L D G0 GE ∧ ((ph = 1 ∧ ∀ x, 256 ≤ x → x < 384 → xmemory x = 255) ∨ (ph = 2 ∧ lq_M R1 no ng xoutRegion xoutLoaded xoutGroup xgroupResident V L D G0 GE me xmemory))
/-- what the walk leaves, as lq_K has it -/
theorem lq_K_fin {ni no ng R0 R1 B : Nat} {rg ld gp gr : Nat → Int32} {own sz : Nat → Nat} {pl : Nat → Prop} {C0 C1 C1' : Nat} {V L D G0 GE IV : Nat → Nat} {ct vm lm dt gs ge xv os yg0 yg1 yv yl : Nat → Int32} {c0 c1 g0 yge grp k dot vma lma ing : Int32}
    (h : lk_W ni rg ld own sz pl B no no ng false C0 C1 V L D G0 GE IV ct vm lm dt gs ge xv os yg0 yg1 yv yl c0 c1 g0 yge grp k dot vma lma ing) (hB : B < 2 ^ 30) (h8 : no ≤ 8) (h4 : ng ≤ 4) (ho : ∀ k, k < no → lk_of ng rg ld gp k) (hv : lk_ex (lk_ov R0 R1 rg ld V L D) no 0 = false)
    (hU : lk_G2 rg gp no no ng false C1' V D G0 GE) (hr : ∀ g, g < ng → gr g = -1 ∨ ∃ k, k < no ∧ gr g = nI k ∧ gp k = nI g) : lq_K no ng R0 R1 rg ld gp vm lm dt gs ge gr V L D G0 GE := by
  have hf := (lk_W_fin h hB ho hv).1
  obtain ⟨⟨_, b2, _, b4, _, b6, _, _⟩, _, _, _, w5, _⟩ := h
  refine ⟨h8, h4, ho, fun k hk => ?_, fun i j hij hj => b4 i j (by omega) hj hij, fun g hg => ?_, ⟨C1', hU⟩, hr⟩
  · obtain ⟨t1, t2, t3, t4, t5, t6, t7, t8⟩ := hf k hk
    exact ⟨t1, t2, t3, t5, t6, fun r => ⟨t7 r, (b2 k hk).2.2.2.2 r⟩, t8⟩
  · obtain ⟨e1, e2⟩ := w5 g hg
    obtain ⟨d1, d2, d3, d4⟩ := b6 g hg
    refine ⟨e1, e2, d1, d2, by omega, ?_⟩
    rcases d4 with d4 | ⟨q, hq, er, ed⟩
    · exact Or.inl d4
    · have := ((hf q hq).2.2.2.2.2.1 er).2
      exact Or.inr (by omega)
end
end
section

section
/-! link -/
theorem lq_link {P : Int32 → St2 → Prop} {no R0 R1 : Nat} {u : St2} {gc : Int32} (I : lq_F no R0 R1 u) (hok : ∀ u, lq_L 1 no R0 R1 u → P 0 u) (hbad : ∀ r u, ¬ r = 0 → lq_F no R0 R1 u → P r u) : wpX_link P u gc := by
  obtain ⟨ns, ng, ni, nb, nr, xopenOut, xopenGroup, xregionSize, xcounter, xmemory, xstmtOp, xstmtA, xstmtB, xstmtOwner, xoutRegion, xoutLoaded, xoutGroup, xoutAlign, xoutVma, xoutLma, xoutDot, xgroupStart, xgroupEnd, xgroupResident, xinKind, xinId, xinAlign, xinSize, xinFirstByte, xinStmt, xinLive, xinVma, xfedBytes, xrelocOwner, xrelocOffset, xrelocType, xrelocTarget, xrelocAddend, yinGroup, ystOut, yinBss, yinLen, rfl, hS, hN, hQ, hZ, hM⟩ := id I
  have hof := lk_S_of hS
  obtain ⟨c1, c2, c3, c4, c5, c6, c7, c8, c9⟩ := id hS
  rcases Bool.eq_false_or_eq_true (lk_is xstmtOp ns) with his | his
  · rw [his, if_pos rfl] at c6
    exact br_t rfl (br_f (by rw [c6]; exact lk_nn1 (by omega)) (hbad _ _ (by decide) I))
  rw [his, if_neg (by decide)] at c6
  rcases Bool.eq_false_or_eq_true (lk_ig xstmtOp ns) with hig | hig
  · rw [hig, if_pos rfl] at c7
    exact br_t rfl (br_t c6 (br_f (by rw [c7]; exact lk_nn1 (by omega)) (hbad _ _ (by decide) I)))
  rw [hig, if_neg (by decide)] at c7 c8
  have h16 := hN.1
  have hq : lk_hq ni nr xrelocOwner xrelocTarget := ⟨hN.1, hQ.1, fun r hr => by
    obtain ⟨o, f, t, Z, a1, a2, _, _, _, _, _, a8, a9⟩ := hQ.2 r hr
    exact ⟨o, t, a1, a2, a8, a9⟩⟩
  obtain ⟨st, est⟩ : ∃ st, st = lk_as xinStmt ni (lk_fm xstmtOp xstmtA xstmtB xinKind xinId ns) := ⟨_, rfl⟩
  have hst : ∀ s, s < ni → st s = lk_fm xstmtOp xstmtA xstmtB xinKind xinId ns s := fun s hs => by rw [est]; exact lk_as_t hs
  have ht : lk_ht ni st := by
    intro s hs
    rw [hst s hs]
    rcases lk_fm_or (op := xstmtOp) (sa := xstmtA) (sb := xstmtB) (kd := xinKind) (id := xinId) (ns := ns) (s := s) with z | ⟨q, hq2, _, z⟩
    · exact Or.inl z
    · exact Or.inr ⟨q, by omega, z⟩
  obtain ⟨l1, el1⟩ : ∃ l1, l1 = lk_as xinLive ni (lk_l0 xstmtOp st gc) := ⟨_, rfl⟩
  obtain ⟨lv, elv⟩ : ∃ lv, lv = lk_lv xstmtOp st xrelocOwner xrelocTarget gc ni nr xinLive := ⟨_, rfl⟩
  have elv2 : lv = lk_it (lk_sp xrelocOwner xrelocTarget st ni) nr ni l1 := by
    rw [elv, el1]
    rfl
  have hT : ∀ r, r < nr → ∃ t, t < 16 ∧ xrelocTarget r = nI t := fun r hr => by
    obtain ⟨o, t, _, _, ht2, et⟩ := hq.2.2 r hr
    exact ⟨t, ht2, et⟩
  have HH : lk_H (lk_sp xrelocOwner xrelocTarget st ni) nr ni := lk_sp_H (by omega) hT
  have fx : lk_ps (lk_sp xrelocOwner xrelocTarget st ni) nr lv = lv := by
    rw [elv2]
    exact lk_it_fx HH l1
  have la : lk_la st lv ni := by
    rw [elv2]
    refine lk_it_la (by omega) hT (fun s hs h => ?_) ni
    rw [el1, lk_as_t hs] at h
    exact lk_l0_a h
  have hA : lk_hA ni ns xstmtOp st lv := by
    refine ⟨c1, fun s hs h => ?_⟩
    have nz := la s hs h
    rcases lk_fm_or (op := xstmtOp) (sa := xstmtA) (sb := xstmtB) (kd := xinKind) (id := xinId) (ns := ns) (s := s) with z | ⟨q, hq2, ho, z⟩
    · exact absurd ((hst s hs).trans z) nz
    · exact ⟨q, hq2, ho, (hst s hs).trans z⟩
  have hl : lk_hl ni no ns st lv xstmtOwner ystOut := by
    refine ⟨c2, c1, fun s hs h => ?_⟩
    obtain ⟨q, hq2, ho, e⟩ := hA.2 s hs h
    obtain ⟨_, p1, p2, p3, p4⟩ := lk_S_i c9 hq2 ho
    exact ⟨q, _, hq2, e, by omega, p3, p4⟩
  rcases Bool.eq_false_or_eq_true (lk_ex (lk_ud xrelocOwner xrelocTarget st lv ni) nr 0) with hU | hU
  · exact br_t rfl (br_t c6 (br_t c7 (lx_as2 h16 c1 est (lx_live2 hq ht elv (lx_ud hq (fun _ => br_f (by decide) (hbad _ (0, (nI ns), xopenOut, xopenGroup, (nI no), (nI ng), (nI ni), (nI nb), (nI nr), xregionSize, xcounter, xmemory, xstmtOp, xstmtA, xstmtB, xstmtOwner, xoutRegion, xoutLoaded, xoutGroup, xoutAlign, xoutVma, xoutLma, xoutDot, xgroupStart, xgroupEnd, xgroupResident, xinKind, xinId, xinAlign, xinSize, xinFirstByte, st, lv, xinVma, xfedBytes, xrelocOwner, xrelocOffset, xrelocType, xrelocTarget, xrelocAddend) (by decide) ⟨ns, ng, ni, nb, nr, xopenOut, xopenGroup, xregionSize, xcounter, xmemory, xstmtOp, xstmtA, xstmtB, xstmtOwner, xoutRegion, xoutLoaded, xoutGroup, xoutAlign, xoutVma, xoutLma, xoutDot, xgroupStart, xgroupEnd, xgroupResident, xinKind, xinId, xinAlign, xinSize, xinFirstByte, st, lv, xinVma, xfedBytes, xrelocOwner, xrelocOffset, xrelocType, xrelocTarget, xrelocAddend, yinGroup, ystOut, yinBss, yinLen, rfl, hS, hN, hQ, hZ, hM⟩)) (fun z => Bool.noConfusion (hU.symm.trans z)))))))
  have nu := fun z : lk_ex (lk_ud xrelocOwner xrelocTarget st lv ni) nr 0 = true => Bool.noConfusion (P := False) (z.symm.trans hU)
  have hcl : ∀ r, r < nr → lv (xrelocOwner r).toNatClampNeg = 1 → ∃ t, t < ni ∧ xrelocTarget r = nI t ∧ lv t = 1 := by
    intro r hr hlv
    obtain ⟨o, t, ho, eo, ht2, et⟩ := hq.2.2 r hr
    have hn := lk_ex_no nr 0 hU r (Nat.zero_le r) (by omega)
    have on : lk_on xrelocTarget st ni r = true := Decidable.byContradiction (fun z => hn (decide_eq_true ⟨hlv, z⟩))
    obtain ⟨p1, p2⟩ := (lk_on_t (st := st) (ni := ni) (by omega) (by omega) et).mp on
    rw [eo, nI_clamp (by omega)] at hlv
    exact ⟨t, p1, et, lk_sp_cl (by omega) (lk_fx_st HH fx hr) (by omega) eo (by omega) et hlv p1 p2⟩
  rcases Bool.eq_false_or_eq_true (lk_ex (lk_nl xinKind st lv xoutLoaded xstmtOwner) ni 0) with hL | hL
  · exact br_t rfl (br_t c6 (br_t c7 (lx_as2 h16 c1 est (lx_live2 hq ht elv (lx_ud hq (fun z => (nu z).elim) (fun _ => br_t rfl (lx_nl h16 hl (fun _ => br_f (by decide) (hbad _ (0, (nI ns), xopenOut, xopenGroup, (nI no), (nI ng), (nI ni), (nI nb), (nI nr), xregionSize, xcounter, xmemory, xstmtOp, xstmtA, xstmtB, xstmtOwner, xoutRegion, xoutLoaded, xoutGroup, xoutAlign, xoutVma, xoutLma, xoutDot, xgroupStart, xgroupEnd, xgroupResident, xinKind, xinId, xinAlign, xinSize, xinFirstByte, st, lv, xinVma, xfedBytes, xrelocOwner, xrelocOffset, xrelocType, xrelocTarget, xrelocAddend) (by decide) ⟨ns, ng, ni, nb, nr, xopenOut, xopenGroup, xregionSize, xcounter, xmemory, xstmtOp, xstmtA, xstmtB, xstmtOwner, xoutRegion, xoutLoaded, xoutGroup, xoutAlign, xoutVma, xoutLma, xoutDot, xgroupStart, xgroupEnd, xgroupResident, xinKind, xinId, xinAlign, xinSize, xinFirstByte, st, lv, xinVma, xfedBytes, xrelocOwner, xrelocOffset, xrelocType, xrelocTarget, xrelocAddend, yinGroup, ystOut, yinBss, yinLen, rfl, hS, hN, hQ, hZ, hM⟩)) (fun z => Bool.noConfusion (hL.symm.trans z)))))))))
  have nn := fun z : lk_ex (lk_nl xinKind st lv xoutLoaded xstmtOwner) ni 0 = true => Bool.noConfusion (P := False) (z.symm.trans hL)
  have hLd : ∀ s, s < ni → lv s = 1 → ¬ xinKind s = 3 → xoutLoaded (xstmtOwner (st s).toNatClampNeg).toNatClampNeg = 1 := by
    intro s hs hlv hk3
    obtain ⟨q, o, hq2, eq, ho, ek, _⟩ := hl.2.2 s hs hlv
    have hn := lk_ex_no ni 0 hL s (Nat.zero_le s) (by omega)
    have h0 : ¬ xoutLoaded (xstmtOwner (st s).toNatClampNeg).toNatClampNeg = 0 := fun z => hn (decide_eq_true ⟨hlv, hk3, z⟩)
    have own : (xstmtOwner (st s).toNatClampNeg).toNatClampNeg = o := by rw [eq, nI_clamp (by omega), ek, nI_clamp (by omega)]
    rw [own] at h0 ⊢
    rcases hof o ho with ⟨_, z, _⟩ | ⟨_, z, _⟩
    · exact z
    · exact z.resolve_left h0
  obtain ⟨b, C0n, C1n, Vn, Ln, Dn, G0n, GEn, IVn, ct, oa, vm, lm, dt, gs, ge, xv, os, yg0, yg1, yv, yl, d0, d1, d2, d3, d4, d5, d6, d7, d8, d9, hW, jX⟩ := lk_pa (ns := ns) (no := no) (ng := ng) (ni := ni) (nb := nb) (nr := nr) (xphase := 0) (xopenOut := xopenOut) (xopenGroup := xopenGroup) (xregionSize := xregionSize) (xcounter := xcounter) (xmemory := xmemory) (xstmtOp := xstmtOp) (xstmtA := xstmtA) (xstmtB := xstmtB) (xstmtOwner := xstmtOwner) (xoutRegion := xoutRegion) (xoutLoaded := xoutLoaded) (xoutGroup := xoutGroup) (xoutAlign := xoutAlign) (xoutVma := xoutVma) (xoutLma := xoutLma) (xoutDot := xoutDot) (xgroupStart := xgroupStart) (xgroupEnd := xgroupEnd) (xgroupResident := xgroupResident) (xinKind := xinKind) (xinId := xinId) (xinAlign := xinAlign) (xinSize := xinSize) (xinFirstByte := xinFirstByte) (xinStmt := st) (xinLive := lv) (xinVma := xinVma) (xfedBytes := xfedBytes) (xrelocOwner := xrelocOwner) (xrelocOffset := xrelocOffset) (xrelocType := xrelocType) (xrelocTarget := xrelocTarget) (xrelocAddend := xrelocAddend) (ystOut := ystOut) (youtSize := (fun _ => 0)) (ygStart := (fun _ => 0)) (ygEnd := (fun _ => 0)) (yinBss := yinBss) (yinLen := yinLen) (yinVma := (fun _ => 0)) (yinLma := (fun _ => 0)) c9 c4 c5 c2 c3 hN hA hl
  cases b with
  | false =>
    exact br_t rfl (br_t c6 (br_t c7 (lx_as2 h16 c1 est (lx_live2 hq ht elv (lx_ud hq (fun z => (nu z).elim) (fun _ => br_t rfl (lx_nl h16 hl (fun z => (nn z).elim) (fun _ => br_t rfl (jX _ (br_t rfl (hbad _ (0, (nI ns), xopenOut, xopenGroup, (nI no), (nI ng), (nI ni), (nI nb), (nI nr), xregionSize, ct, xmemory, xstmtOp, xstmtA, xstmtB, xstmtOwner, xoutRegion, xoutLoaded, xoutGroup, oa, vm, lm, dt, gs, ge, xgroupResident, xinKind, xinId, xinAlign, xinSize, xinFirstByte, st, lv, xv, xfedBytes, xrelocOwner, xrelocOffset, xrelocType, xrelocTarget, xrelocAddend) (by decide) ⟨ns, ng, ni, nb, nr, xopenOut, xopenGroup, xregionSize, ct, xmemory, xstmtOp, xstmtA, xstmtB, xstmtOwner, xoutRegion, xoutLoaded, xoutGroup, oa, vm, lm, dt, gs, ge, xgroupResident, xinKind, xinId, xinAlign, xinSize, xinFirstByte, st, lv, xv, xfedBytes, xrelocOwner, xrelocOffset, xrelocType, xrelocTarget, xrelocAddend, yinGroup, ystOut, yinBss, yinLen, rfl, hS, hN, hQ, hZ, hM⟩))))))))))) 
  | true =>
    obtain ⟨hW, hUU⟩ := hW rfl
    obtain ⟨hk, hd, hos, hF, hG, hct⟩ := lk_asm1 (oy := ystOut) (gp := xoutGroup) hW his c4 c2 c1 hof hl
    rcases Bool.eq_false_or_eq_true (lk_ex (lk_ov R0 R1 xoutRegion xoutLoaded Vn Ln Dn) no 0) with hO | hO
    · exact br_t rfl (br_t c6 (br_t c7 (lx_as2 h16 c1 est (lx_live2 hq ht elv (lx_ud hq (fun z => (nu z).elim) (fun _ => br_t rfl (lx_nl h16 hl (fun z => (nn z).elim) (fun _ => br_t rfl (jX _ (br_f (by decide) (lx_ov hZ hk hd (fun _ => br_f (by decide) (hbad _ (0, (nI ns), xopenOut, xopenGroup, (nI no), (nI ng), (nI ni), (nI nb), (nI nr), xregionSize, ct, xmemory, xstmtOp, xstmtA, xstmtB, xstmtOwner, xoutRegion, xoutLoaded, xoutGroup, oa, vm, lm, dt, gs, ge, xgroupResident, xinKind, xinId, xinAlign, xinSize, xinFirstByte, st, lv, xv, xfedBytes, xrelocOwner, xrelocOffset, xrelocType, xrelocTarget, xrelocAddend) (by decide) ⟨ns, ng, ni, nb, nr, xopenOut, xopenGroup, xregionSize, ct, xmemory, xstmtOp, xstmtA, xstmtB, xstmtOwner, xoutRegion, xoutLoaded, xoutGroup, oa, vm, lm, dt, gs, ge, xgroupResident, xinKind, xinId, xinAlign, xinSize, xinFirstByte, st, lv, xv, xfedBytes, xrelocOwner, xrelocOffset, xrelocType, xrelocTarget, xrelocAddend, yinGroup, ystOut, yinBss, yinLen, rfl, hS, hN, hQ, hZ, hM⟩)) (fun z => Bool.noConfusion (hO.symm.trans z)))))))))))))
    · have no1 := fun z : lk_ex (lk_ov R0 R1 xoutRegion xoutLoaded Vn Ln Dn) no 0 = true => Bool.noConfusion (P := False) (z.symm.trans hO)
      have hUU2 : lk_G2 xoutRegion xoutGroup no no ng false C1n Vn Dn G0n GEn := by
        unfold lk_U at hUU
        rw [lk_nc_f his, ← c4, ← c5, hig] at hUU
        exact hUU
      have hKK : lq_K no ng R0 R1 xoutRegion xoutLoaded xoutGroup vm lm dt gs ge (lk_as xgroupResident ng (fun g => lk_f1 xoutGroup no (nI g))) Vn Ln Dn G0n GEn := by
        have hW3 := hW
        unfold lk_WI at hW3
        rw [lk_nc_f his, ← c4, ← c5, hig] at hW3
        refine lq_K_fin hW3 (by omega) c2 c3 hof hO hUU2 (fun g hgn => ?_)
        rw [lk_as_t hgn]
        rcases lk_ff_or (fun k => decide (xoutGroup k = nI g)) no 0 with z | ⟨k2, _, h2, h3, z⟩
        · exact Or.inl z
        · exact Or.inr ⟨k2, by omega, z, of_decide_eq_true h3⟩
      have h128 : ∀ k, k < no → xoutLoaded k = 1 → Ln k + (Dn k - Vn k) ≤ 128 := fun k hkn hl1 => by
        have h1 := (hKK.2.2.2.1 k hkn).2.2.2.2.2.2 hl1
        have h2 := hZ.2.2.2.1
        omega
      have dj := lk_dj2 (kd := xinKind) (oy := ystOut) hW his hl hLd
      obtain ⟨m1, mf, hI1, hI3, xrom⟩ := lx_rom (ns := ns) (no := no) (ng := ng) (ni := ni) (nb := nb) (nr := nr) (xphase := 0) (xopenOut := xopenOut) (xopenGroup := xopenGroup) (xregionSize := xregionSize) (xcounter := ct) (xmemory := xmemory) (xstmtOp := xstmtOp) (xstmtA := xstmtA) (xstmtB := xstmtB) (xstmtOwner := xstmtOwner) (xoutRegion := xoutRegion) (xoutLoaded := xoutLoaded) (xoutGroup := xoutGroup) (xoutAlign := oa) (xoutVma := vm) (xoutLma := lm) (xoutDot := dt) (xgroupStart := gs) (xgroupEnd := ge) (xgroupResident := xgroupResident) (xinKind := xinKind) (xinId := xinId) (xinAlign := xinAlign) (xinSize := xinSize) (xinFirstByte := xinFirstByte) (xinStmt := st) (xinLive := lv) (xinVma := xv) (xfedBytes := xfedBytes) (xrelocOwner := xrelocOwner) (xrelocOffset := xrelocOffset) (xrelocType := xrelocType) (xrelocTarget := xrelocTarget) (xrelocAddend := xrelocAddend) (yv := yv) (yl := yl) (oy := ystOut) hk hd h128 c1 hF hG hLd hN hQ hcl dj
      have mm := lk_mem3 hW his c4 hl hLd h128 hI1 hI3
      refine br_t rfl (br_t c6 (br_t c7 (lx_as2 h16 c1 est (lx_live2 hq ht elv (lx_ud hq (fun z => (nu z).elim) (fun _ => br_t rfl (lx_nl h16 hl (fun z => (nn z).elim) (fun _ => br_t rfl (jX _ (br_f (by decide) (lx_ov hZ hk hd (fun z => (no1 z).elim) (fun _ => br_t rfl (xrom _ (lx_res c2 c3 (hok _ ?_)))))))))))))))
      exact ⟨ng, Vn, Ln, Dn, G0n, GEn, mf, rfl, rfl, rfl, hZ, hKK, Or.inl ⟨rfl, fun x x1 x2 => (mm x (by omega)).trans (hM x x2)⟩⟩
end
end
section

section
theorem lx_fill3 {post : St2 → Prop} {xphase xstmtCount xopenOut xopenGroup xoutCount xgroupCount xinCount xbyteCount xrelocCount : Int32} {xregionSize xcounter xmemory xstmtOp xstmtA xstmtB xstmtOwner xoutRegion xoutLoaded xoutGroup xoutAlign xoutVma xoutLma xoutDot xgroupStart xgroupEnd xgroupResident xinKind xinId xinAlign xinSize xinFirstByte xinStmt xinLive xinVma xfedBytes xrelocOwner xrelocOffset xrelocType xrelocTarget xrelocAddend : Nat → Int32} {s e : Nat} {v z w : Int32} (hz : z = nI s) (hw : w = nI e) (he : e ≤ s ∨ e ≤ 384) (hs : s < 2 ^ 31) (h : post (xphase, xstmtCount, xopenOut, xopenGroup, xoutCount, xgroupCount, xinCount, xbyteCount, xrelocCount, xregionSize, xcounter, (lk_wr xmemory s e (fun _ => v)), xstmtOp, xstmtA, xstmtB, xstmtOwner, xoutRegion, xoutLoaded, xoutGroup, xoutAlign, xoutVma, xoutLma, xoutDot, xgroupStart, xgroupEnd, xgroupResident, xinKind, xinId, xinAlign, xinSize, xinFirstByte, xinStmt, xinLive, xinVma, xfedBytes, xrelocOwner, xrelocOffset, xrelocType, xrelocTarget, xrelocAddend)) : wpX_fill post (xphase, xstmtCount, xopenOut, xopenGroup, xoutCount, xgroupCount, xinCount, xbyteCount, xrelocCount, xregionSize, xcounter, xmemory, xstmtOp, xstmtA, xstmtB, xstmtOwner, xoutRegion, xoutLoaded, xoutGroup, xoutAlign, xoutVma, xoutLma, xoutDot, xgroupStart, xgroupEnd, xgroupResident, xinKind, xinId, xinAlign, xinSize, xinFirstByte, xinStmt, xinLive, xinVma, xfedBytes, xrelocOwner, xrelocOffset, xrelocType, xrelocTarget, xrelocAddend) z w v := by
  rcases he with c | c
  · subst hz
    subst hw
    rw [lk_wr_e c] at h
    exact ⟨1, br_t (nI_le c hs) h⟩
  · exact lx_fill2 hz hw c hs h
theorem lx_ib {post : Int32 → Prop} {ns no ng ni nb nr : Nat} {xphase xopenOut xopenGroup : Int32} {xregionSize xcounter xmemory xstmtOp xstmtA xstmtB xstmtOwner xoutRegion xoutLoaded xoutGroup xoutAlign xoutVma xoutLma xoutDot xgroupStart xgroupEnd xgroupResident xinKind xinId xinAlign xinSize xinFirstByte xinStmt xinLive xinVma xfedBytes xrelocOwner xrelocOffset xrelocType xrelocTarget xrelocAddend : Nat → Int32} {k x l v : Nat} (hk : k < 8) (ev : xoutVma k = nI v) (el : xoutLma k = nI l) (hv : v ≤ x) (hl : xoutLoaded k = 1 → l + (x - v) < 384) (h : post (if xoutLoaded k = 1 then xmemory (l + (x - v)) else 0)) : wpX_imageByte post (xphase, (nI ns), xopenOut, xopenGroup, (nI no), (nI ng), (nI ni), (nI nb), (nI nr), xregionSize, xcounter, xmemory, xstmtOp, xstmtA, xstmtB, xstmtOwner, xoutRegion, xoutLoaded, xoutGroup, xoutAlign, xoutVma, xoutLma, xoutDot, xgroupStart, xgroupEnd, xgroupResident, xinKind, xinId, xinAlign, xinSize, xinFirstByte, xinStmt, xinLive, xinVma, xfedBytes, xrelocOwner, xrelocOffset, xrelocType, xrelocTarget, xrelocAddend) (nI k) (nI x) := by
  have e : (nI k).toNatClampNeg = k := nI_clamp (by omega)
  have v8 : vp_in (nI k) 8 := vp_in_nI hk (by omega)
  refine ⟨v8, ?_⟩
  by_cases a : xoutLoaded k = 1
  · have hb := hl a
    have ex : xoutLma (nI k).toNatClampNeg + nI x - xoutVma (nI k).toNatClampNeg = nI (l + (x - v)) := by rw [e, el, ev, nI_add, pk_sub (by omega), show l + x - v = l + (x - v) by omega]
    rw [if_pos a] at h
    refine br_t (by rw [e]; exact a) ⟨v8, v8, by rw [ex]; exact vp_in_nI hb (by omega), ?_⟩
    rw [ex, nI_clamp (by omega)]
    exact h
  · rw [if_neg a] at h
    exact br_f (by rw [e]; exact a) h
theorem lx_ini {post : St2 → Prop} {ns no ng ni nb nr : Nat} {xphase xopenOut xopenGroup : Int32} {xregionSize xcounter xmemory xstmtOp xstmtA xstmtB xstmtOwner xoutRegion xoutLoaded xoutGroup xoutAlign xoutVma xoutLma xoutDot xgroupStart xgroupEnd xgroupResident xinKind xinId xinAlign xinSize xinFirstByte xinStmt xinLive xinVma xfedBytes xrelocOwner xrelocOffset xrelocType xrelocTarget xrelocAddend : Nat → Int32} {k v d l : Nat} (hk : k < 8) (ev : xoutVma k = nI v) (ed : xoutDot k = nI d) (el : xoutLma k = nI l) (hvd : v ≤ d) (h256 : 256 ≤ v) (hd : d ≤ 384) (hl : xoutLoaded k = 1 → l + (d - v) ≤ 128) (h : post (xphase, (nI ns), xopenOut, xopenGroup, (nI no), (nI ng), (nI ni), (nI nb), (nI nr), xregionSize, xcounter, (lk_wr xmemory v d (fun j => if xoutLoaded k = 1 then xmemory (l + (j - v)) else 0)), xstmtOp, xstmtA, xstmtB, xstmtOwner, xoutRegion, xoutLoaded, xoutGroup, xoutAlign, xoutVma, xoutLma, xoutDot, xgroupStart, xgroupEnd, xgroupResident, xinKind, xinId, xinAlign, xinSize, xinFirstByte, xinStmt, xinLive, xinVma, xfedBytes, xrelocOwner, xrelocOffset, xrelocType, xrelocTarget, xrelocAddend)) : wpX_initialise post (xphase, (nI ns), xopenOut, xopenGroup, (nI no), (nI ng), (nI ni), (nI nb), (nI nr), xregionSize, xcounter, xmemory, xstmtOp, xstmtA, xstmtB, xstmtOwner, xoutRegion, xoutLoaded, xoutGroup, xoutAlign, xoutVma, xoutLma, xoutDot, xgroupStart, xgroupEnd, xgroupResident, xinKind, xinId, xinAlign, xinSize, xinFirstByte, xinStmt, xinLive, xinVma, xfedBytes, xrelocOwner, xrelocOffset, xrelocType, xrelocTarget, xrelocAddend) (nI k) := by
  have e : (nI k).toNatClampNeg = k := nI_clamp (by omega)
  have v8 : vp_in (nI k) 8 := vp_in_nI hk (by omega)
  have H : ∀ c x, x + c = d → v ≤ x → wX_initialise_14 post (nI k) (nI d) xphase (nI ns) xopenOut xopenGroup (nI no) (nI ng) (nI ni) (nI nb) (nI nr) (c + 1) (nI x) xregionSize xcounter (lk_wr xmemory v x (fun j => if xoutLoaded k = 1 then xmemory (l + (j - v)) else 0)) xstmtOp xstmtA xstmtB xstmtOwner xoutRegion xoutLoaded xoutGroup xoutAlign xoutVma xoutLma xoutDot xgroupStart xgroupEnd xgroupResident xinKind xinId xinAlign xinSize xinFirstByte xinStmt xinLive xinVma xfedBytes xrelocOwner xrelocOffset xrelocType xrelocTarget xrelocAddend := by
    intro c
    induction c with
    | zero =>
      intro x hx _
      have e1 : x = d := hx
      subst e1
      exact br_t (nI_le (by omega) (by omega)) h
    | succ c ih =>
      intro x hx hvx
      refine br_f (nI_ge (by omega) (by omega)) (lx_ib hk ev el hvx (fun a => by have := hl a; omega) ⟨vp_in_nI (by omega) (by omega), nm_r ?_ (nm_r (nI_1 x) (ih (x + 1) (by omega) (by omega)))⟩)
      rw [nI_clamp (by omega)]
      refine lk_wr_s hvx ?_
      by_cases a : xoutLoaded k = 1
      · have hb := hl a
        rw [if_pos a, if_pos a, lk_wr_f (by omega)]
      · rw [if_neg a, if_neg a]
  have H2 := H (d - v) v (by omega) (Nat.le_refl v)
  rw [lk_wr_0] at H2
  exact ⟨v8, nm_r (e' := nI d) (by rw [e, ed]) ⟨v8, nm_r (e' := nI v) (by rw [e, ev]) ⟨_, H2⟩⟩⟩
theorem lx_cov {post : Int32 → Prop} {ns no ng ni nb nr : Nat} {xphase xopenOut xopenGroup : Int32} {xregionSize xcounter xmemory xstmtOp xstmtA xstmtB xstmtOwner xoutRegion xoutLoaded xoutGroup xoutAlign xoutVma xoutLma xoutDot xgroupStart xgroupEnd xgroupResident xinKind xinId xinAlign xinSize xinFirstByte xinStmt xinLive xinVma xfedBytes xrelocOwner xrelocOffset xrelocType xrelocTarget xrelocAddend : Nat → Int32} {k x v d : Nat} (hk : k < 8) (hx : x < 2 ^ 30) (hd : d < 2 ^ 30) (hv : v < 2 ^ 30) (ev : xoutVma k = nI v) (ed : xoutDot k = nI d) (h1 : v ≤ x → x < d → post 1) (h0 : ¬ (v ≤ x ∧ x < d) → post 0) : wpX_covers post (xphase, (nI ns), xopenOut, xopenGroup, (nI no), (nI ng), (nI ni), (nI nb), (nI nr), xregionSize, xcounter, xmemory, xstmtOp, xstmtA, xstmtB, xstmtOwner, xoutRegion, xoutLoaded, xoutGroup, xoutAlign, xoutVma, xoutLma, xoutDot, xgroupStart, xgroupEnd, xgroupResident, xinKind, xinId, xinAlign, xinSize, xinFirstByte, xinStmt, xinLive, xinVma, xfedBytes, xrelocOwner, xrelocOffset, xrelocType, xrelocTarget, xrelocAddend) (nI k) (nI x) := by
  have e : (nI k).toNatClampNeg = k := nI_clamp (by omega)
  have v8 : vp_in (nI k) 8 := vp_in_nI hk (by omega)
  refine ⟨v8, ?_⟩
  by_cases a : v ≤ x
  · refine br_f (by rw [e, ev]; exact nI_nlt a (by omega)) ⟨v8, ?_⟩
    by_cases b : x < d
    · exact br_f (by rw [e, ed]; exact nI_ge b (by omega)) (h1 a b)
    · exact br_t (by rw [e, ed]; exact nI_le (by omega) (by omega)) (h0 (fun z => b z.2))
  · exact br_t (by rw [e, ev]; exact nI_lt (by omega) (by omega)) (h0 (fun z => a z.1))
end
end
section

section
/-! startup and loadOverlay -/
theorem lq_ib {post : Int32 → Prop} {xphase xstmtCount xopenOut xopenGroup xoutCount xgroupCount xinCount xbyteCount xrelocCount : Int32} {xregionSize xcounter xmemory xstmtOp xstmtA xstmtB xstmtOwner xoutRegion xoutLoaded xoutGroup xoutAlign xoutVma xoutLma xoutDot xgroupStart xgroupEnd xgroupResident xinKind xinId xinAlign xinSize xinFirstByte xinStmt xinLive xinVma xfedBytes xrelocOwner xrelocOffset xrelocType xrelocTarget xrelocAddend : Nat → Int32} {k x l v : Nat} (hk : k < 8) (ev : xoutVma k = nI v) (el : xoutLma k = nI l) (hv : v ≤ x) (hl : xoutLoaded k = 1 → l + (x - v) < 384) (h : post (if xoutLoaded k = 1 then xmemory (l + (x - v)) else 0)) : wpX_imageByte post (xphase, xstmtCount, xopenOut, xopenGroup, xoutCount, xgroupCount, xinCount, xbyteCount, xrelocCount, xregionSize, xcounter, xmemory, xstmtOp, xstmtA, xstmtB, xstmtOwner, xoutRegion, xoutLoaded, xoutGroup, xoutAlign, xoutVma, xoutLma, xoutDot, xgroupStart, xgroupEnd, xgroupResident, xinKind, xinId, xinAlign, xinSize, xinFirstByte, xinStmt, xinLive, xinVma, xfedBytes, xrelocOwner, xrelocOffset, xrelocType, xrelocTarget, xrelocAddend) (nI k) (nI x) := by
  have e : (nI k).toNatClampNeg = k := nI_clamp (by omega)
  have v8 : vp_in (nI k) 8 := vp_in_nI hk (by omega)
  refine ⟨v8, ?_⟩
  by_cases a : xoutLoaded k = 1
  · have hb := hl a
    have ex : xoutLma (nI k).toNatClampNeg + nI x - xoutVma (nI k).toNatClampNeg = nI (l + (x - v)) := by rw [e, el, ev, nI_add, pk_sub (by omega), show l + x - v = l + (x - v) by omega]
    rw [if_pos a] at h
    refine br_t (by rw [e]; exact a) ⟨v8, v8, by rw [ex]; exact vp_in_nI hb (by omega), ?_⟩
    rw [ex, nI_clamp (by omega)]
    exact h
  · rw [if_neg a] at h
    exact br_f (by rw [e]; exact a) h
theorem lq_ini {post : St2 → Prop} {xphase xstmtCount xopenOut xopenGroup xoutCount xgroupCount xinCount xbyteCount xrelocCount : Int32} {xregionSize xcounter xmemory xstmtOp xstmtA xstmtB xstmtOwner xoutRegion xoutLoaded xoutGroup xoutAlign xoutVma xoutLma xoutDot xgroupStart xgroupEnd xgroupResident xinKind xinId xinAlign xinSize xinFirstByte xinStmt xinLive xinVma xfedBytes xrelocOwner xrelocOffset xrelocType xrelocTarget xrelocAddend : Nat → Int32} {k v d l : Nat} (hk : k < 8) (ev : xoutVma k = nI v) (ed : xoutDot k = nI d) (el : xoutLma k = nI l) (hvd : v ≤ d) (h256 : 256 ≤ v) (hd : d ≤ 384) (hl : xoutLoaded k = 1 → l + (d - v) ≤ 128) (h : post (xphase, xstmtCount, xopenOut, xopenGroup, xoutCount, xgroupCount, xinCount, xbyteCount, xrelocCount, xregionSize, xcounter, (lk_wr xmemory v d (fun j => if xoutLoaded k = 1 then xmemory (l + (j - v)) else 0)), xstmtOp, xstmtA, xstmtB, xstmtOwner, xoutRegion, xoutLoaded, xoutGroup, xoutAlign, xoutVma, xoutLma, xoutDot, xgroupStart, xgroupEnd, xgroupResident, xinKind, xinId, xinAlign, xinSize, xinFirstByte, xinStmt, xinLive, xinVma, xfedBytes, xrelocOwner, xrelocOffset, xrelocType, xrelocTarget, xrelocAddend)) : wpX_initialise post (xphase, xstmtCount, xopenOut, xopenGroup, xoutCount, xgroupCount, xinCount, xbyteCount, xrelocCount, xregionSize, xcounter, xmemory, xstmtOp, xstmtA, xstmtB, xstmtOwner, xoutRegion, xoutLoaded, xoutGroup, xoutAlign, xoutVma, xoutLma, xoutDot, xgroupStart, xgroupEnd, xgroupResident, xinKind, xinId, xinAlign, xinSize, xinFirstByte, xinStmt, xinLive, xinVma, xfedBytes, xrelocOwner, xrelocOffset, xrelocType, xrelocTarget, xrelocAddend) (nI k) := by
  have e : (nI k).toNatClampNeg = k := nI_clamp (by omega)
  have v8 : vp_in (nI k) 8 := vp_in_nI hk (by omega)
  have H : ∀ c x, x + c = d → v ≤ x → wX_initialise_14 post (nI k) (nI d) xphase xstmtCount xopenOut xopenGroup xoutCount xgroupCount xinCount xbyteCount xrelocCount (c + 1) (nI x) xregionSize xcounter (lk_wr xmemory v x (fun j => if xoutLoaded k = 1 then xmemory (l + (j - v)) else 0)) xstmtOp xstmtA xstmtB xstmtOwner xoutRegion xoutLoaded xoutGroup xoutAlign xoutVma xoutLma xoutDot xgroupStart xgroupEnd xgroupResident xinKind xinId xinAlign xinSize xinFirstByte xinStmt xinLive xinVma xfedBytes xrelocOwner xrelocOffset xrelocType xrelocTarget xrelocAddend := by
    intro c
    induction c with
    | zero =>
      intro x hx _
      have e1 : x = d := hx
      subst e1
      exact br_t (nI_le (by omega) (by omega)) h
    | succ c ih =>
      intro x hx hvx
      refine br_f (nI_ge (by omega) (by omega)) (lq_ib hk ev el hvx (fun a => by have := hl a; omega) ⟨vp_in_nI (by omega) (by omega), nm_r ?_ (nm_r (nI_1 x) (ih (x + 1) (by omega) (by omega)))⟩)
      rw [nI_clamp (by omega)]
      refine lk_wr_s hvx ?_
      by_cases a : xoutLoaded k = 1
      · have hb := hl a
        rw [if_pos a, if_pos a, lk_wr_f (by omega)]
      · rw [if_neg a, if_neg a]
  have H2 := H (d - v) v (by omega) (Nat.le_refl v)
  rw [lk_wr_0] at H2
  exact ⟨v8, nm_r (e' := nI d) (by rw [e, ed]) ⟨v8, nm_r (e' := nI v) (by rw [e, ev]) ⟨_, H2⟩⟩⟩
theorem lq_su {P : St2 → Prop} {no R0 R1 : Nat} {u : St2} (I : lq_L 1 no R0 R1 u) (KK : ∀ u, lq_L 2 no R0 R1 u → P u) : wpX_startup (fun _ u => P u) u := by
  obtain ⟨xphase, xstmtCount, xopenOut, xopenGroup, xoutCount, xgroupCount, xinCount, xbyteCount, xrelocCount, xregionSize, xcounter, xmemory, xstmtOp, xstmtA, xstmtB, xstmtOwner, xoutRegion, xoutLoaded, xoutGroup, xoutAlign, xoutVma, xoutLma, xoutDot, xgroupStart, xgroupEnd, xgroupResident, xinKind, xinId, xinAlign, xinSize, xinFirstByte, xinStmt, xinLive, xinVma, xfedBytes, xrelocOwner, xrelocOffset, xrelocType, xrelocTarget, xrelocAddend⟩ := u
  obtain ⟨ng, V, L, D, G0, GE, me0, e1, e2, e3, hZ, hK, hM⟩ := I
  subst e1
  subst e2
  subst e3
  obtain ⟨h8, h4, hof, hk, has, hg, ⟨C1, hG⟩, hr⟩ := id hK
  have hR1 : R1 ≤ 128 := hZ.2.2.2.2.2
  have hR0 : R0 ≤ 128 := hZ.2.2.2.1
  rcases hM with ⟨_, hM⟩ | ⟨z, _⟩
  · have S2 : ∀ d k, k + d = no → ∀ m : Nat → Int32, lq_M R1 k ng xoutRegion xoutLoaded xoutGroup xgroupResident V L D G0 GE xmemory m → wX_startup_45 (fun _ u => P u) (d + 1) (nI k) 1 xstmtCount xopenOut xopenGroup (nI no) (nI ng) xinCount xbyteCount xrelocCount xregionSize xcounter m xstmtOp xstmtA xstmtB xstmtOwner xoutRegion xoutLoaded xoutGroup xoutAlign xoutVma xoutLma xoutDot xgroupStart xgroupEnd xgroupResident xinKind xinId xinAlign xinSize xinFirstByte xinStmt xinLive xinVma xfedBytes xrelocOwner xrelocOffset xrelocType xrelocTarget xrelocAddend := by
      intro d
      induction d with
      | zero =>
        intro k hkd m hm
        have e1 : k = no := hkd
        subst e1
        exact br_t (nI_le (by omega) (by omega)) (KK _ ⟨ng, V, L, D, G0, GE, xmemory, rfl, rfl, rfl, hZ, hK, Or.inr ⟨rfl, hm⟩⟩)
      | succ d ih =>
        intro k hkd m hm
        have hkn : k < no := by omega
        obtain ⟨t1, t2, t3, t4, t5, t6, t7⟩ := hk k hkn
        have e : (nI k).toNatClampNeg = k := nI_clamp (by omega)
        have v8 : vp_in (nI k) 8 := vp_in_nI (by omega) (by omega)
        have n1 : ¬ nI no ≤ nI k := nI_ge (by omega) (by omega)
        rcases hof k hkn with ⟨r, _, rg1⟩ | ⟨r, _, rg1⟩
        · have r' : ¬ xoutRegion (nI k).toNatClampNeg = 1 := by rw [e, r]; decide
          refine br_f n1 ⟨v8, br_f r' (nm_r (nI_1 k) (ih (k + 1) (by omega) m (lq_M_n (fun z => ?_) (fun g hgn z => ?_) hm)))⟩
          · rw [r] at z
            exact absurd z.1 (by decide)
          · rcases hr g hgn with y | ⟨q, hq, y, yg⟩
            · exact lk_nn1 (show k < 2 ^ 31 by omega) (z.symm.trans y)
            · have eq : k = q := (nI_eq (by omega) (by omega)).mp (z.symm.trans y)
              rw [← eq, rg1] at yg
              exact lk_nn1 (show g < 2 ^ 31 by omega) yg.symm
        · have r' : xoutRegion (nI k).toNatClampNeg = 1 := by rw [e]; exact r
          obtain ⟨t8, t9⟩ := t5 r
          have hl : xoutLoaded k = 1 → L k + (D k - V k) ≤ 128 := fun z => by have := t7 z; omega
          rcases rg1 with z | ⟨g, hgn, z⟩
          · have hm2 := lq_M_w hG h8 hkn r (Or.inl z) t8 hl hm
            exact br_f n1 ⟨v8, br_t r' ⟨v8, br_t (by rw [e]; exact z) (lq_ini (by omega) t1 t3 t2 t4 t8 (by omega) hl (nm_r (nI_1 k) (ih (k + 1) (by omega) _ hm2)))⟩⟩
          · have eg : (nI g).toNatClampNeg = g := nI_clamp (by omega)
            have z' : xoutGroup (nI k).toNatClampNeg = nI g := by rw [e]; exact z
            have nz : ¬ xoutGroup (nI k).toNatClampNeg = -1 := by rw [z']; exact lk_nn1 (by omega)
            have vg : vp_in (xoutGroup (nI k).toNatClampNeg) 4 := by rw [z']; exact vp_in_nI (by omega) (by omega)
            by_cases c : xgroupResident g = nI k
            · have hm2 := lq_M_w hG h8 hkn r (Or.inr ⟨g, hgn, z, c⟩) t8 hl hm
              exact br_f n1 ⟨v8, br_t r' ⟨v8, br_f nz ⟨v8, br_f nz ⟨v8, vg, br_t (by rw [z', eg]; exact c) (br_f (by decide) (lq_ini (by omega) t1 t3 t2 t4 t8 (by omega) hl (nm_r (nI_1 k) (ih (k + 1) (by omega) _ hm2))))⟩⟩⟩⟩
            · refine br_f n1 ⟨v8, br_t r' ⟨v8, br_f nz ⟨v8, br_f nz ⟨v8, vg, br_f (by rw [z', eg]; exact c) (br_t rfl (nm_r (nI_1 k) (ih (k + 1) (by omega) m (lq_M_n (fun y => ?_) (fun f hfn y => ?_) hm))))⟩⟩⟩⟩
              · rw [z] at y
                exact lk_nn1 (show g < 2 ^ 31 by omega) y.2
              · rcases hr f hfn with w | ⟨q, hq, w, wg⟩
                · exact lk_nn1 (show k < 2 ^ 31 by omega) (y.symm.trans w)
                · have eq : k = q := (nI_eq (by omega) (by omega)).mp (y.symm.trans w)
                  rw [← eq, z] at wg
                  have ef : g = f := (nI_eq (by omega) (by omega)).mp wg
                  rw [← ef] at y
                  exact c y
    have S1 : ∀ d g, g + d = ng → ∀ m : Nat → Int32, lq_P R1 g G0 GE xmemory m → wX_startup_12 (fun _ u => P u) (d + 1) (nI g) 1 xstmtCount xopenOut xopenGroup (nI no) (nI ng) xinCount xbyteCount xrelocCount xregionSize xcounter m xstmtOp xstmtA xstmtB xstmtOwner xoutRegion xoutLoaded xoutGroup xoutAlign xoutVma xoutLma xoutDot xgroupStart xgroupEnd xgroupResident xinKind xinId xinAlign xinSize xinFirstByte xinStmt xinLive xinVma xfedBytes xrelocOwner xrelocOffset xrelocType xrelocTarget xrelocAddend := by
      intro d
      induction d with
      | zero =>
        intro g hgd m hm
        have e1 : g = ng := hgd
        subst e1
        exact br_t (nI_le (by omega) (by omega)) ⟨_, S2 no 0 (by omega) m (lq_M_0 hm)⟩
      | succ d ih =>
        intro g hgd m hm
        obtain ⟨s1, s2, s3, s4, s5, s6⟩ := hg g (by omega)
        have e : (nI g).toNatClampNeg = g := nI_clamp (by omega)
        have v4 : vp_in (nI g) 4 := vp_in_nI (by omega) (by omega)
        exact br_f (nI_ge (by omega) (by omega)) ⟨v4, v4, lx_fill3 (s := G0 g) (e := GE g) (by rw [e]; exact s1) (by rw [e]; exact s2) (by omega) (by omega) (nm_r (nI_1 g) (ih (g + 1) (by omega) _ (lq_P_s hm s3)))⟩
    exact br_t rfl ⟨_, S1 ng 0 (by omega) xmemory (lq_P_0 hR1 hM)⟩
  · exact absurd z (by decide)
theorem lq_lo {P : St2 → Prop} {no R0 R1 : Nat} {u : St2} {v1 : Int32} (I : lq_L 2 no R0 R1 u) (KK : ∀ u, lq_L 2 no R0 R1 u → P u) : wpX_loadOverlay (fun _ u => P u) u v1 := by
  have J := KK _ I
  obtain ⟨xphase, xstmtCount, xopenOut, xopenGroup, xoutCount, xgroupCount, xinCount, xbyteCount, xrelocCount, xregionSize, xcounter, xmemory, xstmtOp, xstmtA, xstmtB, xstmtOwner, xoutRegion, xoutLoaded, xoutGroup, xoutAlign, xoutVma, xoutLma, xoutDot, xgroupStart, xgroupEnd, xgroupResident, xinKind, xinId, xinAlign, xinSize, xinFirstByte, xinStmt, xinLive, xinVma, xfedBytes, xrelocOwner, xrelocOffset, xrelocType, xrelocTarget, xrelocAddend⟩ := u
  obtain ⟨ng, V, L, D, G0, GE, me, e1, e2, e3, hZ, hK, hM⟩ := I
  subst e1
  subst e2
  subst e3
  obtain ⟨h8, h4, hof, hk, has, hg, ⟨C1, hG⟩, hr⟩ := id hK
  have hR1 : R1 ≤ 128 := hZ.2.2.2.2.2
  have hR0 : R0 ≤ 128 := hZ.2.2.2.1
  rcases hM with ⟨z, _⟩ | ⟨_, hM⟩
  · exact absurd z (by decide)
  rcases pk_ix v1 (n := no) (by omega) with c | c | ⟨k, hkn, rfl⟩
  · exact br_t rfl (br_t c J)
  · by_cases c0 : v1 < 0
    · exact br_t rfl (br_t c0 J)
    · exact br_t rfl (br_f c0 (br_t c J))
  · have e : (nI k).toNatClampNeg = k := nI_clamp (by omega)
    have v8 : vp_in (nI k) 8 := vp_in_nI (by omega) (by omega)
    have p1 : ¬ nI k < 0 := nI_pos (by omega)
    have p2 : ¬ nI no ≤ nI k := nI_ge (by omega) (by omega)
    obtain ⟨t1, t2, t3, t4, t5, t6, t7⟩ := hk k hkn
    have gg : xoutGroup k = -1 ∨ (xoutRegion k = 1 ∧ ∃ g, g < ng ∧ xoutGroup k = nI g) := by
      rcases hof k hkn with ⟨_, _, z⟩ | ⟨r, _, z | z⟩
      · exact Or.inl z
      · exact Or.inl z
      · exact Or.inr ⟨r, z⟩
    rcases gg with z | ⟨r, g, hgn, z⟩
    · exact br_t rfl (br_f p1 (br_f p2 ⟨v8, br_t (by rw [e]; exact z) J⟩))
    · obtain ⟨t8, t9⟩ := t5 r
      obtain ⟨s1, s2, s3, s4, s5, s6⟩ := hg g hgn
      have eg : (nI g).toNatClampNeg = g := nI_clamp (by omega)
      have hl : xoutLoaded k = 1 → L k + (D k - V k) ≤ 128 := fun z => by have := t7 z; omega
      have v4 : vp_in (nI g) 4 := vp_in_nI (by omega) (by omega)
      refine br_t rfl (br_f p1 (br_f p2 ⟨v8, br_f (by rw [e, z]; exact lk_nn1 (by omega)) ⟨v8, nm_r (e' := nI g) (by rw [e]; exact z) ⟨v4, v4, lx_fill3 (s := G0 g) (e := GE g) (by rw [eg]; exact s1) (by rw [eg]; exact s2) (by omega) (by omega) (lq_ini (by omega) t1 t3 t2 t4 t8 (by omega) hl ⟨v4, nm_e (KK _ ?_)⟩)⟩⟩⟩))
      rw [eg]
      refine ⟨ng, V, L, D, G0, GE, me, rfl, rfl, rfl, hZ, ⟨h8, h4, hof, hk, has, hg, ⟨C1, hG⟩, fun f hfn => ?_⟩, Or.inr ⟨rfl, lq_M_o hG h8 hkn hgn r z s3 t8 hl hM⟩⟩
      by_cases c : f = g
      · rw [c, pk_us]
        exact Or.inr ⟨k, hkn, rfl, z⟩
      · rw [pk_un c]
        exact hr f hfn
end
end
section

section
/-! what the getters answer -/
theorem lq_cov {post : Int32 → Prop} {xphase xstmtCount xopenOut xopenGroup xoutCount xgroupCount xinCount xbyteCount xrelocCount : Int32} {xregionSize xcounter xmemory xstmtOp xstmtA xstmtB xstmtOwner xoutRegion xoutLoaded xoutGroup xoutAlign xoutVma xoutLma xoutDot xgroupStart xgroupEnd xgroupResident xinKind xinId xinAlign xinSize xinFirstByte xinStmt xinLive xinVma xfedBytes xrelocOwner xrelocOffset xrelocType xrelocTarget xrelocAddend : Nat → Int32} {k x v d : Nat} (hk : k < 8) (hx : x < 2 ^ 30) (hd : d < 2 ^ 30) (hv : v < 2 ^ 30) (ev : xoutVma k = nI v) (ed : xoutDot k = nI d) (h1 : v ≤ x → x < d → post 1) (h0 : ¬ (v ≤ x ∧ x < d) → post 0) : wpX_covers post (xphase, xstmtCount, xopenOut, xopenGroup, xoutCount, xgroupCount, xinCount, xbyteCount, xrelocCount, xregionSize, xcounter, xmemory, xstmtOp, xstmtA, xstmtB, xstmtOwner, xoutRegion, xoutLoaded, xoutGroup, xoutAlign, xoutVma, xoutLma, xoutDot, xgroupStart, xgroupEnd, xgroupResident, xinKind, xinId, xinAlign, xinSize, xinFirstByte, xinStmt, xinLive, xinVma, xfedBytes, xrelocOwner, xrelocOffset, xrelocType, xrelocTarget, xrelocAddend) (nI k) (nI x) := by
  have e : (nI k).toNatClampNeg = k := nI_clamp (by omega)
  have v8 : vp_in (nI k) 8 := vp_in_nI hk (by omega)
  refine ⟨v8, ?_⟩
  by_cases a : v ≤ x
  · refine br_f (by rw [e, ev]; exact nI_nlt a (by omega)) ⟨v8, ?_⟩
    by_cases b : x < d
    · exact br_f (by rw [e, ed]; exact nI_ge b (by omega)) (h1 a b)
    · exact br_t (by rw [e, ed]; exact nI_le (by omega) (by omega)) (h0 (fun z => b z.2))
  · exact br_t (by rw [e, ev]; exact nI_lt (by omega) (by omega)) (h0 (fun z => a z.1))
theorem lq_re {post : Int32 → Prop} {xphase xstmtCount xopenOut xopenGroup xoutCount xgroupCount xinCount xbyteCount xrelocCount : Int32} {xregionSize xcounter xmemory xstmtOp xstmtA xstmtB xstmtOwner xoutRegion xoutLoaded xoutGroup xoutAlign xoutVma xoutLma xoutDot xgroupStart xgroupEnd xgroupResident xinKind xinId xinAlign xinSize xinFirstByte xinStmt xinLive xinVma xfedBytes xrelocOwner xrelocOffset xrelocType xrelocTarget xrelocAddend : Nat → Int32} {R0 R1 : Nat} {z : Int32} (hZ : lk_Z xregionSize R0 R1) (hz : z = 0 ∨ z = 1) (h : post (nI (if z = 0 then R0 else 256 + R1))) : wpX_regionEnd post (xphase, xstmtCount, xopenOut, xopenGroup, xoutCount, xgroupCount, xinCount, xbyteCount, xrelocCount, xregionSize, xcounter, xmemory, xstmtOp, xstmtA, xstmtB, xstmtOwner, xoutRegion, xoutLoaded, xoutGroup, xoutAlign, xoutVma, xoutLma, xoutDot, xgroupStart, xgroupEnd, xgroupResident, xinKind, xinId, xinAlign, xinSize, xinFirstByte, xinStmt, xinLive, xinVma, xfedBytes, xrelocOwner, xrelocOffset, xrelocType, xrelocTarget, xrelocAddend) z := by
  rcases hz with e | e
  · subst e
    rw [if_pos rfl] at h
    refine br_t rfl ⟨vp_in_iff.mpr (by decide), ?_⟩
    rw [lk_e0, hZ.1, Int32.zero_add]
    exact h
  · subst e
    rw [if_neg (by decide)] at h
    refine br_f (by decide) ⟨vp_in_iff.mpr (by decide), ?_⟩
    rw [lk_e1, hZ.2.1, lk_256]
    exact h
theorem lq_r0 {post : Int32 → Prop} {xphase xstmtCount xopenOut xopenGroup xoutCount xgroupCount xinCount xbyteCount xrelocCount : Int32} {xregionSize xcounter xmemory xstmtOp xstmtA xstmtB xstmtOwner xoutRegion xoutLoaded xoutGroup xoutAlign xoutVma xoutLma xoutDot xgroupStart xgroupEnd xgroupResident xinKind xinId xinAlign xinSize xinFirstByte xinStmt xinLive xinVma xfedBytes xrelocOwner xrelocOffset xrelocType xrelocTarget xrelocAddend : Nat → Int32} {R0 R1 x : Nat} (hZ : lk_Z xregionSize R0 R1) (hx : x < 2 ^ 30) (h1 : x < R0 → post 1) (h0 : ¬ x < R0 → post 0) : wpX_isInRegion post (xphase, xstmtCount, xopenOut, xopenGroup, xoutCount, xgroupCount, xinCount, xbyteCount, xrelocCount, xregionSize, xcounter, xmemory, xstmtOp, xstmtA, xstmtB, xstmtOwner, xoutRegion, xoutLoaded, xoutGroup, xoutAlign, xoutVma, xoutLma, xoutDot, xgroupStart, xgroupEnd, xgroupResident, xinKind, xinId, xinAlign, xinSize, xinFirstByte, xinStmt, xinLive, xinVma, xfedBytes, xrelocOwner, xrelocOffset, xrelocType, xrelocTarget, xrelocAddend) 0 (nI x) := by
  obtain ⟨_, _, z1, z2, z3, z4⟩ := id hZ
  refine br_t rfl (br_f (nI_pos (by omega)) (lq_re hZ (Or.inl rfl) ?_))
  rw [if_pos rfl]
  by_cases c : x < R0
  · exact br_f (nI_ge c (by omega)) (h1 c)
  · exact br_t (nI_le (by omega) (by omega)) (h0 c)
theorem lq_r1 {post : Int32 → Prop} {xphase xstmtCount xopenOut xopenGroup xoutCount xgroupCount xinCount xbyteCount xrelocCount : Int32} {xregionSize xcounter xmemory xstmtOp xstmtA xstmtB xstmtOwner xoutRegion xoutLoaded xoutGroup xoutAlign xoutVma xoutLma xoutDot xgroupStart xgroupEnd xgroupResident xinKind xinId xinAlign xinSize xinFirstByte xinStmt xinLive xinVma xfedBytes xrelocOwner xrelocOffset xrelocType xrelocTarget xrelocAddend : Nat → Int32} {R0 R1 x : Nat} (hZ : lk_Z xregionSize R0 R1) (h1 : 256 ≤ x) (h2 : x < 256 + R1) (h : post 1) : wpX_isInRegion post (xphase, xstmtCount, xopenOut, xopenGroup, xoutCount, xgroupCount, xinCount, xbyteCount, xrelocCount, xregionSize, xcounter, xmemory, xstmtOp, xstmtA, xstmtB, xstmtOwner, xoutRegion, xoutLoaded, xoutGroup, xoutAlign, xoutVma, xoutLma, xoutDot, xgroupStart, xgroupEnd, xgroupResident, xinKind, xinId, xinAlign, xinSize, xinFirstByte, xinStmt, xinLive, xinVma, xfedBytes, xrelocOwner, xrelocOffset, xrelocType, xrelocTarget, xrelocAddend) 1 (nI x) := by
  obtain ⟨_, _, z1, z2, z3, z4⟩ := id hZ
  refine br_f (by decide) (br_f (nI_nlt (b := 256) h1 (by omega)) (lq_re hZ (Or.inr rfl) ?_))
  rw [if_neg (by decide)]
  exact br_f (nI_ge h2 (by omega)) h
theorem lq_rom {post : Int32 → Prop} {R0 R1 x : Nat} {xphase xstmtCount xopenOut xopenGroup xoutCount xgroupCount xinCount xbyteCount xrelocCount : Int32} {xregionSize xcounter xmemory xstmtOp xstmtA xstmtB xstmtOwner xoutRegion xoutLoaded xoutGroup xoutAlign xoutVma xoutLma xoutDot xgroupStart xgroupEnd xgroupResident xinKind xinId xinAlign xinSize xinFirstByte xinStmt xinLive xinVma xfedBytes xrelocOwner xrelocOffset xrelocType xrelocTarget xrelocAddend : Nat → Int32} (hZ : lk_Z xregionSize R0 R1) (hp : ¬ xphase = 0) (hx : x < R0) (h : post (xmemory x)) : wpX_romByte post (xphase, xstmtCount, xopenOut, xopenGroup, xoutCount, xgroupCount, xinCount, xbyteCount, xrelocCount, xregionSize, xcounter, xmemory, xstmtOp, xstmtA, xstmtB, xstmtOwner, xoutRegion, xoutLoaded, xoutGroup, xoutAlign, xoutVma, xoutLma, xoutDot, xgroupStart, xgroupEnd, xgroupResident, xinKind, xinId, xinAlign, xinSize, xinFirstByte, xinStmt, xinLive, xinVma, xfedBytes, xrelocOwner, xrelocOffset, xrelocType, xrelocTarget, xrelocAddend) (nI x) := by
  have z2 := hZ.2.2.2.1
  refine br_f hp (lq_r0 hZ (by omega) (fun _ => br_f (by decide) ⟨vp_in_nI (by omega) (by omega), ?_⟩) (fun z => absurd hx z))
  rw [nI_clamp (by omega)]
  exact h
theorem lq_runrom {post : Int32 → Prop} {R0 R1 x : Nat} {xphase xstmtCount xopenOut xopenGroup xoutCount xgroupCount xinCount xbyteCount xrelocCount : Int32} {xregionSize xcounter xmemory xstmtOp xstmtA xstmtB xstmtOwner xoutRegion xoutLoaded xoutGroup xoutAlign xoutVma xoutLma xoutDot xgroupStart xgroupEnd xgroupResident xinKind xinId xinAlign xinSize xinFirstByte xinStmt xinLive xinVma xfedBytes xrelocOwner xrelocOffset xrelocType xrelocTarget xrelocAddend : Nat → Int32} (hZ : lk_Z xregionSize R0 R1) (hp : ¬ xphase = 0) (hx : x < R0) (h : post (xmemory x)) : wpX_runByte post (xphase, xstmtCount, xopenOut, xopenGroup, xoutCount, xgroupCount, xinCount, xbyteCount, xrelocCount, xregionSize, xcounter, xmemory, xstmtOp, xstmtA, xstmtB, xstmtOwner, xoutRegion, xoutLoaded, xoutGroup, xoutAlign, xoutVma, xoutLma, xoutDot, xgroupStart, xgroupEnd, xgroupResident, xinKind, xinId, xinAlign, xinSize, xinFirstByte, xinStmt, xinLive, xinVma, xfedBytes, xrelocOwner, xrelocOffset, xrelocType, xrelocTarget, xrelocAddend) (nI x) := by
  have z2 := hZ.2.2.2.1
  refine br_f hp (lq_r0 hZ (by omega) (fun _ => br_f (by decide) ⟨vp_in_nI (by omega) (by omega), ?_⟩) (fun z => absurd hx z))
  rw [nI_clamp (by omega)]
  exact h
theorem lq_ram {post : Int32 → Prop} {R0 R1 x : Nat} {xphase xstmtCount xopenOut xopenGroup xoutCount xgroupCount xinCount xbyteCount xrelocCount : Int32} {xregionSize xcounter xmemory xstmtOp xstmtA xstmtB xstmtOwner xoutRegion xoutLoaded xoutGroup xoutAlign xoutVma xoutLma xoutDot xgroupStart xgroupEnd xgroupResident xinKind xinId xinAlign xinSize xinFirstByte xinStmt xinLive xinVma xfedBytes xrelocOwner xrelocOffset xrelocType xrelocTarget xrelocAddend : Nat → Int32} (hZ : lk_Z xregionSize R0 R1) (h1 : 256 ≤ x) (h2 : x < 256 + R1) (h : post (xmemory x)) : wpX_ramByte post (xphase, xstmtCount, xopenOut, xopenGroup, xoutCount, xgroupCount, xinCount, xbyteCount, xrelocCount, xregionSize, xcounter, xmemory, xstmtOp, xstmtA, xstmtB, xstmtOwner, xoutRegion, xoutLoaded, xoutGroup, xoutAlign, xoutVma, xoutLma, xoutDot, xgroupStart, xgroupEnd, xgroupResident, xinKind, xinId, xinAlign, xinSize, xinFirstByte, xinStmt, xinLive, xinVma, xfedBytes, xrelocOwner, xrelocOffset, xrelocType, xrelocTarget, xrelocAddend) (nI x) := by
  have z2 := hZ.2.2.2.2.2
  unfold wpX_ramByte
  refine lq_r1 hZ h1 h2 (br_f (by decide) ⟨vp_in_nI (by omega) (by omega), ?_⟩)
  rw [nI_clamp (by omega)]
  exact h
theorem lq_runram {post : Int32 → Prop} {no ng R0 R1 x : Nat} {xphase xstmtCount xopenOut xopenGroup : Int32} {xinCount xbyteCount xrelocCount : Int32} {xregionSize xcounter xmemory xstmtOp xstmtA xstmtB xstmtOwner xoutRegion xoutLoaded xoutGroup xoutAlign xoutVma xoutLma xoutDot xgroupStart xgroupEnd xgroupResident xinKind xinId xinAlign xinSize xinFirstByte xinStmt xinLive xinVma xfedBytes xrelocOwner xrelocOffset xrelocType xrelocTarget xrelocAddend : Nat → Int32} {V L D G0 GE : Nat → Nat} {me : Nat → Int32} (hZ : lk_Z xregionSize R0 R1) (hK : lq_K no ng R0 R1 xoutRegion xoutLoaded xoutGroup xoutVma xoutLma xoutDot xgroupStart xgroupEnd xgroupResident V L D G0 GE) (hM : lq_M R1 no ng xoutRegion xoutLoaded xoutGroup xgroupResident V L D G0 GE me xmemory) (hp : ¬ xphase = 0) (h1 : 256 ≤ x) (h2 : x < 256 + R1) (h : post (xmemory x)) : wpX_runByte post (xphase, xstmtCount, xopenOut, xopenGroup, (nI no), (nI ng), xinCount, xbyteCount, xrelocCount, xregionSize, xcounter, xmemory, xstmtOp, xstmtA, xstmtB, xstmtOwner, xoutRegion, xoutLoaded, xoutGroup, xoutAlign, xoutVma, xoutLma, xoutDot, xgroupStart, xgroupEnd, xgroupResident, xinKind, xinId, xinAlign, xinSize, xinFirstByte, xinStmt, xinLive, xinVma, xfedBytes, xrelocOwner, xrelocOffset, xrelocType, xrelocTarget, xrelocAddend) (nI x) := by
  obtain ⟨h8, h4, hof, hk, has, hg, ⟨C1, hG⟩, hr⟩ := hK
  have hR1 : R1 ≤ 128 := hZ.2.2.2.2.2
  have hR0 : R0 ≤ 128 := hZ.2.2.2.1
  obtain ⟨hm, hx⟩ := hM
  obtain ⟨a, b1, b2, c⟩ := hx x h1 h2
  have hD : ∀ k, k < no → V k ≤ D k ∧ D k < 2 ^ 29 := by
    intro k hkn
    obtain ⟨t1, t2, t3, t4, t5, t6, t7⟩ := hk k hkn
    refine ⟨t4, ?_⟩
    rcases hof k hkn with ⟨r, _⟩ | ⟨r, _⟩
    · have := (t6 r).1; omega
    · have := (t5 r).2; omega
  have im : ∀ k, k < no → V k ≤ x → x < D k → xmemory x = lq_im xoutLoaded L V me k x → post (if xoutLoaded k = 1 then xmemory (L k + (x - V k)) else 0) := by
    intro k hkn v1 v2 e
    rw [e] at h
    unfold lq_im at h
    by_cases l1 : xoutLoaded k = 1
    · have t7 := (hk k hkn).2.2.2.2.2.2 l1
      rw [if_pos l1] at h ⊢
      rw [hm _ (by omega)]
      exact h
    · rw [if_neg l1] at h ⊢
      exact h
  have HG : (∀ q, q < no → xoutRegion q = 1 → xoutGroup q = -1 → ¬ (V q ≤ x ∧ x < D q)) → ∀ d g, g + d = ng → (∀ f, f < g → ¬ (G0 f ≤ x ∧ x < GE f)) → wX_runRamByte_54 post (nI x) xphase xstmtCount xopenOut xopenGroup (nI no) (nI ng) xinCount xbyteCount xrelocCount xregionSize xcounter xmemory xstmtOp xstmtA xstmtB xstmtOwner xoutRegion xoutLoaded xoutGroup xoutAlign xoutVma xoutLma xoutDot xgroupStart xgroupEnd xgroupResident xinKind xinId xinAlign xinSize xinFirstByte xinStmt xinLive xinVma xfedBytes xrelocOwner xrelocOffset xrelocType xrelocTarget xrelocAddend (d + 1) (nI g) := by
    intro nA d
    induction d with
    | zero =>
      intro g hgd nB
      have e1 : g = ng := hgd
      subst e1
      rw [c nA nB] at h
      exact br_t (nI_le (by omega) (by omega)) h
    | succ d ih =>
      intro g hgd nB
      obtain ⟨s1, s2, s3, s4, s5, s6⟩ := hg g (by omega)
      have e : (nI g).toNatClampNeg = g := nI_clamp (by omega)
      have v4 : vp_in (nI g) 4 := vp_in_nI (by omega) (by omega)
      have n1 : ¬ nI ng ≤ nI g := nI_ge (by omega) (by omega)
      have nx : ¬ (G0 g ≤ x ∧ x < GE g) → wX_runRamByte_54 post (nI x) xphase xstmtCount xopenOut xopenGroup (nI no) (nI ng) xinCount xbyteCount xrelocCount xregionSize xcounter xmemory xstmtOp xstmtA xstmtB xstmtOwner xoutRegion xoutLoaded xoutGroup xoutAlign xoutVma xoutLma xoutDot xgroupStart xgroupEnd xgroupResident xinKind xinId xinAlign xinSize xinFirstByte xinStmt xinLive xinVma xfedBytes xrelocOwner xrelocOffset xrelocType xrelocTarget xrelocAddend (d + 1) (nI (g + 1)) := by
        intro z
        refine ih (g + 1) (by omega) (fun f hf => ?_)
        by_cases cf : f = g
        · rw [cf]; exact z
        · exact nB f (by omega)
      by_cases c1 : G0 g ≤ x
      · have xa : ¬ nI x < xgroupStart (nI g).toNatClampNeg := by rw [e, s1]; exact nI_nlt c1 (by omega)
        by_cases c2 : x < GE g
        · have xb : ¬ xgroupEnd (nI g).toNatClampNeg ≤ nI x := by rw [e, s2]; exact nI_ge c2 (by omega)
          rcases hr g (by omega) with z | ⟨k0, hk0, z, zg⟩
          · have v0 := b2 g (by omega) c1 c2 (fun q hq hqn => absurd (hq.symm.trans z) (lk_nn1 (by omega)))
            rw [v0] at h
            exact br_f n1 ⟨v4, br_f xa ⟨v4, br_f xb ⟨v4, nm_r (e' := -1) (by rw [e, z]) (br_t rfl h)⟩⟩⟩
          · obtain ⟨t1, t2, t3, t4, t5, t6, t7⟩ := hk k0 hk0
            obtain ⟨_, hDk⟩ := hD k0 hk0
            refine br_f n1 ⟨v4, br_f xa ⟨v4, br_f xb ⟨v4, nm_r (e' := nI k0) (by rw [e, z]) (br_f (lk_nn1 (by omega)) (lq_cov (by omega) (by omega) (by omega) (by omega) t1 t3 (fun q1 q2 => br_f (by decide) (lq_ib (by omega) t1 t2 q1 (fun q => by have := t7 q; omega) (im k0 hk0 q1 q2 (b1 g k0 (by omega) c1 c2 z hk0 q1 q2)))) (fun q => br_t rfl ?_)))⟩⟩⟩
            have v0 := b2 g (by omega) c1 c2 (fun q' hq hqn => by
              have eq : q' = k0 := (nI_eq (by omega) (by omega)).mp (hq.symm.trans z)
              rw [eq]; exact q)
            rw [v0] at h
            exact h
        · exact br_f n1 ⟨v4, br_f xa ⟨v4, br_t (by rw [e, s2]; exact nI_le (by omega) (by omega)) (nm_r (nI_1 g) (nx (fun z => c2 z.2)))⟩⟩
      · exact br_f n1 ⟨v4, br_t (by rw [e, s1]; exact nI_lt (by omega) (by omega)) (nm_r (nI_1 g) (nx (fun z => c1 z.1)))⟩
  have HO : ∀ d k, k + d = no → (∀ q, q < k → xoutRegion q = 1 → xoutGroup q = -1 → ¬ (V q ≤ x ∧ x < D q)) → wX_runRamByte_2 post (nI x) xphase xstmtCount xopenOut xopenGroup (nI no) (nI ng) xinCount xbyteCount xrelocCount xregionSize xcounter xmemory xstmtOp xstmtA xstmtB xstmtOwner xoutRegion xoutLoaded xoutGroup xoutAlign xoutVma xoutLma xoutDot xgroupStart xgroupEnd xgroupResident xinKind xinId xinAlign xinSize xinFirstByte xinStmt xinLive xinVma xfedBytes xrelocOwner xrelocOffset xrelocType xrelocTarget xrelocAddend (d + 1) (nI k) := by
    intro d
    induction d with
    | zero =>
      intro k hkd nA
      have e1 : k = no := hkd
      subst e1
      exact br_t (nI_le (by omega) (by omega)) ⟨_, HG nA ng 0 (by omega) (fun f hf => absurd hf (Nat.not_lt_zero f))⟩
    | succ d ih =>
      intro k hkd nA
      have hkn : k < no := by omega
      obtain ⟨t1, t2, t3, t4, t5, t6, t7⟩ := hk k hkn
      obtain ⟨_, hDk⟩ := hD k hkn
      have e : (nI k).toNatClampNeg = k := nI_clamp (by omega)
      have v8 : vp_in (nI k) 8 := vp_in_nI (by omega) (by omega)
      have n1 : ¬ nI no ≤ nI k := nI_ge (by omega) (by omega)
      have nx : ¬ (xoutRegion k = 1 ∧ xoutGroup k = -1 ∧ V k ≤ x ∧ x < D k) → wX_runRamByte_2 post (nI x) xphase xstmtCount xopenOut xopenGroup (nI no) (nI ng) xinCount xbyteCount xrelocCount xregionSize xcounter xmemory xstmtOp xstmtA xstmtB xstmtOwner xoutRegion xoutLoaded xoutGroup xoutAlign xoutVma xoutLma xoutDot xgroupStart xgroupEnd xgroupResident xinKind xinId xinAlign xinSize xinFirstByte xinStmt xinLive xinVma xfedBytes xrelocOwner xrelocOffset xrelocType xrelocTarget xrelocAddend (d + 1) (nI (k + 1)) := by
        intro z
        refine ih (k + 1) (by omega) (fun q hq r1 g1 => ?_)
        by_cases cf : q = k
        · rw [cf] at r1 g1 ⊢
          exact fun y => z ⟨r1, g1, y.1, y.2⟩
        · exact nA q (by omega) r1 g1
      by_cases r : xoutRegion k = 1
      · have r' : xoutRegion (nI k).toNatClampNeg = 1 := by rw [e]; exact r
        by_cases z : xoutGroup k = -1
        · have z' : xoutGroup (nI k).toNatClampNeg = -1 := by rw [e]; exact z
          exact br_f n1 ⟨v8, br_t r' ⟨v8, br_t z' (lq_cov (by omega) (by omega) (by omega) (by omega) t1 t3 (fun q1 q2 => br_f (by decide) (lq_ib (by omega) t1 t2 q1 (fun q => by have := t7 q; omega) (im k hkn q1 q2 (a k hkn r z q1 q2)))) (fun q => br_t rfl (nm_r (nI_1 k) (nx (fun y => q y.2.2)))))⟩⟩
        · exact br_f n1 ⟨v8, br_t r' ⟨v8, br_f (by rw [e]; exact z) (nm_r (nI_1 k) (nx (fun y => z y.2.1)))⟩⟩
      · exact br_f n1 ⟨v8, br_f (by rw [e]; exact r) (nm_r (nI_1 k) (nx (fun y => r y.1)))⟩
  exact br_f hp (lq_r0 hZ (by omega) (fun z => absurd z (by omega)) (fun _ => br_t rfl (lq_r1 hZ h1 h2 (br_f (by decide) ⟨_, HO no 0 (by omega) (fun q hq => absurd hq (Nat.not_lt_zero q))⟩))))
end
end
section

section
/-! the law: cells, answers of info and outInfo, the rounds -/
theorem lq_cell {P : Int32 → Prop} {L p : Nat} {xs : Nat → Int32} (hL : L ≤ 260) (hp : p < 2 ^ 30) (h : ∀ r, P r) : wpL_cell P L xs () (nI p) := by
  by_cases c : L ≤ p
  · exact br_t (nI_le c (by omega)) (h 0)
  · exact br_f (nI_ge (by omega) (by omega)) ⟨vp_in_nI (by omega) (by omega), h _⟩
theorem lq_pos {P : Int32 → Prop} {v y : Int32} (M : Nat) (e : y = nI M) (h0 : 0 < M) (hM : M < 2 ^ 31) (h : ∀ j : Nat, j < M → P (nI j)) : wpL_pos P () v y := by
  subst e
  have t : (nI M).toInt = M := nI_toInt hM
  obtain ⟨c, e, hc⟩ := fmv_nat (a := v) (m := nI M) (by rw [t]; omega)
  rw [t] at hc
  have hp : P (fmv v (nI M)) := by
    rw [e]
    exact h c (by omega)
  refine ⟨fun z => ?_, nm_e ?_⟩
  · have z2 := congrArg Int32.toInt z
    rw [t, show (0 : Int32).toInt = 0 from by decide] at z2
    omega
  · by_cases q : 0 ≤ v - v / nI M * nI M
    · rw [show fmv v (nI M) = v - v / nI M * nI M from if_pos q] at hp
      exact br_t q hp
    · rw [show fmv v (nI M) = v - v / nI M * nI M + nI M from if_neg q] at hp
      exact br_f q hp
theorem lq_i0 {post : Int32 → Prop} {xphase xstmtCount xopenOut xopenGroup xoutCount xgroupCount xinCount xbyteCount xrelocCount : Int32} {xregionSize xcounter xmemory xstmtOp xstmtA xstmtB xstmtOwner xoutRegion xoutLoaded xoutGroup xoutAlign xoutVma xoutLma xoutDot xgroupStart xgroupEnd xgroupResident xinKind xinId xinAlign xinSize xinFirstByte xinStmt xinLive xinVma xfedBytes xrelocOwner xrelocOffset xrelocType xrelocTarget xrelocAddend : Nat → Int32} (h : post xphase) : wpX_info post (xphase, xstmtCount, xopenOut, xopenGroup, xoutCount, xgroupCount, xinCount, xbyteCount, xrelocCount, xregionSize, xcounter, xmemory, xstmtOp, xstmtA, xstmtB, xstmtOwner, xoutRegion, xoutLoaded, xoutGroup, xoutAlign, xoutVma, xoutLma, xoutDot, xgroupStart, xgroupEnd, xgroupResident, xinKind, xinId, xinAlign, xinSize, xinFirstByte, xinStmt, xinLive, xinVma, xfedBytes, xrelocOwner, xrelocOffset, xrelocType, xrelocTarget, xrelocAddend) 0 := by
  repeat (first | refine br_t (by decide) ?_ | refine br_f (by decide) ?_)
  exact h
theorem lq_i2 {post : Int32 → Prop} {xphase xstmtCount xopenOut xopenGroup xoutCount xgroupCount xinCount xbyteCount xrelocCount : Int32} {xregionSize xcounter xmemory xstmtOp xstmtA xstmtB xstmtOwner xoutRegion xoutLoaded xoutGroup xoutAlign xoutVma xoutLma xoutDot xgroupStart xgroupEnd xgroupResident xinKind xinId xinAlign xinSize xinFirstByte xinStmt xinLive xinVma xfedBytes xrelocOwner xrelocOffset xrelocType xrelocTarget xrelocAddend : Nat → Int32} {y : Int32} (e : xoutCount = y) (h : post y) : wpX_info post (xphase, xstmtCount, xopenOut, xopenGroup, xoutCount, xgroupCount, xinCount, xbyteCount, xrelocCount, xregionSize, xcounter, xmemory, xstmtOp, xstmtA, xstmtB, xstmtOwner, xoutRegion, xoutLoaded, xoutGroup, xoutAlign, xoutVma, xoutLma, xoutDot, xgroupStart, xgroupEnd, xgroupResident, xinKind, xinId, xinAlign, xinSize, xinFirstByte, xinStmt, xinLive, xinVma, xfedBytes, xrelocOwner, xrelocOffset, xrelocType, xrelocTarget, xrelocAddend) 2 := by
  subst e
  repeat (first | refine br_t (by decide) ?_ | refine br_f (by decide) ?_)
  exact h
theorem lq_i7 {post : Int32 → Prop} {xphase xstmtCount xopenOut xopenGroup xoutCount xgroupCount xinCount xbyteCount xrelocCount : Int32} {xregionSize xcounter xmemory xstmtOp xstmtA xstmtB xstmtOwner xoutRegion xoutLoaded xoutGroup xoutAlign xoutVma xoutLma xoutDot xgroupStart xgroupEnd xgroupResident xinKind xinId xinAlign xinSize xinFirstByte xinStmt xinLive xinVma xfedBytes xrelocOwner xrelocOffset xrelocType xrelocTarget xrelocAddend : Nat → Int32} {y : Int32} (e : xregionSize 0 = y) (h : post y) : wpX_info post (xphase, xstmtCount, xopenOut, xopenGroup, xoutCount, xgroupCount, xinCount, xbyteCount, xrelocCount, xregionSize, xcounter, xmemory, xstmtOp, xstmtA, xstmtB, xstmtOwner, xoutRegion, xoutLoaded, xoutGroup, xoutAlign, xoutVma, xoutLma, xoutDot, xgroupStart, xgroupEnd, xgroupResident, xinKind, xinId, xinAlign, xinSize, xinFirstByte, xinStmt, xinLive, xinVma, xfedBytes, xrelocOwner, xrelocOffset, xrelocType, xrelocTarget, xrelocAddend) 7 := by
  subst e
  repeat (first | refine br_t (by decide) ?_ | refine br_f (by decide) ?_)
  exact h
theorem lq_i8 {post : Int32 → Prop} {xphase xstmtCount xopenOut xopenGroup xoutCount xgroupCount xinCount xbyteCount xrelocCount : Int32} {xregionSize xcounter xmemory xstmtOp xstmtA xstmtB xstmtOwner xoutRegion xoutLoaded xoutGroup xoutAlign xoutVma xoutLma xoutDot xgroupStart xgroupEnd xgroupResident xinKind xinId xinAlign xinSize xinFirstByte xinStmt xinLive xinVma xfedBytes xrelocOwner xrelocOffset xrelocType xrelocTarget xrelocAddend : Nat → Int32} {y : Int32} (e : xregionSize 1 = y) (h : post y) : wpX_info post (xphase, xstmtCount, xopenOut, xopenGroup, xoutCount, xgroupCount, xinCount, xbyteCount, xrelocCount, xregionSize, xcounter, xmemory, xstmtOp, xstmtA, xstmtB, xstmtOwner, xoutRegion, xoutLoaded, xoutGroup, xoutAlign, xoutVma, xoutLma, xoutDot, xgroupStart, xgroupEnd, xgroupResident, xinKind, xinId, xinAlign, xinSize, xinFirstByte, xinStmt, xinLive, xinVma, xfedBytes, xrelocOwner, xrelocOffset, xrelocType, xrelocTarget, xrelocAddend) 8 := by
  subst e
  repeat (first | refine br_t (by decide) ?_ | refine br_f (by decide) ?_)
  exact h
theorem lq_F_f {no R0 R1 : Nat} {xphase xstmtCount xopenOut xopenGroup xoutCount xgroupCount xinCount xbyteCount xrelocCount : Int32} {xregionSize xcounter xmemory xstmtOp xstmtA xstmtB xstmtOwner xoutRegion xoutLoaded xoutGroup xoutAlign xoutVma xoutLma xoutDot xgroupStart xgroupEnd xgroupResident xinKind xinId xinAlign xinSize xinFirstByte xinStmt xinLive xinVma xfedBytes xrelocOwner xrelocOffset xrelocType xrelocTarget xrelocAddend : Nat → Int32} (I : lq_F no R0 R1 (xphase, xstmtCount, xopenOut, xopenGroup, xoutCount, xgroupCount, xinCount, xbyteCount, xrelocCount, xregionSize, xcounter, xmemory, xstmtOp, xstmtA, xstmtB, xstmtOwner, xoutRegion, xoutLoaded, xoutGroup, xoutAlign, xoutVma, xoutLma, xoutDot, xgroupStart, xgroupEnd, xgroupResident, xinKind, xinId, xinAlign, xinSize, xinFirstByte, xinStmt, xinLive, xinVma, xfedBytes, xrelocOwner, xrelocOffset, xrelocType, xrelocTarget, xrelocAddend)) : xphase = 0 ∧ xoutCount = nI no ∧ lk_Z xregionSize R0 R1 ∧ no ≤ 8 := by
  unfold lq_F at I
  obtain ⟨ns, ng, ni, nb, nr, zz, I⟩ := I
  iterate 36 obtain ⟨_, I⟩ := I
  obtain ⟨e, hS, _, _, hZ, _⟩ := I
  have e1 : xphase = 0 := congrArg (fun u : St2 => u.1) e
  have e2 : xoutCount = nI no := congrArg (fun u : St2 => u.2.2.2.2.1) e
  have e3 := congrArg (fun u : St2 => u.2.2.2.2.2.2.2.2.2.1) e
  refine ⟨e1, e2, ?_, hS.2.1⟩
  have e4 : xregionSize = _ := e3
  rw [e4]
  exact hZ
def lq_T (no R0 R1 : Nat) (u : St2) : Prop := lq_F no R0 R1 u ∨ lq_L 1 no R0 R1 u ∨ lq_L 2 no R0 R1 u
theorem lq_T_su {P : St2 → Prop} {no R0 R1 : Nat} {u : St2} (I : lq_T no R0 R1 u) (KK : ∀ u, lq_T no R0 R1 u → P u) : wpX_startup (fun _ u => P u) u := by
  rcases I with I | I | I
  · have J := KK _ (Or.inl I)
    obtain ⟨xphase, xstmtCount, xopenOut, xopenGroup, xoutCount, xgroupCount, xinCount, xbyteCount, xrelocCount, xregionSize, xcounter, xmemory, xstmtOp, xstmtA, xstmtB, xstmtOwner, xoutRegion, xoutLoaded, xoutGroup, xoutAlign, xoutVma, xoutLma, xoutDot, xgroupStart, xgroupEnd, xgroupResident, xinKind, xinId, xinAlign, xinSize, xinFirstByte, xinStmt, xinLive, xinVma, xfedBytes, xrelocOwner, xrelocOffset, xrelocType, xrelocTarget, xrelocAddend⟩ := u
    exact br_f (by rw [(lq_F_f I).1]; decide) J
  · exact lq_su I (fun u hu => KK u (Or.inr (Or.inr hu)))
  · have J := KK _ (Or.inr (Or.inr I))
    obtain ⟨xphase, xstmtCount, xopenOut, xopenGroup, xoutCount, xgroupCount, xinCount, xbyteCount, xrelocCount, xregionSize, xcounter, xmemory, xstmtOp, xstmtA, xstmtB, xstmtOwner, xoutRegion, xoutLoaded, xoutGroup, xoutAlign, xoutVma, xoutLma, xoutDot, xgroupStart, xgroupEnd, xgroupResident, xinKind, xinId, xinAlign, xinSize, xinFirstByte, xinStmt, xinLive, xinVma, xfedBytes, xrelocOwner, xrelocOffset, xrelocType, xrelocTarget, xrelocAddend⟩ := u
    obtain ⟨ng, V, L, D, G0, GE, me, e1, e2, e3, _⟩ := I
    exact br_f (by rw [e1]; decide) J
theorem lq_T_lo {P : St2 → Prop} {no R0 R1 : Nat} {u : St2} {v1 : Int32} (I : lq_T no R0 R1 u) (KK : ∀ u, lq_T no R0 R1 u → P u) : wpX_loadOverlay (fun _ u => P u) u v1 := by
  rcases I with I | I | I
  · have J := KK _ (Or.inl I)
    obtain ⟨xphase, xstmtCount, xopenOut, xopenGroup, xoutCount, xgroupCount, xinCount, xbyteCount, xrelocCount, xregionSize, xcounter, xmemory, xstmtOp, xstmtA, xstmtB, xstmtOwner, xoutRegion, xoutLoaded, xoutGroup, xoutAlign, xoutVma, xoutLma, xoutDot, xgroupStart, xgroupEnd, xgroupResident, xinKind, xinId, xinAlign, xinSize, xinFirstByte, xinStmt, xinLive, xinVma, xfedBytes, xrelocOwner, xrelocOffset, xrelocType, xrelocTarget, xrelocAddend⟩ := u
    exact br_f (by rw [(lq_F_f I).1]; decide) J
  · have J := KK _ (Or.inr (Or.inl I))
    obtain ⟨xphase, xstmtCount, xopenOut, xopenGroup, xoutCount, xgroupCount, xinCount, xbyteCount, xrelocCount, xregionSize, xcounter, xmemory, xstmtOp, xstmtA, xstmtB, xstmtOwner, xoutRegion, xoutLoaded, xoutGroup, xoutAlign, xoutVma, xoutLma, xoutDot, xgroupStart, xgroupEnd, xgroupResident, xinKind, xinId, xinAlign, xinSize, xinFirstByte, xinStmt, xinLive, xinVma, xfedBytes, xrelocOwner, xrelocOffset, xrelocType, xrelocTarget, xrelocAddend⟩ := u
    obtain ⟨ng, V, L, D, G0, GE, me, e1, e2, e3, _⟩ := I
    exact br_f (by rw [e1]; decide) J
  · exact lq_lo I (fun u hu => KK u (Or.inr (Or.inr hu)))
end
end
section

section
/-! the law: after each round -/
theorem lq_chk {post : Int32 → Prop} {L : Nat} {xs : Nat → Int32} {J : Int32 → Int32 → Int32 → Int32 → Int32 → Int32 → Int32 → Int32 → Int32 → Int32 → Int32 → (Nat → Int32) → (Nat → Int32) → (Nat → Int32) → (Nat → Int32) → (Nat → Int32) → (Nat → Int32) → (Nat → Int32) → (Nat → Int32) → (Nat → Int32) → (Nat → Int32) → (Nat → Int32) → (Nat → Int32) → (Nat → Int32) → (Nat → Int32) → (Nat → Int32) → (Nat → Int32) → (Nat → Int32) → (Nat → Int32) → (Nat → Int32) → (Nat → Int32) → (Nat → Int32) → (Nat → Int32) → (Nat → Int32) → (Nat → Int32) → (Nat → Int32) → (Nat → Int32) → (Nat → Int32) → (Nat → Int32) → (Nat → Int32) → (Nat → Int32) → (Nat → Int32) → Prop} {x1 x6 x9 x10 y : Int32} {kc ks no R0 R1 : Nat} {xphase xstmtCount xopenOut xopenGroup xoutCount xgroupCount xinCount xbyteCount xrelocCount : Int32} {xregionSize xcounter xmemory xstmtOp xstmtA xstmtB xstmtOwner xoutRegion xoutLoaded xoutGroup xoutAlign xoutVma xoutLma xoutDot xgroupStart xgroupEnd xgroupResident xinKind xinId xinAlign xinSize xinFirstByte xinStmt xinLive xinVma xfedBytes xrelocOwner xrelocOffset xrelocType xrelocTarget xrelocAddend : Nat → Int32} (I : lq_T no R0 R1 (xphase, xstmtCount, xopenOut, xopenGroup, xoutCount, xgroupCount, xinCount, xbyteCount, xrelocCount, xregionSize, xcounter, xmemory, xstmtOp, xstmtA, xstmtB, xstmtOwner, xoutRegion, xoutLoaded, xoutGroup, xoutAlign, xoutVma, xoutLma, xoutDot, xgroupStart, xgroupEnd, xgroupResident, xinKind, xinId, xinAlign, xinSize, xinFirstByte, xinStmt, xinLive, xinVma, xfedBytes, xrelocOwner, xrelocOffset, xrelocType, xrelocTarget, xrelocAddend)) (ey : x10 + 1 = y) (h : J x1 y xphase xstmtCount xopenOut xopenGroup xoutCount xgroupCount xinCount xbyteCount xrelocCount xregionSize xcounter xmemory xstmtOp xstmtA xstmtB xstmtOwner xoutRegion xoutLoaded xoutGroup xoutAlign xoutVma xoutLma xoutDot xgroupStart xgroupEnd xgroupResident xinKind xinId xinAlign xinSize xinFirstByte xinStmt xinLive xinVma xfedBytes xrelocOwner xrelocOffset xrelocType xrelocTarget xrelocAddend) : wL_law_1018 post L xs J x1 x6 (nI R0) (nI (256 + R1)) x9 x10 kc ks xphase xstmtCount xopenOut xopenGroup xoutCount xgroupCount xinCount xbyteCount xrelocCount xregionSize xcounter xmemory xstmtOp xstmtA xstmtB xstmtOwner xoutRegion xoutLoaded xoutGroup xoutAlign xoutVma xoutLma xoutDot xgroupStart xgroupEnd xgroupResident xinKind xinId xinAlign xinSize xinFirstByte xinStmt xinLive xinVma xfedBytes xrelocOwner xrelocOffset xrelocType xrelocTarget xrelocAddend := by
  unfold wL_law_1018
  refine lq_i0 ?_
  rcases I with I | I | I
  · exact br_f (by rw [(lq_F_f I).1]; decide) (nm_r ey h)
  · obtain ⟨ng, V, L, D, G0, GE, me, e1, e2, e3, _⟩ := I
    exact br_f (by rw [e1]; decide) (nm_r ey h)
  · obtain ⟨ng, V, LL, D, G0, GE, me, e1, e2, e3, hZ, hK, hM⟩ := I
    rcases hM with ⟨z, _⟩ | ⟨_, hM⟩
    · exact absurd z (by decide)
    subst e1
    subst e2
    subst e3
    have hR1 : R1 ≤ 128 := hZ.2.2.2.2.2
    have hR0 : R0 ≤ 128 := hZ.2.2.2.1
    have H0 : ∀ d x, x + d = R0 → wL_law_1065 post L xs J x1 x6 (nI R0) (nI (256 + R1)) x9 x10 kc ks 2 xstmtCount xopenOut xopenGroup (nI no) (nI ng) xinCount xbyteCount xrelocCount xregionSize xcounter xmemory xstmtOp xstmtA xstmtB xstmtOwner xoutRegion xoutLoaded xoutGroup xoutAlign xoutVma xoutLma xoutDot xgroupStart xgroupEnd xgroupResident xinKind xinId xinAlign xinSize xinFirstByte xinStmt xinLive xinVma xfedBytes xrelocOwner xrelocOffset xrelocType xrelocTarget xrelocAddend (d + 1) (nI x) := by
      intro d
      induction d with
      | zero => intro x hx; exact br_t (nI_le (by omega) (by omega)) (nm_r ey h)
      | succ d ih => intro x hx; exact br_f (nI_ge (by omega) (by omega)) (lq_rom hZ (by decide) (by omega) (lq_runrom hZ (by decide) (by omega) (br_t rfl (nm_r (nI_1 x) (ih (x + 1) (by omega))))))
    have H1 : ∀ d x, x + d = 256 + R1 → 256 ≤ x → wL_law_1032 post L xs J x1 x6 (nI R0) (nI (256 + R1)) x9 x10 kc ks 2 xstmtCount xopenOut xopenGroup (nI no) (nI ng) xinCount xbyteCount xrelocCount xregionSize xcounter xmemory xstmtOp xstmtA xstmtB xstmtOwner xoutRegion xoutLoaded xoutGroup xoutAlign xoutVma xoutLma xoutDot xgroupStart xgroupEnd xgroupResident xinKind xinId xinAlign xinSize xinFirstByte xinStmt xinLive xinVma xfedBytes xrelocOwner xrelocOffset xrelocType xrelocTarget xrelocAddend (d + 1) (nI x) := by
      intro d
      induction d with
      | zero => intro x hx _; exact br_t (nI_le (by omega) (by omega)) ⟨_, H0 R0 0 (by omega)⟩
      | succ d ih => intro x hx hx2; exact br_f (nI_ge (by omega) (by omega)) (lq_ram hZ hx2 (by omega) (lq_runram hZ hK hM (by decide) hx2 (by omega) (br_t rfl (nm_r (nI_1 x) (ih (x + 1) (by omega) (by omega))))))
    exact br_t rfl ⟨_, H1 R1 256 (by omega) (Nat.le_refl 256)⟩
theorem lq_rnd {L : Nat} {xs : Nat → Int32} {kc ks no R0 R1 N : Nat} (hL : L ≤ 260) (hno : no ≤ 8) (hN : N ≤ 10) : ∀ d r, r + d = N → ∀ p, p + d ≤ 2000 → ∀ (xphase xstmtCount xopenOut xopenGroup xoutCount xgroupCount xinCount xbyteCount xrelocCount : Int32) (xregionSize xcounter xmemory xstmtOp xstmtA xstmtB xstmtOwner xoutRegion xoutLoaded xoutGroup xoutAlign xoutVma xoutLma xoutDot xgroupStart xgroupEnd xgroupResident xinKind xinId xinAlign xinSize xinFirstByte xinStmt xinLive xinVma xfedBytes xrelocOwner xrelocOffset xrelocType xrelocTarget xrelocAddend : Nat → Int32), lq_T no R0 R1 (xphase, xstmtCount, xopenOut, xopenGroup, xoutCount, xgroupCount, xinCount, xbyteCount, xrelocCount, xregionSize, xcounter, xmemory, xstmtOp, xstmtA, xstmtB, xstmtOwner, xoutRegion, xoutLoaded, xoutGroup, xoutAlign, xoutVma, xoutLma, xoutDot, xgroupStart, xgroupEnd, xgroupResident, xinKind, xinId, xinAlign, xinSize, xinFirstByte, xinStmt, xinLive, xinVma, xfedBytes, xrelocOwner, xrelocOffset, xrelocType, xrelocTarget, xrelocAddend) → wL_law_978 (fun r : Int32 => r = 1) L xs (nI no) (nI R0) (nI (256 + R1)) (nI N) kc ks (d + 1) (nI p) (nI r) xphase xstmtCount xopenOut xopenGroup xoutCount xgroupCount xinCount xbyteCount xrelocCount xregionSize xcounter xmemory xstmtOp xstmtA xstmtB xstmtOwner xoutRegion xoutLoaded xoutGroup xoutAlign xoutVma xoutLma xoutDot xgroupStart xgroupEnd xgroupResident xinKind xinId xinAlign xinSize xinFirstByte xinStmt xinLive xinVma xfedBytes xrelocOwner xrelocOffset xrelocType xrelocTarget xrelocAddend := by
  intro d
  induction d with
  | zero =>
    intro r hr p hp xphase xstmtCount xopenOut xopenGroup xoutCount xgroupCount xinCount xbyteCount xrelocCount xregionSize xcounter xmemory xstmtOp xstmtA xstmtB xstmtOwner xoutRegion xoutLoaded xoutGroup xoutAlign xoutVma xoutLma xoutDot xgroupStart xgroupEnd xgroupResident xinKind xinId xinAlign xinSize xinFirstByte xinStmt xinLive xinVma xfedBytes xrelocOwner xrelocOffset xrelocType xrelocTarget xrelocAddend I
    exact br_t (nI_le (by omega) (by omega)) rfl
  | succ d ih =>
    intro r hr p hp xphase xstmtCount xopenOut xopenGroup xoutCount xgroupCount xinCount xbyteCount xrelocCount xregionSize xcounter xmemory xstmtOp xstmtA xstmtB xstmtOwner xoutRegion xoutLoaded xoutGroup xoutAlign xoutVma xoutLma xoutDot xgroupStart xgroupEnd xgroupResident xinKind xinId xinAlign xinSize xinFirstByte xinStmt xinLive xinVma xfedBytes xrelocOwner xrelocOffset xrelocType xrelocTarget xrelocAddend I
    refine br_f (nI_ge (by omega) (by omega)) ?_
    by_cases c : r = 0
    · subst c
      refine br_t rfl (lq_T_su I (fun u hu => ?_))
      obtain ⟨xphase, xstmtCount, xopenOut, xopenGroup, xoutCount, xgroupCount, xinCount, xbyteCount, xrelocCount, xregionSize, xcounter, xmemory, xstmtOp, xstmtA, xstmtB, xstmtOwner, xoutRegion, xoutLoaded, xoutGroup, xoutAlign, xoutVma, xoutLma, xoutDot, xgroupStart, xgroupEnd, xgroupResident, xinKind, xinId, xinAlign, xinSize, xinFirstByte, xinStmt, xinLive, xinVma, xfedBytes, xrelocOwner, xrelocOffset, xrelocType, xrelocTarget, xrelocAddend⟩ := u
      exact lq_chk hu (nI_1 0) (ih 1 (by omega) p (by omega) xphase xstmtCount xopenOut xopenGroup xoutCount xgroupCount xinCount xbyteCount xrelocCount xregionSize xcounter xmemory xstmtOp xstmtA xstmtB xstmtOwner xoutRegion xoutLoaded xoutGroup xoutAlign xoutVma xoutLma xoutDot xgroupStart xgroupEnd xgroupResident xinKind xinId xinAlign xinSize xinFirstByte xinStmt xinLive xinVma xfedBytes xrelocOwner xrelocOffset xrelocType xrelocTarget xrelocAddend hu)
    · refine br_f (fun z => c ((nI_eq (b := 0) (by omega) (by omega)).mp z)) (nm_r (nI_1 p) (lq_cell hL (by omega) (fun v => lq_pos (no + 1) (nI_1 no) (by omega) (by omega) (fun j hj => lq_T_lo I (fun u hu => ?_)))))
      obtain ⟨xphase, xstmtCount, xopenOut, xopenGroup, xoutCount, xgroupCount, xinCount, xbyteCount, xrelocCount, xregionSize, xcounter, xmemory, xstmtOp, xstmtA, xstmtB, xstmtOwner, xoutRegion, xoutLoaded, xoutGroup, xoutAlign, xoutVma, xoutLma, xoutDot, xgroupStart, xgroupEnd, xgroupResident, xinKind, xinId, xinAlign, xinSize, xinFirstByte, xinStmt, xinLive, xinVma, xfedBytes, xrelocOwner, xrelocOffset, xrelocType, xrelocTarget, xrelocAddend⟩ := u
      exact lq_chk hu (nI_1 r) (ih (r + 1) (by omega) (p + 1) (by omega) xphase xstmtCount xopenOut xopenGroup xoutCount xgroupCount xinCount xbyteCount xrelocCount xregionSize xcounter xmemory xstmtOp xstmtA xstmtB xstmtOwner xoutRegion xoutLoaded xoutGroup xoutAlign xoutVma xoutLma xoutDot xgroupStart xgroupEnd xgroupResident xinKind xinId xinAlign xinSize xinFirstByte xinStmt xinLive xinVma xfedBytes xrelocOwner xrelocOffset xrelocType xrelocTarget xrelocAddend hu)
theorem lq_959 {L : Nat} {xs : Nat → Int32} {kc ks no R0 R1 p : Nat} {xphase xstmtCount xopenOut xopenGroup xoutCount xgroupCount xinCount xbyteCount xrelocCount : Int32} {xregionSize xcounter xmemory xstmtOp xstmtA xstmtB xstmtOwner xoutRegion xoutLoaded xoutGroup xoutAlign xoutVma xoutLma xoutDot xgroupStart xgroupEnd xgroupResident xinKind xinId xinAlign xinSize xinFirstByte xinStmt xinLive xinVma xfedBytes xrelocOwner xrelocOffset xrelocType xrelocTarget xrelocAddend : Nat → Int32} (hL : L ≤ 260) (hno : no ≤ 8) (hp : p ≤ 1000) (I : lq_T no R0 R1 (xphase, xstmtCount, xopenOut, xopenGroup, xoutCount, xgroupCount, xinCount, xbyteCount, xrelocCount, xregionSize, xcounter, xmemory, xstmtOp, xstmtA, xstmtB, xstmtOwner, xoutRegion, xoutLoaded, xoutGroup, xoutAlign, xoutVma, xoutLma, xoutDot, xgroupStart, xgroupEnd, xgroupResident, xinKind, xinId, xinAlign, xinSize, xinFirstByte, xinStmt, xinLive, xinVma, xfedBytes, xrelocOwner, xrelocOffset, xrelocType, xrelocTarget, xrelocAddend)) : wL_law_959 (fun r : Int32 => r = 1) L xs (nI p) (nI no) (nI R0) (nI (256 + R1)) kc ks xphase xstmtCount xopenOut xopenGroup xoutCount xgroupCount xinCount xbyteCount xrelocCount xregionSize xcounter xmemory xstmtOp xstmtA xstmtB xstmtOwner xoutRegion xoutLoaded xoutGroup xoutAlign xoutVma xoutLma xoutDot xgroupStart xgroupEnd xgroupResident xinKind xinId xinAlign xinSize xinFirstByte xinStmt xinLive xinVma xfedBytes xrelocOwner xrelocOffset xrelocType xrelocTarget xrelocAddend :=
  nm_r (nI_1 p) (lq_cell hL (by omega) (fun v => lq_pos 4 rfl (by omega) (by omega) (fun j hj => nm_r (nI_add 1 j) ⟨_, lq_rnd hL hno (by omega) (1 + j) 0 (by omega) (p + 1) (by omega) xphase xstmtCount xopenOut xopenGroup xoutCount xgroupCount xinCount xbyteCount xrelocCount xregionSize xcounter xmemory xstmtOp xstmtA xstmtB xstmtOwner xoutRegion xoutLoaded xoutGroup xoutAlign xoutVma xoutLma xoutDot xgroupStart xgroupEnd xgroupResident xinKind xinId xinAlign xinSize xinFirstByte xinStmt xinLive xinVma xfedBytes xrelocOwner xrelocOffset xrelocType xrelocTarget xrelocAddend I⟩)))
end
end
section

section
/-! the law: the checks over the output sections -/
theorem lq_o0 {post : Int32 → Prop} {xphase xstmtCount xopenOut xopenGroup xoutCount xgroupCount xinCount xbyteCount xrelocCount : Int32} {xregionSize xcounter xmemory xstmtOp xstmtA xstmtB xstmtOwner xoutRegion xoutLoaded xoutGroup xoutAlign xoutVma xoutLma xoutDot xgroupStart xgroupEnd xgroupResident xinKind xinId xinAlign xinSize xinFirstByte xinStmt xinLive xinVma xfedBytes xrelocOwner xrelocOffset xrelocType xrelocTarget xrelocAddend : Nat → Int32} {no k : Nat} {y : Int32} (hp : ¬ xphase = 0) (h8 : no ≤ 8) (hk : k < no) (e2 : xoutCount = nI no) (ey : xoutVma k = y) (h : post y) : wpX_outInfo post (xphase, xstmtCount, xopenOut, xopenGroup, xoutCount, xgroupCount, xinCount, xbyteCount, xrelocCount, xregionSize, xcounter, xmemory, xstmtOp, xstmtA, xstmtB, xstmtOwner, xoutRegion, xoutLoaded, xoutGroup, xoutAlign, xoutVma, xoutLma, xoutDot, xgroupStart, xgroupEnd, xgroupResident, xinKind, xinId, xinAlign, xinSize, xinFirstByte, xinStmt, xinLive, xinVma, xfedBytes, xrelocOwner, xrelocOffset, xrelocType, xrelocTarget, xrelocAddend) (nI k) 0 := by
  subst e2
  subst ey
  have e : (nI k).toNatClampNeg = k := nI_clamp (by omega)
  refine br_f hp (br_f (nI_pos (by omega)) (br_t (nI_lt hk (by omega)) ?_))
  repeat (first | refine br_t (by decide) ?_ | refine br_f (by decide) ?_)
  refine ⟨vp_in_nI (by omega) (by omega), ?_⟩
  rw [e]
  exact h
theorem lq_o1 {post : Int32 → Prop} {xphase xstmtCount xopenOut xopenGroup xoutCount xgroupCount xinCount xbyteCount xrelocCount : Int32} {xregionSize xcounter xmemory xstmtOp xstmtA xstmtB xstmtOwner xoutRegion xoutLoaded xoutGroup xoutAlign xoutVma xoutLma xoutDot xgroupStart xgroupEnd xgroupResident xinKind xinId xinAlign xinSize xinFirstByte xinStmt xinLive xinVma xfedBytes xrelocOwner xrelocOffset xrelocType xrelocTarget xrelocAddend : Nat → Int32} {no k : Nat} {y : Int32} (hp : ¬ xphase = 0) (h8 : no ≤ 8) (hk : k < no) (e2 : xoutCount = nI no) (ey : xoutLma k = y) (h : post y) : wpX_outInfo post (xphase, xstmtCount, xopenOut, xopenGroup, xoutCount, xgroupCount, xinCount, xbyteCount, xrelocCount, xregionSize, xcounter, xmemory, xstmtOp, xstmtA, xstmtB, xstmtOwner, xoutRegion, xoutLoaded, xoutGroup, xoutAlign, xoutVma, xoutLma, xoutDot, xgroupStart, xgroupEnd, xgroupResident, xinKind, xinId, xinAlign, xinSize, xinFirstByte, xinStmt, xinLive, xinVma, xfedBytes, xrelocOwner, xrelocOffset, xrelocType, xrelocTarget, xrelocAddend) (nI k) 1 := by
  subst e2
  subst ey
  have e : (nI k).toNatClampNeg = k := nI_clamp (by omega)
  refine br_f hp (br_f (nI_pos (by omega)) (br_t (nI_lt hk (by omega)) ?_))
  repeat (first | refine br_t (by decide) ?_ | refine br_f (by decide) ?_)
  refine ⟨vp_in_nI (by omega) (by omega), ?_⟩
  rw [e]
  exact h
theorem lq_o3 {post : Int32 → Prop} {xphase xstmtCount xopenOut xopenGroup xoutCount xgroupCount xinCount xbyteCount xrelocCount : Int32} {xregionSize xcounter xmemory xstmtOp xstmtA xstmtB xstmtOwner xoutRegion xoutLoaded xoutGroup xoutAlign xoutVma xoutLma xoutDot xgroupStart xgroupEnd xgroupResident xinKind xinId xinAlign xinSize xinFirstByte xinStmt xinLive xinVma xfedBytes xrelocOwner xrelocOffset xrelocType xrelocTarget xrelocAddend : Nat → Int32} {no k : Nat} {y : Int32} (hp : ¬ xphase = 0) (h8 : no ≤ 8) (hk : k < no) (e2 : xoutCount = nI no) (ey : xoutRegion k = y) (h : post y) : wpX_outInfo post (xphase, xstmtCount, xopenOut, xopenGroup, xoutCount, xgroupCount, xinCount, xbyteCount, xrelocCount, xregionSize, xcounter, xmemory, xstmtOp, xstmtA, xstmtB, xstmtOwner, xoutRegion, xoutLoaded, xoutGroup, xoutAlign, xoutVma, xoutLma, xoutDot, xgroupStart, xgroupEnd, xgroupResident, xinKind, xinId, xinAlign, xinSize, xinFirstByte, xinStmt, xinLive, xinVma, xfedBytes, xrelocOwner, xrelocOffset, xrelocType, xrelocTarget, xrelocAddend) (nI k) 3 := by
  subst e2
  subst ey
  have e : (nI k).toNatClampNeg = k := nI_clamp (by omega)
  refine br_f hp (br_f (nI_pos (by omega)) (br_t (nI_lt hk (by omega)) ?_))
  repeat (first | refine br_t (by decide) ?_ | refine br_f (by decide) ?_)
  refine ⟨vp_in_nI (by omega) (by omega), ?_⟩
  rw [e]
  exact h
theorem lq_o4 {post : Int32 → Prop} {xphase xstmtCount xopenOut xopenGroup xoutCount xgroupCount xinCount xbyteCount xrelocCount : Int32} {xregionSize xcounter xmemory xstmtOp xstmtA xstmtB xstmtOwner xoutRegion xoutLoaded xoutGroup xoutAlign xoutVma xoutLma xoutDot xgroupStart xgroupEnd xgroupResident xinKind xinId xinAlign xinSize xinFirstByte xinStmt xinLive xinVma xfedBytes xrelocOwner xrelocOffset xrelocType xrelocTarget xrelocAddend : Nat → Int32} {no k : Nat} {y : Int32} (hp : ¬ xphase = 0) (h8 : no ≤ 8) (hk : k < no) (e2 : xoutCount = nI no) (ey : xoutLoaded k = y) (h : post y) : wpX_outInfo post (xphase, xstmtCount, xopenOut, xopenGroup, xoutCount, xgroupCount, xinCount, xbyteCount, xrelocCount, xregionSize, xcounter, xmemory, xstmtOp, xstmtA, xstmtB, xstmtOwner, xoutRegion, xoutLoaded, xoutGroup, xoutAlign, xoutVma, xoutLma, xoutDot, xgroupStart, xgroupEnd, xgroupResident, xinKind, xinId, xinAlign, xinSize, xinFirstByte, xinStmt, xinLive, xinVma, xfedBytes, xrelocOwner, xrelocOffset, xrelocType, xrelocTarget, xrelocAddend) (nI k) 4 := by
  subst e2
  subst ey
  have e : (nI k).toNatClampNeg = k := nI_clamp (by omega)
  refine br_f hp (br_f (nI_pos (by omega)) (br_t (nI_lt hk (by omega)) ?_))
  repeat (first | refine br_t (by decide) ?_ | refine br_f (by decide) ?_)
  refine ⟨vp_in_nI (by omega) (by omega), ?_⟩
  rw [e]
  exact h
theorem lq_o5 {post : Int32 → Prop} {xphase xstmtCount xopenOut xopenGroup xoutCount xgroupCount xinCount xbyteCount xrelocCount : Int32} {xregionSize xcounter xmemory xstmtOp xstmtA xstmtB xstmtOwner xoutRegion xoutLoaded xoutGroup xoutAlign xoutVma xoutLma xoutDot xgroupStart xgroupEnd xgroupResident xinKind xinId xinAlign xinSize xinFirstByte xinStmt xinLive xinVma xfedBytes xrelocOwner xrelocOffset xrelocType xrelocTarget xrelocAddend : Nat → Int32} {no k : Nat} {y : Int32} (hp : ¬ xphase = 0) (h8 : no ≤ 8) (hk : k < no) (e2 : xoutCount = nI no) (ey : xoutGroup k = y) (h : post y) : wpX_outInfo post (xphase, xstmtCount, xopenOut, xopenGroup, xoutCount, xgroupCount, xinCount, xbyteCount, xrelocCount, xregionSize, xcounter, xmemory, xstmtOp, xstmtA, xstmtB, xstmtOwner, xoutRegion, xoutLoaded, xoutGroup, xoutAlign, xoutVma, xoutLma, xoutDot, xgroupStart, xgroupEnd, xgroupResident, xinKind, xinId, xinAlign, xinSize, xinFirstByte, xinStmt, xinLive, xinVma, xfedBytes, xrelocOwner, xrelocOffset, xrelocType, xrelocTarget, xrelocAddend) (nI k) 5 := by
  subst e2
  subst ey
  have e : (nI k).toNatClampNeg = k := nI_clamp (by omega)
  refine br_f hp (br_f (nI_pos (by omega)) (br_t (nI_lt hk (by omega)) ?_))
  repeat (first | refine br_t (by decide) ?_ | refine br_f (by decide) ?_)
  refine ⟨vp_in_nI (by omega) (by omega), ?_⟩
  rw [e]
  exact h
theorem lq_o2 {post : Int32 → Prop} {xphase xstmtCount xopenOut xopenGroup xoutCount xgroupCount xinCount xbyteCount xrelocCount : Int32} {xregionSize xcounter xmemory xstmtOp xstmtA xstmtB xstmtOwner xoutRegion xoutLoaded xoutGroup xoutAlign xoutVma xoutLma xoutDot xgroupStart xgroupEnd xgroupResident xinKind xinId xinAlign xinSize xinFirstByte xinStmt xinLive xinVma xfedBytes xrelocOwner xrelocOffset xrelocType xrelocTarget xrelocAddend : Nat → Int32} {no k v d : Nat} (hp : ¬ xphase = 0) (h8 : no ≤ 8) (hk : k < no) (e2 : xoutCount = nI no) (ev : xoutVma k = nI v) (ed : xoutDot k = nI d) (hvd : v ≤ d) (h : post (nI (d - v))) : wpX_outInfo post (xphase, xstmtCount, xopenOut, xopenGroup, xoutCount, xgroupCount, xinCount, xbyteCount, xrelocCount, xregionSize, xcounter, xmemory, xstmtOp, xstmtA, xstmtB, xstmtOwner, xoutRegion, xoutLoaded, xoutGroup, xoutAlign, xoutVma, xoutLma, xoutDot, xgroupStart, xgroupEnd, xgroupResident, xinKind, xinId, xinAlign, xinSize, xinFirstByte, xinStmt, xinLive, xinVma, xfedBytes, xrelocOwner, xrelocOffset, xrelocType, xrelocTarget, xrelocAddend) (nI k) 2 := by
  subst e2
  have e : (nI k).toNatClampNeg = k := nI_clamp (by omega)
  refine br_f hp (br_f (nI_pos (by omega)) (br_t (nI_lt hk (by omega)) ?_))
  repeat (first | refine br_t (by decide) ?_ | refine br_f (by decide) ?_)
  refine ⟨vp_in_nI (by omega) (by omega), vp_in_nI (by omega) (by omega), ?_⟩
  rw [e, ev, ed, pk_sub hvd]
  exact h
theorem lq_903 {post : Int32 → Prop} {L : Nat} {xs : Nat → Int32} {J641 J778 : Int32 → Prop} {x1 x6 x7 x8 x9 x10 x11 x12 x13 x14 x15 x18 x20 x22 x23 y : Int32} {kc ks : Nat} {xphase xstmtCount xopenOut xopenGroup xoutCount xgroupCount xinCount xbyteCount xrelocCount : Int32} {xregionSize xcounter xmemory xstmtOp xstmtA xstmtB xstmtOwner xoutRegion xoutLoaded xoutGroup xoutAlign xoutVma xoutLma xoutDot xgroupStart xgroupEnd xgroupResident xinKind xinId xinAlign xinSize xinFirstByte xinStmt xinLive xinVma xfedBytes xrelocOwner xrelocOffset xrelocType xrelocTarget xrelocAddend : Nat → Int32} (ey : x18 + 1 = y) (hJ : J778 y) (h : x13 = 1 → x22 = 1 → x14 + x11 ≤ x23) : wL_law_903 post L xs J641 J778 x1 x6 x7 x8 x9 x10 x11 x12 x13 x14 x15 x18 x20 x22 x23 kc ks xphase xstmtCount xopenOut xopenGroup xoutCount xgroupCount xinCount xbyteCount xrelocCount xregionSize xcounter xmemory xstmtOp xstmtA xstmtB xstmtOwner xoutRegion xoutLoaded xoutGroup xoutAlign xoutVma xoutLma xoutDot xgroupStart xgroupEnd xgroupResident xinKind xinId xinAlign xinSize xinFirstByte xinStmt xinLive xinVma xfedBytes xrelocOwner xrelocOffset xrelocType xrelocTarget xrelocAddend := by
  by_cases a : x13 = 1
  · by_cases b : x22 = 1
    · refine br_t a (br_t b ?_)
      by_cases c1 : x11 ≤ 0
      · exact br_t c1 (nm_r ey hJ)
      by_cases c2 : x20 ≤ 0
      · exact br_f c1 (br_t c2 (nm_r ey hJ))
      by_cases c3 : x23 + x20 ≤ x14
      · exact br_f c1 (br_f c2 (br_t c3 (nm_r ey hJ)))
      · exact br_f c1 (br_f c2 (br_f c3 (br_t (h a b) (nm_r ey hJ))))
    · exact br_t a (br_f b (nm_r ey hJ))
  · exact br_f a (nm_r ey hJ)
theorem lq_857 {post : Int32 → Prop} {L : Nat} {xs : Nat → Int32} {J641 J778 : Int32 → Prop} {x1 x6 x7 x8 x9 x10 x11 x12 x13 x14 x15 x18 x19 x20 x21 x22 x23 z0 y : Int32} {kc ks : Nat} {xphase xstmtCount xopenOut xopenGroup xoutCount xgroupCount xinCount xbyteCount xrelocCount : Int32} {xregionSize xcounter xmemory xstmtOp xstmtA xstmtB xstmtOwner xoutRegion xoutLoaded xoutGroup xoutAlign xoutVma xoutLma xoutDot xgroupStart xgroupEnd xgroupResident xinKind xinId xinAlign xinSize xinFirstByte xinStmt xinLive xinVma xfedBytes xrelocOwner xrelocOffset xrelocType xrelocTarget xrelocAddend : Nat → Int32} (ey : x18 + 1 = y) (hJ : J778 y) (h : x13 = 1 → x22 = 1 → x14 + x11 ≤ x23) (h2 : x21 = x12 → z0 = 0 → x10 + x11 ≤ x19) : wL_law_857 post L xs J641 J778 x1 x6 x7 x8 x9 x10 x11 x12 x13 x14 x15 x18 x19 x20 x21 x22 x23 z0 kc ks xphase xstmtCount xopenOut xopenGroup xoutCount xgroupCount xinCount xbyteCount xrelocCount xregionSize xcounter xmemory xstmtOp xstmtA xstmtB xstmtOwner xoutRegion xoutLoaded xoutGroup xoutAlign xoutVma xoutLma xoutDot xgroupStart xgroupEnd xgroupResident xinKind xinId xinAlign xinSize xinFirstByte xinStmt xinLive xinVma xfedBytes xrelocOwner xrelocOffset xrelocType xrelocTarget xrelocAddend := by
  by_cases a : x21 = x12
  · by_cases b : z0 = 0
    · refine br_t a (br_t b ?_)
      by_cases c1 : x11 ≤ 0
      · exact br_t c1 (lq_903 ey hJ h)
      by_cases c2 : x20 ≤ 0
      · exact br_f c1 (br_t c2 (lq_903 ey hJ h))
      by_cases c3 : x19 + x20 ≤ x10
      · exact br_f c1 (br_f c2 (br_t c3 (lq_903 ey hJ h)))
      · exact br_f c1 (br_f c2 (br_f c3 (br_t (h2 a b) (lq_903 ey hJ h))))
    · exact br_t a (br_f b (lq_903 ey hJ h))
  · exact br_f a (lq_903 ey hJ h)
theorem lq_641 {L : Nat} {xs : Nat → Int32} {kc ks no R0 R1 p : Nat} {xphase xstmtCount xopenOut xopenGroup xoutCount xgroupCount xinCount xbyteCount xrelocCount : Int32} {xregionSize xcounter xmemory xstmtOp xstmtA xstmtB xstmtOwner xoutRegion xoutLoaded xoutGroup xoutAlign xoutVma xoutLma xoutDot xgroupStart xgroupEnd xgroupResident xinKind xinId xinAlign xinSize xinFirstByte xinStmt xinLive xinVma xfedBytes xrelocOwner xrelocOffset xrelocType xrelocTarget xrelocAddend : Nat → Int32} (hL : L ≤ 260) (hp : p ≤ 1000) (I : lq_L 1 no R0 R1 (xphase, xstmtCount, xopenOut, xopenGroup, xoutCount, xgroupCount, xinCount, xbyteCount, xrelocCount, xregionSize, xcounter, xmemory, xstmtOp, xstmtA, xstmtB, xstmtOwner, xoutRegion, xoutLoaded, xoutGroup, xoutAlign, xoutVma, xoutLma, xoutDot, xgroupStart, xgroupEnd, xgroupResident, xinKind, xinId, xinAlign, xinSize, xinFirstByte, xinStmt, xinLive, xinVma, xfedBytes, xrelocOwner, xrelocOffset, xrelocType, xrelocTarget, xrelocAddend)) : ∀ d i, i + d = no → wL_law_641 (fun r : Int32 => r = 1) L xs (nI p) (nI no) (nI R0) (nI (256 + R1)) kc ks xphase xstmtCount xopenOut xopenGroup xoutCount xgroupCount xinCount xbyteCount xrelocCount xregionSize xcounter xmemory xstmtOp xstmtA xstmtB xstmtOwner xoutRegion xoutLoaded xoutGroup xoutAlign xoutVma xoutLma xoutDot xgroupStart xgroupEnd xgroupResident xinKind xinId xinAlign xinSize xinFirstByte xinStmt xinLive xinVma xfedBytes xrelocOwner xrelocOffset xrelocType xrelocTarget xrelocAddend (d + 1) (nI i) := by
  have IT : lq_T no R0 R1 (xphase, xstmtCount, xopenOut, xopenGroup, xoutCount, xgroupCount, xinCount, xbyteCount, xrelocCount, xregionSize, xcounter, xmemory, xstmtOp, xstmtA, xstmtB, xstmtOwner, xoutRegion, xoutLoaded, xoutGroup, xoutAlign, xoutVma, xoutLma, xoutDot, xgroupStart, xgroupEnd, xgroupResident, xinKind, xinId, xinAlign, xinSize, xinFirstByte, xinStmt, xinLive, xinVma, xfedBytes, xrelocOwner, xrelocOffset, xrelocType, xrelocTarget, xrelocAddend) := Or.inr (Or.inl I)
  obtain ⟨ng, V, LL, D, G0, GE, me, e1, e2, e3, hZ, hK, _⟩ := I
  obtain ⟨h8, h4, hof, hk, has, hg, ⟨C1, hG⟩, hr⟩ := hK
  have hR1 : R1 ≤ 128 := hZ.2.2.2.2.2
  have hR0 : R0 ≤ 128 := hZ.2.2.2.1
  have np : ¬ xphase = 0 := by rw [e1]; decide
  have hD : ∀ k, k < no → V k ≤ D k ∧ D k < 2 ^ 29 := by
    intro k hkn
    obtain ⟨t1, t2, t3, t4, t5, t6, t7⟩ := hk k hkn
    refine ⟨t4, ?_⟩
    rcases hof k hkn with ⟨r, _⟩ | ⟨r, _⟩
    · have := (t6 r).1; omega
    · have := (t5 r).2; omega
  intro d
  induction d with
  | zero => intro i hi; exact br_t (nI_le (by omega) (by omega)) (lq_959 hL h8 hp IT)
  | succ d ih =>
    intro i hi
    have hin : i < no := by omega
    obtain ⟨t1, t2, t3, t4, t5, t6, t7⟩ := hk i hin
    obtain ⟨_, hDi⟩ := hD i hin
    have H : ∀ e j, j + e = no → i < j → wL_law_778 (fun r : Int32 => r = 1) L xs (wL_law_641 (fun r : Int32 => r = 1) L xs (nI p) (nI no) (nI R0) (nI (256 + R1)) kc ks xphase xstmtCount xopenOut xopenGroup xoutCount xgroupCount xinCount xbyteCount xrelocCount xregionSize xcounter xmemory xstmtOp xstmtA xstmtB xstmtOwner xoutRegion xoutLoaded xoutGroup xoutAlign xoutVma xoutLma xoutDot xgroupStart xgroupEnd xgroupResident xinKind xinId xinAlign xinSize xinFirstByte xinStmt xinLive xinVma xfedBytes xrelocOwner xrelocOffset xrelocType xrelocTarget xrelocAddend (d + 1)) (nI p) (nI no) (nI R0) (nI (256 + R1)) (nI i) (nI (V i)) (nI (D i - V i)) (xoutRegion i) (xoutLoaded i) (nI (LL i)) (xoutGroup i) kc ks xphase xstmtCount xopenOut xopenGroup xoutCount xgroupCount xinCount xbyteCount xrelocCount xregionSize xcounter xmemory xstmtOp xstmtA xstmtB xstmtOwner xoutRegion xoutLoaded xoutGroup xoutAlign xoutVma xoutLma xoutDot xgroupStart xgroupEnd xgroupResident xinKind xinId xinAlign xinSize xinFirstByte xinStmt xinLive xinVma xfedBytes xrelocOwner xrelocOffset xrelocType xrelocTarget xrelocAddend (e + 1) (nI j) := by
      intro e
      induction e with
      | zero => intro j hj _; exact br_t (nI_le (by omega) (by omega)) (nm_r (nI_1 i) (ih (i + 1) (by omega)))
      | succ e ihe =>
        intro j hj hij
        have hjn : j < no := by omega
        obtain ⟨s1, s2, s3, s4, s5, s6, s7⟩ := hk j hjn
        obtain ⟨_, hDj⟩ := hD j hjn
        have hl : xoutLoaded i = 1 → xoutLoaded j = 1 → nI (LL i) + nI (D i - V i) ≤ nI (LL j) := by
          intro a b
          have c1 := has i j hij hjn a b
          have c2 := s7 b
          rw [nI_add]
          exact nI_le c1 (by omega)
        have hv : xoutRegion j = xoutRegion i → (xoutGroup i = -1 ∨ ¬ xoutGroup i = xoutGroup j) → nI (V i) + nI (D i - V i) ≤ nI (V j) := by
          intro a b
          rw [nI_add]
          refine nI_le ?_ (by omega)
          rcases hof i hin with ⟨r, l, _⟩ | ⟨r, _, _⟩
          · rw [r] at a
            have lj : xoutLoaded j = 1 := by
              rcases hof j hjn with ⟨_, l2, _⟩ | ⟨r2, _⟩
              · exact l2
              · rw [a] at r2
                exact absurd r2 (by decide)
            have c1 := has i j hij hjn l lj
            have c2 := (t6 r).2
            have c3 := (s6 a).2
            omega
          · rw [r] at a
            have c1 := hG.2.2.2.2.2.2.1 i j hij hjn r a b
            omega
        have nx := ihe (j + 1) (by omega) (by omega)
        refine br_f (nI_ge (by omega) (by omega)) (lq_o0 np h8 hjn e2 s1 (lq_o2 np h8 hjn e2 s1 s3 s4 (lq_o3 np h8 hjn e2 rfl (lq_o4 np h8 hjn e2 rfl (lq_o1 np h8 hjn e2 s2 (lq_o5 np h8 hjn e2 rfl ?_))))))
        by_cases g1 : xoutGroup i = -1
        · exact br_t g1 (lq_857 (nI_1 j) nx hl (fun a _ => hv a (Or.inl g1)))
        · by_cases g2 : xoutGroup i = xoutGroup j
          · exact br_f g1 (br_t g2 (lq_857 (nI_1 j) nx hl (fun _ z => absurd z (by decide))))
          · exact br_f g1 (br_f g2 (lq_857 (nI_1 j) nx hl (fun a _ => hv a (Or.inr g2))))
    have HH := H (no - (i + 1)) (i + 1) (by omega) (by omega)
    have ev : nI (V i) + nI (D i - V i) = nI (D i) := by rw [nI_add, show V i + (D i - V i) = D i by omega]
    have fin : ∀ lo hi : Nat, lo ≤ V i → D i ≤ hi → hi < 2 ^ 30 → wL_law_728 (fun r : Int32 => r = 1) L xs (wL_law_641 (fun r : Int32 => r = 1) L xs (nI p) (nI no) (nI R0) (nI (256 + R1)) kc ks xphase xstmtCount xopenOut xopenGroup xoutCount xgroupCount xinCount xbyteCount xrelocCount xregionSize xcounter xmemory xstmtOp xstmtA xstmtB xstmtOwner xoutRegion xoutLoaded xoutGroup xoutAlign xoutVma xoutLma xoutDot xgroupStart xgroupEnd xgroupResident xinKind xinId xinAlign xinSize xinFirstByte xinStmt xinLive xinVma xfedBytes xrelocOwner xrelocOffset xrelocType xrelocTarget xrelocAddend (d + 1)) (nI p) (nI no) (nI R0) (nI (256 + R1)) (nI i) (nI (V i)) (nI (D i - V i)) (xoutRegion i) (xoutLoaded i) (nI (LL i)) (xoutGroup i) (nI lo) (nI hi) kc ks xphase xstmtCount xopenOut xopenGroup xoutCount xgroupCount xinCount xbyteCount xrelocCount xregionSize xcounter xmemory xstmtOp xstmtA xstmtB xstmtOwner xoutRegion xoutLoaded xoutGroup xoutAlign xoutVma xoutLma xoutDot xgroupStart xgroupEnd xgroupResident xinKind xinId xinAlign xinSize xinFirstByte xinStmt xinLive xinVma xfedBytes xrelocOwner xrelocOffset xrelocType xrelocTarget xrelocAddend := by
      intro lo hi h1 h2 h3
      refine br_f (nI_nlt h1 (by omega)) (br_t (by rw [ev]; exact nI_le h2 (by omega)) ?_)
      by_cases l1 : xoutLoaded i = 1
      · have c1 := t7 l1
        exact br_t l1 (br_f (nI_pos (by omega)) (br_t (by rw [nI_add]; exact nI_le c1 (by omega)) (nm_r (nI_1 i) ⟨_, HH⟩)))
      · exact br_f l1 (nm_r (nI_1 i) ⟨_, HH⟩)
    refine br_f (nI_ge (by omega) (by omega)) (lq_o0 np h8 hin e2 t1 (lq_o2 np h8 hin e2 t1 t3 t4 (lq_o3 np h8 hin e2 rfl (lq_o4 np h8 hin e2 rfl (lq_o1 np h8 hin e2 t2 (lq_o5 np h8 hin e2 rfl ?_))))))
    rcases hof i hin with ⟨r, _⟩ | ⟨r, _⟩
    · exact br_t r (br_t r (fin 0 R0 (by omega) (t6 r).1 (by omega)))
    · have r0 : ¬ xoutRegion i = 0 := by rw [r]; decide
      exact br_f r0 (br_f r0 (fin 256 (256 + R1) (t5 r).1 (t5 r).2 (by omega)))
end
end
section

section
/-! the law: link, and the script before it -/
theorem lq_598 {L : Nat} {xs : Nat → Int32} {kc ks R0 R1 p : Nat} {z0 : Int32} {xphase xstmtCount xopenOut xopenGroup xoutCount xgroupCount xinCount xbyteCount xrelocCount : Int32} {xregionSize xcounter xmemory xstmtOp xstmtA xstmtB xstmtOwner xoutRegion xoutLoaded xoutGroup xoutAlign xoutVma xoutLma xoutDot xgroupStart xgroupEnd xgroupResident xinKind xinId xinAlign xinSize xinFirstByte xinStmt xinLive xinVma xfedBytes xrelocOwner xrelocOffset xrelocType xrelocTarget xrelocAddend : Nat → Int32} (hL : L ≤ 260) (hp : p ≤ 1000) (I : lq_Fx R0 R1 (xphase, xstmtCount, xopenOut, xopenGroup, xoutCount, xgroupCount, xinCount, xbyteCount, xrelocCount, xregionSize, xcounter, xmemory, xstmtOp, xstmtA, xstmtB, xstmtOwner, xoutRegion, xoutLoaded, xoutGroup, xoutAlign, xoutVma, xoutLma, xoutDot, xgroupStart, xgroupEnd, xgroupResident, xinKind, xinId, xinAlign, xinSize, xinFirstByte, xinStmt, xinLive, xinVma, xfedBytes, xrelocOwner, xrelocOffset, xrelocType, xrelocTarget, xrelocAddend)) : wL_law_598 (fun r : Int32 => r = 1) L xs (nI p) z0 kc ks xphase xstmtCount xopenOut xopenGroup xoutCount xgroupCount xinCount xbyteCount xrelocCount xregionSize xcounter xmemory xstmtOp xstmtA xstmtB xstmtOwner xoutRegion xoutLoaded xoutGroup xoutAlign xoutVma xoutLma xoutDot xgroupStart xgroupEnd xgroupResident xinKind xinId xinAlign xinSize xinFirstByte xinStmt xinLive xinVma xfedBytes xrelocOwner xrelocOffset xrelocType xrelocTarget xrelocAddend := by
  obtain ⟨no, I⟩ := I
  obtain ⟨f1, f2, f3, f4⟩ := lq_F_f I
  unfold wL_law_598
  refine lq_i2 f2 (lq_i7 f3.1 (nm_r (Int32.zero_add (nI R0)) (lq_i8 f3.2.1 (nm_r (lk_256 R1) (lq_link I (fun u hu => ?_) (fun r u hr hu => ?_))))))
  · obtain ⟨xphase, xstmtCount, xopenOut, xopenGroup, xoutCount, xgroupCount, xinCount, xbyteCount, xrelocCount, xregionSize, xcounter, xmemory, xstmtOp, xstmtA, xstmtB, xstmtOwner, xoutRegion, xoutLoaded, xoutGroup, xoutAlign, xoutVma, xoutLma, xoutDot, xgroupStart, xgroupEnd, xgroupResident, xinKind, xinId, xinAlign, xinSize, xinFirstByte, xinStmt, xinLive, xinVma, xfedBytes, xrelocOwner, xrelocOffset, xrelocType, xrelocTarget, xrelocAddend⟩ := u
    exact br_t rfl ⟨_, lq_641 hL hp hu no 0 (by omega)⟩
  · obtain ⟨xphase, xstmtCount, xopenOut, xopenGroup, xoutCount, xgroupCount, xinCount, xbyteCount, xrelocCount, xregionSize, xcounter, xmemory, xstmtOp, xstmtA, xstmtB, xstmtOwner, xoutRegion, xoutLoaded, xoutGroup, xoutAlign, xoutVma, xoutLma, xoutDot, xgroupStart, xgroupEnd, xgroupResident, xinKind, xinId, xinAlign, xinSize, xinFirstByte, xinStmt, xinLive, xinVma, xfedBytes, xrelocOwner, xrelocOffset, xrelocType, xrelocTarget, xrelocAddend⟩ := u
    exact br_f hr (lq_959 hL f4 hp (Or.inl hu))
theorem lq_571 {L : Nat} {xs : Nat → Int32} {kc ks R0 R1 p : Nat} {x4 z0 : Int32} {xphase xstmtCount xopenOut xopenGroup xoutCount xgroupCount xinCount xbyteCount xrelocCount : Int32} {xregionSize xcounter xmemory xstmtOp xstmtA xstmtB xstmtOwner xoutRegion xoutLoaded xoutGroup xoutAlign xoutVma xoutLma xoutDot xgroupStart xgroupEnd xgroupResident xinKind xinId xinAlign xinSize xinFirstByte xinStmt xinLive xinVma xfedBytes xrelocOwner xrelocOffset xrelocType xrelocTarget xrelocAddend : Nat → Int32} (hL : L ≤ 260) (hp : p ≤ 1000) (I : lq_Fx R0 R1 (xphase, xstmtCount, xopenOut, xopenGroup, xoutCount, xgroupCount, xinCount, xbyteCount, xrelocCount, xregionSize, xcounter, xmemory, xstmtOp, xstmtA, xstmtB, xstmtOwner, xoutRegion, xoutLoaded, xoutGroup, xoutAlign, xoutVma, xoutLma, xoutDot, xgroupStart, xgroupEnd, xgroupResident, xinKind, xinId, xinAlign, xinSize, xinFirstByte, xinStmt, xinLive, xinVma, xfedBytes, xrelocOwner, xrelocOffset, xrelocType, xrelocTarget, xrelocAddend)) : wL_law_571 (fun r : Int32 => r = 1) L xs (nI p) x4 z0 kc ks xphase xstmtCount xopenOut xopenGroup xoutCount xgroupCount xinCount xbyteCount xrelocCount xregionSize xcounter xmemory xstmtOp xstmtA xstmtB xstmtOwner xoutRegion xoutLoaded xoutGroup xoutAlign xoutVma xoutLma xoutDot xgroupStart xgroupEnd xgroupResident xinKind xinId xinAlign xinSize xinFirstByte xinStmt xinLive xinVma xfedBytes xrelocOwner xrelocOffset xrelocType xrelocTarget xrelocAddend := by
  unfold wL_law_571
  refine lq_script I (fun u hu => ?_)
  obtain ⟨xphase, xstmtCount, xopenOut, xopenGroup, xoutCount, xgroupCount, xinCount, xbyteCount, xrelocCount, xregionSize, xcounter, xmemory, xstmtOp, xstmtA, xstmtB, xstmtOwner, xoutRegion, xoutLoaded, xoutGroup, xoutAlign, xoutVma, xoutLma, xoutDot, xgroupStart, xgroupEnd, xgroupResident, xinKind, xinId, xinAlign, xinSize, xinFirstByte, xinStmt, xinLive, xinVma, xfedBytes, xrelocOwner, xrelocOffset, xrelocType, xrelocTarget, xrelocAddend⟩ := u
  refine lq_script hu (fun u hu => ?_)
  obtain ⟨xphase, xstmtCount, xopenOut, xopenGroup, xoutCount, xgroupCount, xinCount, xbyteCount, xrelocCount, xregionSize, xcounter, xmemory, xstmtOp, xstmtA, xstmtB, xstmtOwner, xoutRegion, xoutLoaded, xoutGroup, xoutAlign, xoutVma, xoutLma, xoutDot, xgroupStart, xgroupEnd, xgroupResident, xinKind, xinId, xinAlign, xinSize, xinFirstByte, xinStmt, xinLive, xinVma, xfedBytes, xrelocOwner, xrelocOffset, xrelocType, xrelocTarget, xrelocAddend⟩ := u
  by_cases c : x4 &&& 16 = 0
  · exact br_t c (lq_598 hL hp hu)
  · exact br_f c (lq_598 hL hp hu)
theorem lq_437 {L : Nat} {xs : Nat → Int32} {kc ks R0 R1 p : Nat} {x4 : Int32} {xphase xstmtCount xopenOut xopenGroup xoutCount xgroupCount xinCount xbyteCount xrelocCount : Int32} {xregionSize xcounter xmemory xstmtOp xstmtA xstmtB xstmtOwner xoutRegion xoutLoaded xoutGroup xoutAlign xoutVma xoutLma xoutDot xgroupStart xgroupEnd xgroupResident xinKind xinId xinAlign xinSize xinFirstByte xinStmt xinLive xinVma xfedBytes xrelocOwner xrelocOffset xrelocType xrelocTarget xrelocAddend : Nat → Int32} (hL : L ≤ 260) (hp : p ≤ 900) (I : lq_Fx R0 R1 (xphase, xstmtCount, xopenOut, xopenGroup, xoutCount, xgroupCount, xinCount, xbyteCount, xrelocCount, xregionSize, xcounter, xmemory, xstmtOp, xstmtA, xstmtB, xstmtOwner, xoutRegion, xoutLoaded, xoutGroup, xoutAlign, xoutVma, xoutLma, xoutDot, xgroupStart, xgroupEnd, xgroupResident, xinKind, xinId, xinAlign, xinSize, xinFirstByte, xinStmt, xinLive, xinVma, xfedBytes, xrelocOwner, xrelocOffset, xrelocType, xrelocTarget, xrelocAddend)) : wL_law_437 (fun r : Int32 => r = 1) L xs (nI p) x4 kc ks xphase xstmtCount xopenOut xopenGroup xoutCount xgroupCount xinCount xbyteCount xrelocCount xregionSize xcounter xmemory xstmtOp xstmtA xstmtB xstmtOwner xoutRegion xoutLoaded xoutGroup xoutAlign xoutVma xoutLma xoutDot xgroupStart xgroupEnd xgroupResident xinKind xinId xinAlign xinSize xinFirstByte xinStmt xinLive xinVma xfedBytes xrelocOwner xrelocOffset xrelocType xrelocTarget xrelocAddend := by
  unfold wL_law_437
  refine lq_script I (fun u hu => ?_)
  obtain ⟨xphase, xstmtCount, xopenOut, xopenGroup, xoutCount, xgroupCount, xinCount, xbyteCount, xrelocCount, xregionSize, xcounter, xmemory, xstmtOp, xstmtA, xstmtB, xstmtOwner, xoutRegion, xoutLoaded, xoutGroup, xoutAlign, xoutVma, xoutLma, xoutDot, xgroupStart, xgroupEnd, xgroupResident, xinKind, xinId, xinAlign, xinSize, xinFirstByte, xinStmt, xinLive, xinVma, xfedBytes, xrelocOwner, xrelocOffset, xrelocType, xrelocTarget, xrelocAddend⟩ := u
  refine lq_script hu (fun u hu => ?_)
  obtain ⟨xphase, xstmtCount, xopenOut, xopenGroup, xoutCount, xgroupCount, xinCount, xbyteCount, xrelocCount, xregionSize, xcounter, xmemory, xstmtOp, xstmtA, xstmtB, xstmtOwner, xoutRegion, xoutLoaded, xoutGroup, xoutAlign, xoutVma, xoutLma, xoutDot, xgroupStart, xgroupEnd, xgroupResident, xinKind, xinId, xinAlign, xinSize, xinFirstByte, xinStmt, xinLive, xinVma, xfedBytes, xrelocOwner, xrelocOffset, xrelocType, xrelocTarget, xrelocAddend⟩ := u
  refine nm_r (nI_1 p) (lq_cell hL (by omega) (fun v => lq_pos 5 rfl (by omega) (by omega) (fun j hj => lq_script hu (fun u hu => ?_))))
  obtain ⟨xphase, xstmtCount, xopenOut, xopenGroup, xoutCount, xgroupCount, xinCount, xbyteCount, xrelocCount, xregionSize, xcounter, xmemory, xstmtOp, xstmtA, xstmtB, xstmtOwner, xoutRegion, xoutLoaded, xoutGroup, xoutAlign, xoutVma, xoutLma, xoutDot, xgroupStart, xgroupEnd, xgroupResident, xinKind, xinId, xinAlign, xinSize, xinFirstByte, xinStmt, xinLive, xinVma, xfedBytes, xrelocOwner, xrelocOffset, xrelocType, xrelocTarget, xrelocAddend⟩ := u
  refine lq_script hu (fun u hu => ?_)
  obtain ⟨xphase, xstmtCount, xopenOut, xopenGroup, xoutCount, xgroupCount, xinCount, xbyteCount, xrelocCount, xregionSize, xcounter, xmemory, xstmtOp, xstmtA, xstmtB, xstmtOwner, xoutRegion, xoutLoaded, xoutGroup, xoutAlign, xoutVma, xoutLma, xoutDot, xgroupStart, xgroupEnd, xgroupResident, xinKind, xinId, xinAlign, xinSize, xinFirstByte, xinStmt, xinLive, xinVma, xfedBytes, xrelocOwner, xrelocOffset, xrelocType, xrelocTarget, xrelocAddend⟩ := u
  refine nm_r (nI_1 (p + 1)) (lq_cell hL (by omega) (fun v => lq_pos 16 rfl (by omega) (by omega) (fun j hj => lq_script hu (fun u hu => ?_))))
  obtain ⟨xphase, xstmtCount, xopenOut, xopenGroup, xoutCount, xgroupCount, xinCount, xbyteCount, xrelocCount, xregionSize, xcounter, xmemory, xstmtOp, xstmtA, xstmtB, xstmtOwner, xoutRegion, xoutLoaded, xoutGroup, xoutAlign, xoutVma, xoutLma, xoutDot, xgroupStart, xgroupEnd, xgroupResident, xinKind, xinId, xinAlign, xinSize, xinFirstByte, xinStmt, xinLive, xinVma, xfedBytes, xrelocOwner, xrelocOffset, xrelocType, xrelocTarget, xrelocAddend⟩ := u
  refine lq_script hu (fun u hu => ?_)
  obtain ⟨xphase, xstmtCount, xopenOut, xopenGroup, xoutCount, xgroupCount, xinCount, xbyteCount, xrelocCount, xregionSize, xcounter, xmemory, xstmtOp, xstmtA, xstmtB, xstmtOwner, xoutRegion, xoutLoaded, xoutGroup, xoutAlign, xoutVma, xoutLma, xoutDot, xgroupStart, xgroupEnd, xgroupResident, xinKind, xinId, xinAlign, xinSize, xinFirstByte, xinStmt, xinLive, xinVma, xfedBytes, xrelocOwner, xrelocOffset, xrelocType, xrelocTarget, xrelocAddend⟩ := u
  refine lq_script hu (fun u hu => ?_)
  obtain ⟨xphase, xstmtCount, xopenOut, xopenGroup, xoutCount, xgroupCount, xinCount, xbyteCount, xrelocCount, xregionSize, xcounter, xmemory, xstmtOp, xstmtA, xstmtB, xstmtOwner, xoutRegion, xoutLoaded, xoutGroup, xoutAlign, xoutVma, xoutLma, xoutDot, xgroupStart, xgroupEnd, xgroupResident, xinKind, xinId, xinAlign, xinSize, xinFirstByte, xinStmt, xinLive, xinVma, xfedBytes, xrelocOwner, xrelocOffset, xrelocType, xrelocTarget, xrelocAddend⟩ := u
  refine nm_r (nI_1 (p + 1 + 1)) (lq_cell hL (by omega) (fun v => lq_pos 8 rfl (by omega) (by omega) (fun j hj => lq_script hu (fun u hu => ?_))))
  obtain ⟨xphase, xstmtCount, xopenOut, xopenGroup, xoutCount, xgroupCount, xinCount, xbyteCount, xrelocCount, xregionSize, xcounter, xmemory, xstmtOp, xstmtA, xstmtB, xstmtOwner, xoutRegion, xoutLoaded, xoutGroup, xoutAlign, xoutVma, xoutLma, xoutDot, xgroupStart, xgroupEnd, xgroupResident, xinKind, xinId, xinAlign, xinSize, xinFirstByte, xinStmt, xinLive, xinVma, xfedBytes, xrelocOwner, xrelocOffset, xrelocType, xrelocTarget, xrelocAddend⟩ := u
  refine lq_script hu (fun u hu => ?_)
  obtain ⟨xphase, xstmtCount, xopenOut, xopenGroup, xoutCount, xgroupCount, xinCount, xbyteCount, xrelocCount, xregionSize, xcounter, xmemory, xstmtOp, xstmtA, xstmtB, xstmtOwner, xoutRegion, xoutLoaded, xoutGroup, xoutAlign, xoutVma, xoutLma, xoutDot, xgroupStart, xgroupEnd, xgroupResident, xinKind, xinId, xinAlign, xinSize, xinFirstByte, xinStmt, xinLive, xinVma, xfedBytes, xrelocOwner, xrelocOffset, xrelocType, xrelocTarget, xrelocAddend⟩ := u
  refine lq_script hu (fun u hu => ?_)
  obtain ⟨xphase, xstmtCount, xopenOut, xopenGroup, xoutCount, xgroupCount, xinCount, xbyteCount, xrelocCount, xregionSize, xcounter, xmemory, xstmtOp, xstmtA, xstmtB, xstmtOwner, xoutRegion, xoutLoaded, xoutGroup, xoutAlign, xoutVma, xoutLma, xoutDot, xgroupStart, xgroupEnd, xgroupResident, xinKind, xinId, xinAlign, xinSize, xinFirstByte, xinStmt, xinLive, xinVma, xfedBytes, xrelocOwner, xrelocOffset, xrelocType, xrelocTarget, xrelocAddend⟩ := u
  by_cases c : x4 &&& 32 = 0
  · exact br_t c (lq_571 hL (by omega) hu)
  · exact br_f c (lq_571 hL (by omega) hu)
theorem lq_389 {L : Nat} {xs : Nat → Int32} {J : Int32 → Int32 → Int32 → Int32 → Int32 → Int32 → Int32 → Int32 → Int32 → Int32 → Int32 → (Nat → Int32) → (Nat → Int32) → (Nat → Int32) → (Nat → Int32) → (Nat → Int32) → (Nat → Int32) → (Nat → Int32) → (Nat → Int32) → (Nat → Int32) → (Nat → Int32) → (Nat → Int32) → (Nat → Int32) → (Nat → Int32) → (Nat → Int32) → (Nat → Int32) → (Nat → Int32) → (Nat → Int32) → (Nat → Int32) → (Nat → Int32) → (Nat → Int32) → (Nat → Int32) → (Nat → Int32) → (Nat → Int32) → (Nat → Int32) → (Nat → Int32) → (Nat → Int32) → (Nat → Int32) → (Nat → Int32) → (Nat → Int32) → (Nat → Int32) → (Nat → Int32) → Prop} {kc ks R0 R1 p : Nat} {x4 x5 y z0 z1 z2 : Int32} {xphase xstmtCount xopenOut xopenGroup xoutCount xgroupCount xinCount xbyteCount xrelocCount : Int32} {xregionSize xcounter xmemory xstmtOp xstmtA xstmtB xstmtOwner xoutRegion xoutLoaded xoutGroup xoutAlign xoutVma xoutLma xoutDot xgroupStart xgroupEnd xgroupResident xinKind xinId xinAlign xinSize xinFirstByte xinStmt xinLive xinVma xfedBytes xrelocOwner xrelocOffset xrelocType xrelocTarget xrelocAddend : Nat → Int32} (hL : L ≤ 260) (hp : p ≤ 900) (ey : x5 + 1 = y) (K : ∀ (xphase xstmtCount xopenOut xopenGroup xoutCount xgroupCount xinCount xbyteCount xrelocCount : Int32) (xregionSize xcounter xmemory xstmtOp xstmtA xstmtB xstmtOwner xoutRegion xoutLoaded xoutGroup xoutAlign xoutVma xoutLma xoutDot xgroupStart xgroupEnd xgroupResident xinKind xinId xinAlign xinSize xinFirstByte xinStmt xinLive xinVma xfedBytes xrelocOwner xrelocOffset xrelocType xrelocTarget xrelocAddend : Nat → Int32), lq_Fx R0 R1 (xphase, xstmtCount, xopenOut, xopenGroup, xoutCount, xgroupCount, xinCount, xbyteCount, xrelocCount, xregionSize, xcounter, xmemory, xstmtOp, xstmtA, xstmtB, xstmtOwner, xoutRegion, xoutLoaded, xoutGroup, xoutAlign, xoutVma, xoutLma, xoutDot, xgroupStart, xgroupEnd, xgroupResident, xinKind, xinId, xinAlign, xinSize, xinFirstByte, xinStmt, xinLive, xinVma, xfedBytes, xrelocOwner, xrelocOffset, xrelocType, xrelocTarget, xrelocAddend) → J (nI (p + 1)) y xphase xstmtCount xopenOut xopenGroup xoutCount xgroupCount xinCount xbyteCount xrelocCount xregionSize xcounter xmemory xstmtOp xstmtA xstmtB xstmtOwner xoutRegion xoutLoaded xoutGroup xoutAlign xoutVma xoutLma xoutDot xgroupStart xgroupEnd xgroupResident xinKind xinId xinAlign xinSize xinFirstByte xinStmt xinLive xinVma xfedBytes xrelocOwner xrelocOffset xrelocType xrelocTarget xrelocAddend) (I : lq_Fx R0 R1 (xphase, xstmtCount, xopenOut, xopenGroup, xoutCount, xgroupCount, xinCount, xbyteCount, xrelocCount, xregionSize, xcounter, xmemory, xstmtOp, xstmtA, xstmtB, xstmtOwner, xoutRegion, xoutLoaded, xoutGroup, xoutAlign, xoutVma, xoutLma, xoutDot, xgroupStart, xgroupEnd, xgroupResident, xinKind, xinId, xinAlign, xinSize, xinFirstByte, xinStmt, xinLive, xinVma, xfedBytes, xrelocOwner, xrelocOffset, xrelocType, xrelocTarget, xrelocAddend)) : wL_law_389 (fun r : Int32 => r = 1) L xs J (nI p) x4 x5 z0 z1 z2 kc ks xphase xstmtCount xopenOut xopenGroup xoutCount xgroupCount xinCount xbyteCount xrelocCount xregionSize xcounter xmemory xstmtOp xstmtA xstmtB xstmtOwner xoutRegion xoutLoaded xoutGroup xoutAlign xoutVma xoutLma xoutDot xgroupStart xgroupEnd xgroupResident xinKind xinId xinAlign xinSize xinFirstByte xinStmt xinLive xinVma xfedBytes xrelocOwner xrelocOffset xrelocType xrelocTarget xrelocAddend := by
  unfold wL_law_389
  refine lq_script I (fun u hu => ?_)
  obtain ⟨xphase, xstmtCount, xopenOut, xopenGroup, xoutCount, xgroupCount, xinCount, xbyteCount, xrelocCount, xregionSize, xcounter, xmemory, xstmtOp, xstmtA, xstmtB, xstmtOwner, xoutRegion, xoutLoaded, xoutGroup, xoutAlign, xoutVma, xoutLma, xoutDot, xgroupStart, xgroupEnd, xgroupResident, xinKind, xinId, xinAlign, xinSize, xinFirstByte, xinStmt, xinLive, xinVma, xfedBytes, xrelocOwner, xrelocOffset, xrelocType, xrelocTarget, xrelocAddend⟩ := u
  refine nm_r (nI_1 p) (lq_cell hL (by omega) (fun v => lq_pos 16 rfl (by omega) (by omega) (fun j hj => lq_script hu (fun u hu => ?_))))
  obtain ⟨xphase, xstmtCount, xopenOut, xopenGroup, xoutCount, xgroupCount, xinCount, xbyteCount, xrelocCount, xregionSize, xcounter, xmemory, xstmtOp, xstmtA, xstmtB, xstmtOwner, xoutRegion, xoutLoaded, xoutGroup, xoutAlign, xoutVma, xoutLma, xoutDot, xgroupStart, xgroupEnd, xgroupResident, xinKind, xinId, xinAlign, xinSize, xinFirstByte, xinStmt, xinLive, xinVma, xfedBytes, xrelocOwner, xrelocOffset, xrelocType, xrelocTarget, xrelocAddend⟩ := u
  refine lq_script hu (fun u hu => ?_)
  obtain ⟨xphase, xstmtCount, xopenOut, xopenGroup, xoutCount, xgroupCount, xinCount, xbyteCount, xrelocCount, xregionSize, xcounter, xmemory, xstmtOp, xstmtA, xstmtB, xstmtOwner, xoutRegion, xoutLoaded, xoutGroup, xoutAlign, xoutVma, xoutLma, xoutDot, xgroupStart, xgroupEnd, xgroupResident, xinKind, xinId, xinAlign, xinSize, xinFirstByte, xinStmt, xinLive, xinVma, xfedBytes, xrelocOwner, xrelocOffset, xrelocType, xrelocTarget, xrelocAddend⟩ := u
  exact nm_r ey (K xphase xstmtCount xopenOut xopenGroup xoutCount xgroupCount xinCount xbyteCount xrelocCount xregionSize xcounter xmemory xstmtOp xstmtA xstmtB xstmtOwner xoutRegion xoutLoaded xoutGroup xoutAlign xoutVma xoutLma xoutDot xgroupStart xgroupEnd xgroupResident xinKind xinId xinAlign xinSize xinFirstByte xinStmt xinLive xinVma xfedBytes xrelocOwner xrelocOffset xrelocType xrelocTarget xrelocAddend hu)
theorem lq_349 {L : Nat} {xs : Nat → Int32} {J : Int32 → Int32 → Int32 → Int32 → Int32 → Int32 → Int32 → Int32 → Int32 → Int32 → Int32 → (Nat → Int32) → (Nat → Int32) → (Nat → Int32) → (Nat → Int32) → (Nat → Int32) → (Nat → Int32) → (Nat → Int32) → (Nat → Int32) → (Nat → Int32) → (Nat → Int32) → (Nat → Int32) → (Nat → Int32) → (Nat → Int32) → (Nat → Int32) → (Nat → Int32) → (Nat → Int32) → (Nat → Int32) → (Nat → Int32) → (Nat → Int32) → (Nat → Int32) → (Nat → Int32) → (Nat → Int32) → (Nat → Int32) → (Nat → Int32) → (Nat → Int32) → (Nat → Int32) → (Nat → Int32) → (Nat → Int32) → (Nat → Int32) → (Nat → Int32) → (Nat → Int32) → Prop} {kc ks R0 R1 p : Nat} {x4 x5 y z0 : Int32} {xphase xstmtCount xopenOut xopenGroup xoutCount xgroupCount xinCount xbyteCount xrelocCount : Int32} {xregionSize xcounter xmemory xstmtOp xstmtA xstmtB xstmtOwner xoutRegion xoutLoaded xoutGroup xoutAlign xoutVma xoutLma xoutDot xgroupStart xgroupEnd xgroupResident xinKind xinId xinAlign xinSize xinFirstByte xinStmt xinLive xinVma xfedBytes xrelocOwner xrelocOffset xrelocType xrelocTarget xrelocAddend : Nat → Int32} (hL : L ≤ 260) (hp : p ≤ 900) (ey : x5 + 1 = y) (K : ∀ (xphase xstmtCount xopenOut xopenGroup xoutCount xgroupCount xinCount xbyteCount xrelocCount : Int32) (xregionSize xcounter xmemory xstmtOp xstmtA xstmtB xstmtOwner xoutRegion xoutLoaded xoutGroup xoutAlign xoutVma xoutLma xoutDot xgroupStart xgroupEnd xgroupResident xinKind xinId xinAlign xinSize xinFirstByte xinStmt xinLive xinVma xfedBytes xrelocOwner xrelocOffset xrelocType xrelocTarget xrelocAddend : Nat → Int32), lq_Fx R0 R1 (xphase, xstmtCount, xopenOut, xopenGroup, xoutCount, xgroupCount, xinCount, xbyteCount, xrelocCount, xregionSize, xcounter, xmemory, xstmtOp, xstmtA, xstmtB, xstmtOwner, xoutRegion, xoutLoaded, xoutGroup, xoutAlign, xoutVma, xoutLma, xoutDot, xgroupStart, xgroupEnd, xgroupResident, xinKind, xinId, xinAlign, xinSize, xinFirstByte, xinStmt, xinLive, xinVma, xfedBytes, xrelocOwner, xrelocOffset, xrelocType, xrelocTarget, xrelocAddend) → J (nI (p + 1)) y xphase xstmtCount xopenOut xopenGroup xoutCount xgroupCount xinCount xbyteCount xrelocCount xregionSize xcounter xmemory xstmtOp xstmtA xstmtB xstmtOwner xoutRegion xoutLoaded xoutGroup xoutAlign xoutVma xoutLma xoutDot xgroupStart xgroupEnd xgroupResident xinKind xinId xinAlign xinSize xinFirstByte xinStmt xinLive xinVma xfedBytes xrelocOwner xrelocOffset xrelocType xrelocTarget xrelocAddend) (I : lq_Fx R0 R1 (xphase, xstmtCount, xopenOut, xopenGroup, xoutCount, xgroupCount, xinCount, xbyteCount, xrelocCount, xregionSize, xcounter, xmemory, xstmtOp, xstmtA, xstmtB, xstmtOwner, xoutRegion, xoutLoaded, xoutGroup, xoutAlign, xoutVma, xoutLma, xoutDot, xgroupStart, xgroupEnd, xgroupResident, xinKind, xinId, xinAlign, xinSize, xinFirstByte, xinStmt, xinLive, xinVma, xfedBytes, xrelocOwner, xrelocOffset, xrelocType, xrelocTarget, xrelocAddend)) : wL_law_349 (fun r : Int32 => r = 1) L xs J (nI p) x4 x5 z0 kc ks xphase xstmtCount xopenOut xopenGroup xoutCount xgroupCount xinCount xbyteCount xrelocCount xregionSize xcounter xmemory xstmtOp xstmtA xstmtB xstmtOwner xoutRegion xoutLoaded xoutGroup xoutAlign xoutVma xoutLma xoutDot xgroupStart xgroupEnd xgroupResident xinKind xinId xinAlign xinSize xinFirstByte xinStmt xinLive xinVma xfedBytes xrelocOwner xrelocOffset xrelocType xrelocTarget xrelocAddend := by
  unfold wL_law_349
  refine lq_script I (fun u hu => ?_)
  obtain ⟨xphase, xstmtCount, xopenOut, xopenGroup, xoutCount, xgroupCount, xinCount, xbyteCount, xrelocCount, xregionSize, xcounter, xmemory, xstmtOp, xstmtA, xstmtB, xstmtOwner, xoutRegion, xoutLoaded, xoutGroup, xoutAlign, xoutVma, xoutLma, xoutDot, xgroupStart, xgroupEnd, xgroupResident, xinKind, xinId, xinAlign, xinSize, xinFirstByte, xinStmt, xinLive, xinVma, xfedBytes, xrelocOwner, xrelocOffset, xrelocType, xrelocTarget, xrelocAddend⟩ := u
  have Q : ∀ z1 : Int32, wL_law_376 (fun r : Int32 => r = 1) L xs J (nI p) x4 x5 z0 z1 kc ks xphase xstmtCount xopenOut xopenGroup xoutCount xgroupCount xinCount xbyteCount xrelocCount xregionSize xcounter xmemory xstmtOp xstmtA xstmtB xstmtOwner xoutRegion xoutLoaded xoutGroup xoutAlign xoutVma xoutLma xoutDot xgroupStart xgroupEnd xgroupResident xinKind xinId xinAlign xinSize xinFirstByte xinStmt xinLive xinVma xfedBytes xrelocOwner xrelocOffset xrelocType xrelocTarget xrelocAddend := by
    intro z1
    by_cases c : z0 = 1
    · exact br_t c (lq_389 hL hp ey K hu)
    · exact br_f c (lq_389 hL hp ey K hu)
  by_cases c : x4 &&& ((4 : Int32) <<< (x5 &&& 31)) = 0
  · exact br_t c (Q 3)
  · exact br_f c (Q 4)
theorem lq_326 {L : Nat} {xs : Nat → Int32} {kc ks R0 R1 : Nat} {x4 : Int32} (hL : L ≤ 260) : ∀ d m, m + d = 2 → ∀ p, p ≤ 200 + m → ∀ (xphase xstmtCount xopenOut xopenGroup xoutCount xgroupCount xinCount xbyteCount xrelocCount : Int32) (xregionSize xcounter xmemory xstmtOp xstmtA xstmtB xstmtOwner xoutRegion xoutLoaded xoutGroup xoutAlign xoutVma xoutLma xoutDot xgroupStart xgroupEnd xgroupResident xinKind xinId xinAlign xinSize xinFirstByte xinStmt xinLive xinVma xfedBytes xrelocOwner xrelocOffset xrelocType xrelocTarget xrelocAddend : Nat → Int32), lq_Fx R0 R1 (xphase, xstmtCount, xopenOut, xopenGroup, xoutCount, xgroupCount, xinCount, xbyteCount, xrelocCount, xregionSize, xcounter, xmemory, xstmtOp, xstmtA, xstmtB, xstmtOwner, xoutRegion, xoutLoaded, xoutGroup, xoutAlign, xoutVma, xoutLma, xoutDot, xgroupStart, xgroupEnd, xgroupResident, xinKind, xinId, xinAlign, xinSize, xinFirstByte, xinStmt, xinLive, xinVma, xfedBytes, xrelocOwner, xrelocOffset, xrelocType, xrelocTarget, xrelocAddend) → wL_law_326 (fun r : Int32 => r = 1) L xs x4 kc ks (d + 1) (nI p) (nI m) xphase xstmtCount xopenOut xopenGroup xoutCount xgroupCount xinCount xbyteCount xrelocCount xregionSize xcounter xmemory xstmtOp xstmtA xstmtB xstmtOwner xoutRegion xoutLoaded xoutGroup xoutAlign xoutVma xoutLma xoutDot xgroupStart xgroupEnd xgroupResident xinKind xinId xinAlign xinSize xinFirstByte xinStmt xinLive xinVma xfedBytes xrelocOwner xrelocOffset xrelocType xrelocTarget xrelocAddend := by
  intro d
  induction d with
  | zero =>
    intro m hm p hp xphase xstmtCount xopenOut xopenGroup xoutCount xgroupCount xinCount xbyteCount xrelocCount xregionSize xcounter xmemory xstmtOp xstmtA xstmtB xstmtOwner xoutRegion xoutLoaded xoutGroup xoutAlign xoutVma xoutLma xoutDot xgroupStart xgroupEnd xgroupResident xinKind xinId xinAlign xinSize xinFirstByte xinStmt xinLive xinVma xfedBytes xrelocOwner xrelocOffset xrelocType xrelocTarget xrelocAddend I
    refine br_t (nI_le (a := 2) (by omega) (by omega)) (lq_script I (fun u hu => ?_))
    obtain ⟨xphase, xstmtCount, xopenOut, xopenGroup, xoutCount, xgroupCount, xinCount, xbyteCount, xrelocCount, xregionSize, xcounter, xmemory, xstmtOp, xstmtA, xstmtB, xstmtOwner, xoutRegion, xoutLoaded, xoutGroup, xoutAlign, xoutVma, xoutLma, xoutDot, xgroupStart, xgroupEnd, xgroupResident, xinKind, xinId, xinAlign, xinSize, xinFirstByte, xinStmt, xinLive, xinVma, xfedBytes, xrelocOwner, xrelocOffset, xrelocType, xrelocTarget, xrelocAddend⟩ := u
    exact lq_437 hL (by omega) hu
  | succ d ih =>
    intro m hm p hp xphase xstmtCount xopenOut xopenGroup xoutCount xgroupCount xinCount xbyteCount xrelocCount xregionSize xcounter xmemory xstmtOp xstmtA xstmtB xstmtOwner xoutRegion xoutLoaded xoutGroup xoutAlign xoutVma xoutLma xoutDot xgroupStart xgroupEnd xgroupResident xinKind xinId xinAlign xinSize xinFirstByte xinStmt xinLive xinVma xfedBytes xrelocOwner xrelocOffset xrelocType xrelocTarget xrelocAddend I
    have Q : ∀ z0 : Int32, wL_law_349 (fun r : Int32 => r = 1) L xs (wL_law_326 (fun r : Int32 => r = 1) L xs x4 kc ks (d + 1)) (nI p) x4 (nI m) z0 kc ks xphase xstmtCount xopenOut xopenGroup xoutCount xgroupCount xinCount xbyteCount xrelocCount xregionSize xcounter xmemory xstmtOp xstmtA xstmtB xstmtOwner xoutRegion xoutLoaded xoutGroup xoutAlign xoutVma xoutLma xoutDot xgroupStart xgroupEnd xgroupResident xinKind xinId xinAlign xinSize xinFirstByte xinStmt xinLive xinVma xfedBytes xrelocOwner xrelocOffset xrelocType xrelocTarget xrelocAddend := fun z0 => lq_349 hL (by omega) (nI_1 m) (ih (m + 1) (by omega) (p + 1) (by omega)) I
    refine br_f (nI_ge (b := 2) (by omega) (by omega)) ?_
    by_cases c : nI m = 0
    · exact br_t c (Q 1)
    · by_cases c2 : x4 &&& 2 = 0
      · exact br_f c (br_t c2 (Q 1))
      · exact br_f c (br_f c2 (Q 0))
end
end
section

section
/-! the law: the input sections; the constructor -/
theorem lq_200 {L : Nat} {xs : Nat → Int32} {J : Int32 → Int32 → Int32 → Int32 → Int32 → Int32 → Int32 → Int32 → Int32 → Int32 → Int32 → (Nat → Int32) → (Nat → Int32) → (Nat → Int32) → (Nat → Int32) → (Nat → Int32) → (Nat → Int32) → (Nat → Int32) → (Nat → Int32) → (Nat → Int32) → (Nat → Int32) → (Nat → Int32) → (Nat → Int32) → (Nat → Int32) → (Nat → Int32) → (Nat → Int32) → (Nat → Int32) → (Nat → Int32) → (Nat → Int32) → (Nat → Int32) → (Nat → Int32) → (Nat → Int32) → (Nat → Int32) → (Nat → Int32) → (Nat → Int32) → (Nat → Int32) → (Nat → Int32) → (Nat → Int32) → (Nat → Int32) → (Nat → Int32) → (Nat → Int32) → (Nat → Int32) → Prop} {kc ks R0 R1 n cnt N B : Nat} {x4 y : Int32} (hL : L ≤ 260) (hn : 0 < n ∧ n < 100) (hc : 2 ≤ cnt ∧ cnt < 100) (hN : N < 100) (hB : B ≤ 1000) (ey : x4 + 1 = y) (K : ∀ p, p ≤ B → ∀ (xphase xstmtCount xopenOut xopenGroup xoutCount xgroupCount xinCount xbyteCount xrelocCount : Int32) (xregionSize xcounter xmemory xstmtOp xstmtA xstmtB xstmtOwner xoutRegion xoutLoaded xoutGroup xoutAlign xoutVma xoutLma xoutDot xgroupStart xgroupEnd xgroupResident xinKind xinId xinAlign xinSize xinFirstByte xinStmt xinLive xinVma xfedBytes xrelocOwner xrelocOffset xrelocType xrelocTarget xrelocAddend : Nat → Int32), lq_Fx R0 R1 (xphase, xstmtCount, xopenOut, xopenGroup, xoutCount, xgroupCount, xinCount, xbyteCount, xrelocCount, xregionSize, xcounter, xmemory, xstmtOp, xstmtA, xstmtB, xstmtOwner, xoutRegion, xoutLoaded, xoutGroup, xoutAlign, xoutVma, xoutLma, xoutDot, xgroupStart, xgroupEnd, xgroupResident, xinKind, xinId, xinAlign, xinSize, xinFirstByte, xinStmt, xinLive, xinVma, xfedBytes, xrelocOwner, xrelocOffset, xrelocType, xrelocTarget, xrelocAddend) → J (nI p) y xphase xstmtCount xopenOut xopenGroup xoutCount xgroupCount xinCount xbyteCount xrelocCount xregionSize xcounter xmemory xstmtOp xstmtA xstmtB xstmtOwner xoutRegion xoutLoaded xoutGroup xoutAlign xoutVma xoutLma xoutDot xgroupStart xgroupEnd xgroupResident xinKind xinId xinAlign xinSize xinFirstByte xinStmt xinLive xinVma xfedBytes xrelocOwner xrelocOffset xrelocType xrelocTarget xrelocAddend) : ∀ d r, r + d = N → ∀ p, p + 4 * d ≤ B → ∀ (xphase xstmtCount xopenOut xopenGroup xoutCount xgroupCount xinCount xbyteCount xrelocCount : Int32) (xregionSize xcounter xmemory xstmtOp xstmtA xstmtB xstmtOwner xoutRegion xoutLoaded xoutGroup xoutAlign xoutVma xoutLma xoutDot xgroupStart xgroupEnd xgroupResident xinKind xinId xinAlign xinSize xinFirstByte xinStmt xinLive xinVma xfedBytes xrelocOwner xrelocOffset xrelocType xrelocTarget xrelocAddend : Nat → Int32), lq_Fx R0 R1 (xphase, xstmtCount, xopenOut, xopenGroup, xoutCount, xgroupCount, xinCount, xbyteCount, xrelocCount, xregionSize, xcounter, xmemory, xstmtOp, xstmtA, xstmtB, xstmtOwner, xoutRegion, xoutLoaded, xoutGroup, xoutAlign, xoutVma, xoutLma, xoutDot, xgroupStart, xgroupEnd, xgroupResident, xinKind, xinId, xinAlign, xinSize, xinFirstByte, xinStmt, xinLive, xinVma, xfedBytes, xrelocOwner, xrelocOffset, xrelocType, xrelocTarget, xrelocAddend) → wL_law_200 (fun r : Int32 => r = 1) L xs J (nI n) x4 (nI cnt) (nI N) kc ks (d + 1) (nI p) (nI r) xphase xstmtCount xopenOut xopenGroup xoutCount xgroupCount xinCount xbyteCount xrelocCount xregionSize xcounter xmemory xstmtOp xstmtA xstmtB xstmtOwner xoutRegion xoutLoaded xoutGroup xoutAlign xoutVma xoutLma xoutDot xgroupStart xgroupEnd xgroupResident xinKind xinId xinAlign xinSize xinFirstByte xinStmt xinLive xinVma xfedBytes xrelocOwner xrelocOffset xrelocType xrelocTarget xrelocAddend := by
  intro d
  induction d with
  | zero =>
    intro r hr p hp xphase xstmtCount xopenOut xopenGroup xoutCount xgroupCount xinCount xbyteCount xrelocCount xregionSize xcounter xmemory xstmtOp xstmtA xstmtB xstmtOwner xoutRegion xoutLoaded xoutGroup xoutAlign xoutVma xoutLma xoutDot xgroupStart xgroupEnd xgroupResident xinKind xinId xinAlign xinSize xinFirstByte xinStmt xinLive xinVma xfedBytes xrelocOwner xrelocOffset xrelocType xrelocTarget xrelocAddend I
    exact br_t (nI_le (by omega) (by omega)) (nm_r ey (K p (by omega) xphase xstmtCount xopenOut xopenGroup xoutCount xgroupCount xinCount xbyteCount xrelocCount xregionSize xcounter xmemory xstmtOp xstmtA xstmtB xstmtOwner xoutRegion xoutLoaded xoutGroup xoutAlign xoutVma xoutLma xoutDot xgroupStart xgroupEnd xgroupResident xinKind xinId xinAlign xinSize xinFirstByte xinStmt xinLive xinVma xfedBytes xrelocOwner xrelocOffset xrelocType xrelocTarget xrelocAddend I))
  | succ d ih =>
    intro r hr p hp xphase xstmtCount xopenOut xopenGroup xoutCount xgroupCount xinCount xbyteCount xrelocCount xregionSize xcounter xmemory xstmtOp xstmtA xstmtB xstmtOwner xoutRegion xoutLoaded xoutGroup xoutAlign xoutVma xoutLma xoutDot xgroupStart xgroupEnd xgroupResident xinKind xinId xinAlign xinSize xinFirstByte xinStmt xinLive xinVma xfedBytes xrelocOwner xrelocOffset xrelocType xrelocTarget xrelocAddend I
    refine br_f (nI_ge (by omega) (by omega)) (nm_r (nI_1 p) (lq_cell hL (by omega) (fun v => lq_pos (cnt - 1) (pk_sub (b := 1) (by omega)) (by omega) (by omega) (fun j1 _ => nm_r (nI_1 (p + 1)) (lq_cell hL (by omega) (fun v => lq_pos 3 rfl (by omega) (by omega) (fun j2 _ => nm_e (nm_r (nI_1 (p + 1 + 1)) (lq_cell hL (by omega) (fun v => lq_pos n rfl (by omega) (by omega) (fun j3 _ => nm_r (nI_1 (p + 1 + 1 + 1)) (lq_cell hL (by omega) (fun v => lq_pos 32 rfl (by omega) (by omega) (fun j4 _ => nm_e (lq_reloc I (fun u hu => ?_))))))))))))))))
    obtain ⟨xphase, xstmtCount, xopenOut, xopenGroup, xoutCount, xgroupCount, xinCount, xbyteCount, xrelocCount, xregionSize, xcounter, xmemory, xstmtOp, xstmtA, xstmtB, xstmtOwner, xoutRegion, xoutLoaded, xoutGroup, xoutAlign, xoutVma, xoutLma, xoutDot, xgroupStart, xgroupEnd, xgroupResident, xinKind, xinId, xinAlign, xinSize, xinFirstByte, xinStmt, xinLive, xinVma, xfedBytes, xrelocOwner, xrelocOffset, xrelocType, xrelocTarget, xrelocAddend⟩ := u
    exact nm_r (nI_1 r) (ih (r + 1) (by omega) (p + 1 + 1 + 1 + 1) (by omega) xphase xstmtCount xopenOut xopenGroup xoutCount xgroupCount xinCount xbyteCount xrelocCount xregionSize xcounter xmemory xstmtOp xstmtA xstmtB xstmtOwner xoutRegion xoutLoaded xoutGroup xoutAlign xoutVma xoutLma xoutDot xgroupStart xgroupEnd xgroupResident xinKind xinId xinAlign xinSize xinFirstByte xinStmt xinLive xinVma xfedBytes xrelocOwner xrelocOffset xrelocType xrelocTarget xrelocAddend hu)
theorem lq_151 {L : Nat} {xs : Nat → Int32} {J : Int32 → Int32 → Int32 → Int32 → Int32 → Int32 → Int32 → Int32 → Int32 → Int32 → Int32 → (Nat → Int32) → (Nat → Int32) → (Nat → Int32) → (Nat → Int32) → (Nat → Int32) → (Nat → Int32) → (Nat → Int32) → (Nat → Int32) → (Nat → Int32) → (Nat → Int32) → (Nat → Int32) → (Nat → Int32) → (Nat → Int32) → (Nat → Int32) → (Nat → Int32) → (Nat → Int32) → (Nat → Int32) → (Nat → Int32) → (Nat → Int32) → (Nat → Int32) → (Nat → Int32) → (Nat → Int32) → (Nat → Int32) → (Nat → Int32) → (Nat → Int32) → (Nat → Int32) → (Nat → Int32) → (Nat → Int32) → (Nat → Int32) → (Nat → Int32) → (Nat → Int32) → Prop} {kc ks R0 R1 n cnt B : Nat} {x4 y : Int32} (hL : L ≤ 260) (hn : 0 < n ∧ n < 100) (hc : cnt < 100) (hB : B ≤ 1000) (ey : x4 + 1 = y) (K : ∀ p, p ≤ B → ∀ (xphase xstmtCount xopenOut xopenGroup xoutCount xgroupCount xinCount xbyteCount xrelocCount : Int32) (xregionSize xcounter xmemory xstmtOp xstmtA xstmtB xstmtOwner xoutRegion xoutLoaded xoutGroup xoutAlign xoutVma xoutLma xoutDot xgroupStart xgroupEnd xgroupResident xinKind xinId xinAlign xinSize xinFirstByte xinStmt xinLive xinVma xfedBytes xrelocOwner xrelocOffset xrelocType xrelocTarget xrelocAddend : Nat → Int32), lq_Fx R0 R1 (xphase, xstmtCount, xopenOut, xopenGroup, xoutCount, xgroupCount, xinCount, xbyteCount, xrelocCount, xregionSize, xcounter, xmemory, xstmtOp, xstmtA, xstmtB, xstmtOwner, xoutRegion, xoutLoaded, xoutGroup, xoutAlign, xoutVma, xoutLma, xoutDot, xgroupStart, xgroupEnd, xgroupResident, xinKind, xinId, xinAlign, xinSize, xinFirstByte, xinStmt, xinLive, xinVma, xfedBytes, xrelocOwner, xrelocOffset, xrelocType, xrelocTarget, xrelocAddend) → J (nI p) y xphase xstmtCount xopenOut xopenGroup xoutCount xgroupCount xinCount xbyteCount xrelocCount xregionSize xcounter xmemory xstmtOp xstmtA xstmtB xstmtOwner xoutRegion xoutLoaded xoutGroup xoutAlign xoutVma xoutLma xoutDot xgroupStart xgroupEnd xgroupResident xinKind xinId xinAlign xinSize xinFirstByte xinStmt xinLive xinVma xfedBytes xrelocOwner xrelocOffset xrelocType xrelocTarget xrelocAddend) : ∀ d b, b + d = cnt → ∀ p, p + d + 9 ≤ B → ∀ (xphase xstmtCount xopenOut xopenGroup xoutCount xgroupCount xinCount xbyteCount xrelocCount : Int32) (xregionSize xcounter xmemory xstmtOp xstmtA xstmtB xstmtOwner xoutRegion xoutLoaded xoutGroup xoutAlign xoutVma xoutLma xoutDot xgroupStart xgroupEnd xgroupResident xinKind xinId xinAlign xinSize xinFirstByte xinStmt xinLive xinVma xfedBytes xrelocOwner xrelocOffset xrelocType xrelocTarget xrelocAddend : Nat → Int32), lq_Fx R0 R1 (xphase, xstmtCount, xopenOut, xopenGroup, xoutCount, xgroupCount, xinCount, xbyteCount, xrelocCount, xregionSize, xcounter, xmemory, xstmtOp, xstmtA, xstmtB, xstmtOwner, xoutRegion, xoutLoaded, xoutGroup, xoutAlign, xoutVma, xoutLma, xoutDot, xgroupStart, xgroupEnd, xgroupResident, xinKind, xinId, xinAlign, xinSize, xinFirstByte, xinStmt, xinLive, xinVma, xfedBytes, xrelocOwner, xrelocOffset, xrelocType, xrelocTarget, xrelocAddend) → wL_law_151 (fun r : Int32 => r = 1) L xs J (nI n) x4 (nI cnt) kc ks (d + 1) (nI p) (nI b) xphase xstmtCount xopenOut xopenGroup xoutCount xgroupCount xinCount xbyteCount xrelocCount xregionSize xcounter xmemory xstmtOp xstmtA xstmtB xstmtOwner xoutRegion xoutLoaded xoutGroup xoutAlign xoutVma xoutLma xoutDot xgroupStart xgroupEnd xgroupResident xinKind xinId xinAlign xinSize xinFirstByte xinStmt xinLive xinVma xfedBytes xrelocOwner xrelocOffset xrelocType xrelocTarget xrelocAddend := by
  intro d
  induction d with
  | zero =>
    intro b hb p hp xphase xstmtCount xopenOut xopenGroup xoutCount xgroupCount xinCount xbyteCount xrelocCount xregionSize xcounter xmemory xstmtOp xstmtA xstmtB xstmtOwner xoutRegion xoutLoaded xoutGroup xoutAlign xoutVma xoutLma xoutDot xgroupStart xgroupEnd xgroupResident xinKind xinId xinAlign xinSize xinFirstByte xinStmt xinLive xinVma xfedBytes xrelocOwner xrelocOffset xrelocType xrelocTarget xrelocAddend I
    refine br_t (nI_le (by omega) (by omega)) ?_
    by_cases c : cnt < 2
    · exact br_t (nI_lt (b := 2) c (by omega)) (nm_r ey (K p (by omega) xphase xstmtCount xopenOut xopenGroup xoutCount xgroupCount xinCount xbyteCount xrelocCount xregionSize xcounter xmemory xstmtOp xstmtA xstmtB xstmtOwner xoutRegion xoutLoaded xoutGroup xoutAlign xoutVma xoutLma xoutDot xgroupStart xgroupEnd xgroupResident xinKind xinId xinAlign xinSize xinFirstByte xinStmt xinLive xinVma xfedBytes xrelocOwner xrelocOffset xrelocType xrelocTarget xrelocAddend I))
    · exact br_f (nI_nlt (b := 2) (by omega) (by omega)) (nm_r (nI_1 p) (lq_cell hL (by omega) (fun v => lq_pos 3 rfl (by omega) (by omega) (fun j hj => ⟨_, lq_200 hL hn (by omega) (by omega) hB ey K j 0 (by omega) (p + 1) (by omega) xphase xstmtCount xopenOut xopenGroup xoutCount xgroupCount xinCount xbyteCount xrelocCount xregionSize xcounter xmemory xstmtOp xstmtA xstmtB xstmtOwner xoutRegion xoutLoaded xoutGroup xoutAlign xoutVma xoutLma xoutDot xgroupStart xgroupEnd xgroupResident xinKind xinId xinAlign xinSize xinFirstByte xinStmt xinLive xinVma xfedBytes xrelocOwner xrelocOffset xrelocType xrelocTarget xrelocAddend I⟩))))
  | succ d ih =>
    intro b hb p hp xphase xstmtCount xopenOut xopenGroup xoutCount xgroupCount xinCount xbyteCount xrelocCount xregionSize xcounter xmemory xstmtOp xstmtA xstmtB xstmtOwner xoutRegion xoutLoaded xoutGroup xoutAlign xoutVma xoutLma xoutDot xgroupStart xgroupEnd xgroupResident xinKind xinId xinAlign xinSize xinFirstByte xinStmt xinLive xinVma xfedBytes xrelocOwner xrelocOffset xrelocType xrelocTarget xrelocAddend I
    refine br_f (nI_ge (by omega) (by omega)) (nm_r (nI_1 p) (lq_cell hL (by omega) (fun v => lq_byte I (fun u hu => ?_))))
    obtain ⟨xphase, xstmtCount, xopenOut, xopenGroup, xoutCount, xgroupCount, xinCount, xbyteCount, xrelocCount, xregionSize, xcounter, xmemory, xstmtOp, xstmtA, xstmtB, xstmtOwner, xoutRegion, xoutLoaded, xoutGroup, xoutAlign, xoutVma, xoutLma, xoutDot, xgroupStart, xgroupEnd, xgroupResident, xinKind, xinId, xinAlign, xinSize, xinFirstByte, xinStmt, xinLive, xinVma, xfedBytes, xrelocOwner, xrelocOffset, xrelocType, xrelocTarget, xrelocAddend⟩ := u
    exact nm_r (nI_1 b) (ih (b + 1) (by omega) (p + 1) (by omega) xphase xstmtCount xopenOut xopenGroup xoutCount xgroupCount xinCount xbyteCount xrelocCount xregionSize xcounter xmemory xstmtOp xstmtA xstmtB xstmtOwner xoutRegion xoutLoaded xoutGroup xoutAlign xoutVma xoutLma xoutDot xgroupStart xgroupEnd xgroupResident xinKind xinId xinAlign xinSize xinFirstByte xinStmt xinLive xinVma xfedBytes xrelocOwner xrelocOffset xrelocType xrelocTarget xrelocAddend hu)
theorem lq_60 {L : Nat} {xs : Nat → Int32} {kc ks R0 R1 n : Nat} (hL : L ≤ 260) (hn : 0 < n ∧ n ≤ 5) : ∀ d i, i + d = n → ∀ p, p ≤ 10 + 30 * i → ∀ (xphase xstmtCount xopenOut xopenGroup xoutCount xgroupCount xinCount xbyteCount xrelocCount : Int32) (xregionSize xcounter xmemory xstmtOp xstmtA xstmtB xstmtOwner xoutRegion xoutLoaded xoutGroup xoutAlign xoutVma xoutLma xoutDot xgroupStart xgroupEnd xgroupResident xinKind xinId xinAlign xinSize xinFirstByte xinStmt xinLive xinVma xfedBytes xrelocOwner xrelocOffset xrelocType xrelocTarget xrelocAddend : Nat → Int32), lq_Fx R0 R1 (xphase, xstmtCount, xopenOut, xopenGroup, xoutCount, xgroupCount, xinCount, xbyteCount, xrelocCount, xregionSize, xcounter, xmemory, xstmtOp, xstmtA, xstmtB, xstmtOwner, xoutRegion, xoutLoaded, xoutGroup, xoutAlign, xoutVma, xoutLma, xoutDot, xgroupStart, xgroupEnd, xgroupResident, xinKind, xinId, xinAlign, xinSize, xinFirstByte, xinStmt, xinLive, xinVma, xfedBytes, xrelocOwner, xrelocOffset, xrelocType, xrelocTarget, xrelocAddend) → wL_law_60 (fun r : Int32 => r = 1) L xs (nI n) kc ks (d + 1) (nI p) (nI i) xphase xstmtCount xopenOut xopenGroup xoutCount xgroupCount xinCount xbyteCount xrelocCount xregionSize xcounter xmemory xstmtOp xstmtA xstmtB xstmtOwner xoutRegion xoutLoaded xoutGroup xoutAlign xoutVma xoutLma xoutDot xgroupStart xgroupEnd xgroupResident xinKind xinId xinAlign xinSize xinFirstByte xinStmt xinLive xinVma xfedBytes xrelocOwner xrelocOffset xrelocType xrelocTarget xrelocAddend := by
  intro d
  induction d with
  | zero =>
    intro i hi p hp xphase xstmtCount xopenOut xopenGroup xoutCount xgroupCount xinCount xbyteCount xrelocCount xregionSize xcounter xmemory xstmtOp xstmtA xstmtB xstmtOwner xoutRegion xoutLoaded xoutGroup xoutAlign xoutVma xoutLma xoutDot xgroupStart xgroupEnd xgroupResident xinKind xinId xinAlign xinSize xinFirstByte xinStmt xinLive xinVma xfedBytes xrelocOwner xrelocOffset xrelocType xrelocTarget xrelocAddend I
    refine br_t (nI_le (by omega) (by omega)) (nm_r (nI_1 p) (lq_cell hL (by omega) (fun v => ?_)))
    by_cases c : v &&& 1 = 0
    · exact br_t c (lq_437 hL (by omega) I)
    · refine br_f c (lq_script I (fun u hu => ?_))
      obtain ⟨xphase, xstmtCount, xopenOut, xopenGroup, xoutCount, xgroupCount, xinCount, xbyteCount, xrelocCount, xregionSize, xcounter, xmemory, xstmtOp, xstmtA, xstmtB, xstmtOwner, xoutRegion, xoutLoaded, xoutGroup, xoutAlign, xoutVma, xoutLma, xoutDot, xgroupStart, xgroupEnd, xgroupResident, xinKind, xinId, xinAlign, xinSize, xinFirstByte, xinStmt, xinLive, xinVma, xfedBytes, xrelocOwner, xrelocOffset, xrelocType, xrelocTarget, xrelocAddend⟩ := u
      exact ⟨_, lq_326 hL 2 0 (by omega) (p + 1) (by omega) xphase xstmtCount xopenOut xopenGroup xoutCount xgroupCount xinCount xbyteCount xrelocCount xregionSize xcounter xmemory xstmtOp xstmtA xstmtB xstmtOwner xoutRegion xoutLoaded xoutGroup xoutAlign xoutVma xoutLma xoutDot xgroupStart xgroupEnd xgroupResident xinKind xinId xinAlign xinSize xinFirstByte xinStmt xinLive xinVma xfedBytes xrelocOwner xrelocOffset xrelocType xrelocTarget xrelocAddend hu⟩
  | succ d ih =>
    intro i hi p hp xphase xstmtCount xopenOut xopenGroup xoutCount xgroupCount xinCount xbyteCount xrelocCount xregionSize xcounter xmemory xstmtOp xstmtA xstmtB xstmtOwner xoutRegion xoutLoaded xoutGroup xoutAlign xoutVma xoutLma xoutDot xgroupStart xgroupEnd xgroupResident xinKind xinId xinAlign xinSize xinFirstByte xinStmt xinLive xinVma xfedBytes xrelocOwner xrelocOffset xrelocType xrelocTarget xrelocAddend I
    refine br_f (nI_ge (by omega) (by omega)) (nm_r (nI_1 p) (lq_cell hL (by omega) (fun v => lq_pos 3 rfl (by omega) (by omega) (fun j1 _ => nm_e (nm_r (nI_1 (p + 1)) (lq_cell hL (by omega) (fun v => lq_pos 4 rfl (by omega) (by omega) (fun j2 _ => nm_r (nI_1 (p + 1 + 1)) (lq_cell hL (by omega) (fun v => lq_pos 4 rfl (by omega) (by omega) (fun j3 _ => nm_e (nm_r (nI_1 (p + 1 + 1 + 1)) (lq_cell hL (by omega) (fun v => lq_pos 8 rfl (by omega) (by omega) (fun j4 h4 => lq_begin I (fun u hu => ?_))))))))))))))))
    obtain ⟨xphase, xstmtCount, xopenOut, xopenGroup, xoutCount, xgroupCount, xinCount, xbyteCount, xrelocCount, xregionSize, xcounter, xmemory, xstmtOp, xstmtA, xstmtB, xstmtOwner, xoutRegion, xoutLoaded, xoutGroup, xoutAlign, xoutVma, xoutLma, xoutDot, xgroupStart, xgroupEnd, xgroupResident, xinKind, xinId, xinAlign, xinSize, xinFirstByte, xinStmt, xinLive, xinVma, xfedBytes, xrelocOwner, xrelocOffset, xrelocType, xrelocTarget, xrelocAddend⟩ := u
    by_cases c : 1 + nI j1 = 3
    · exact br_t c (nm_r (nI_1 i) (ih (i + 1) (by omega) (p + 1 + 1 + 1 + 1) (by omega) xphase xstmtCount xopenOut xopenGroup xoutCount xgroupCount xinCount xbyteCount xrelocCount xregionSize xcounter xmemory xstmtOp xstmtA xstmtB xstmtOwner xoutRegion xoutLoaded xoutGroup xoutAlign xoutVma xoutLma xoutDot xgroupStart xgroupEnd xgroupResident xinKind xinId xinAlign xinSize xinFirstByte xinStmt xinLive xinVma xfedBytes xrelocOwner xrelocOffset xrelocType xrelocTarget xrelocAddend hu))
    · exact br_f c ⟨_, lq_151 (B := p + 25) hL (by omega) (by omega) (by omega) (nI_1 i) (fun p2 hp2 => ih (i + 1) (by omega) p2 (by omega)) j4 0 (by omega) (p + 1 + 1 + 1 + 1) (by omega) xphase xstmtCount xopenOut xopenGroup xoutCount xgroupCount xinCount xbyteCount xrelocCount xregionSize xcounter xmemory xstmtOp xstmtA xstmtB xstmtOwner xoutRegion xoutLoaded xoutGroup xoutAlign xoutVma xoutLma xoutDot xgroupStart xgroupEnd xgroupResident xinKind xinId xinAlign xinSize xinFirstByte xinStmt xinLive xinVma xfedBytes xrelocOwner xrelocOffset xrelocType xrelocTarget xrelocAddend hu⟩
theorem lq_init {P : St2 → Prop} {p0 p1 : Int32} (KK : ∀ R0 R1 u, lq_Fx R0 R1 u → P u) : wpX_init P 31 1128 (0, 0, 0, 0, 0, 0, 0, 0, 0) p0 p1 := by
  obtain ⟨R0, a1, a2, a3⟩ := lk_cl p0
  obtain ⟨R1, b1, b2, b3⟩ := lk_cl p1
  unfold wpX_init
  iterate 62 refine And.intro (by decide) ?_
  refine lx_cl a3 (nm_e (lx_cl b3 (nm_e (lx_fill (s := 0) (e := 384) (by omega) (by omega) (KK R0 R1 _ ⟨0, ?_⟩)))))
  refine ⟨0, 0, 0, 0, 0, -1, -1, _, _, _, _, _, _, _, _, _, _, _, _, _, _, _, _, _, _, _, _, _, _, _, _, _, _, _, _, _, _, _, 0, fun _ => 0, fun _ => 0, fun _ => 0, rfl, ?_, ?_, ?_, ?_, ?_⟩
  · exact ⟨by omega, by omega, by omega, rfl, rfl, rfl, rfl, rfl, fun i h => absurd h (Nat.not_lt_zero i)⟩
  · exact ⟨by omega, by omega, fun s h => absurd h (Nat.not_lt_zero s)⟩
  · exact ⟨by omega, fun r h => absurd h (Nat.not_lt_zero r)⟩
  · exact ⟨by rw [pk_un (by decide), pk_us], pk_us, a1, a2, b1, b2⟩
  · exact fun j hj => lk_wr_t (Nat.zero_le j) hj
end
end
section
section
/-! what is owed -/
theorem i_vc (xs : Nat → Int32) (L : Nat) (hL : L ≤ 260) : wpL_law (fun r => r = 1) L xs := by
  refine nm_r (nI_1 0) (lq_cell (p := 0) hL (by omega) (fun v => lq_pos 64 rfl (by omega) (by omega) (fun j1 _ => nm_r (nI_1 1) (lq_cell hL (by omega) (fun v => lq_pos 64 rfl (by omega) (by omega) (fun j2 _ => ⟨31, 1128, by omega, by omega, lq_init (fun R0 R1 u hu => ?_)⟩))))))
  obtain ⟨a, b, c, d, e, f, g, h, i, a1, a2, a3, a4, a5, a6, a7, a8, a9, a10, a11, a12, a13, a14, a15, a16, a17, a18, a19, a20, a21, a22, a23, a24, a25, a26, a27, a28, a29, a30, a31⟩ := u
  exact nm_r (nI_1 2) (lq_cell hL (by omega) (fun v => lq_pos 5 rfl (by omega) (by omega) (fun j hj => nm_r (nI_add 1 j) ⟨_, lq_60 hL (by omega) (1 + j) 0 (by omega) 3 (by omega) a b c d e f g h i a1 a2 a3 a4 a5 a6 a7 a8 a9 a10 a11 a12 a13 a14 a15 a16 a17 a18 a19 a20 a21 a22 a23 a24 a25 a26 a27 a28 a29 a30 a31 hu⟩)))
end
end
