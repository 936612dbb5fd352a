section
/-! A: alignment -/
def lk_A (m : Nat) : Prop := m = 1 ∨ m = 2 ∨ m = 4 ∨ m = 8 ∨ m = 16
def lk_al (x m : Nat) : Nat := (x + m - 1) / m * m
theorem lk_A_b {m : Nat} (h : lk_A m) : 1 ≤ m ∧ m ≤ 16 := by
  rcases h with h | h | h | h | h <;> omega
theorem lk_al_b {x m : Nat} (h : lk_A m) : x ≤ lk_al x m ∧ lk_al x m ≤ x + 15 := by
  unfold lk_al
  rcases h with h | h | h | h | h <;> subst h <;> omega
theorem lk_al_y {x m : Nat} (h : lk_A m) : lk_al x m = if x % m = 0 then x else x + m - x % m := by
  unfold lk_al
  rcases h with h | h | h | h | h <;> subst h <;> split <;> omega
theorem lk_msk {k y : Nat} (hk : k < 32) (hy : y < 2 ^ 32) : y &&& (2 ^ 32 - 2 ^ k) = y / 2 ^ k * 2 ^ k := by
  have hp : 2 ^ k - 1 + 1 = 2 ^ k := Nat.sub_add_cancel (Nat.two_pow_pos k)
  have hl : 2 ^ k - 1 < 2 ^ 32 := by
    have := Nat.pow_le_pow_right (n := 2) (by decide) (Nat.le_of_lt hk)
    omega
  have e : 2 ^ 32 - 2 ^ k = 2 ^ 32 - ((2 ^ k - 1) + 1) := by rw [hp]
  apply Nat.eq_of_testBit_eq
  intro i
  rw [Nat.testBit_and, e, Nat.testBit_two_pow_sub_succ hl, Nat.testBit_two_pow_sub_one, Nat.testBit_mul_two_pow, Nat.testBit_div_two_pow]
  by_cases h1 : k ≤ i
  · have h3 : i - k + k = i := by omega
    have h4 : ¬ i < k := by omega
    rw [h3]
    by_cases h2 : i < 32
    · simp [h1, h2, h4]
    · rw [Nat.testBit_lt_two_pow (Nat.lt_of_lt_of_le hy (Nat.pow_le_pow_right (by decide) (by omega)))]
      simp
  · have h4 : i < k := by omega
    simp [h1, h4]
theorem lk_andm {y m k : Nat} (hy : y < 2 ^ 31) (hk : k < 32) (hm : m = 2 ^ k) (h : (-(nI m)).toBitVec.toNat = 2 ^ 32 - 2 ^ k) : nI y &&& (-(nI m)) = nI (y / m * m) := by
  apply Int32.toBitVec_inj.mp
  apply BitVec.eq_of_toNat_eq
  have h2 : y / m * m ≤ y := Nat.div_mul_le_self y m
  rw [Int32.toBitVec_and, BitVec.toNat_and, h, pk_tn (by omega), pk_tn (by omega), lk_msk hk (by omega), hm]
theorem lk_alX {x m : Nat} (h : lk_A m) (hx : x < 2 ^ 30) : (nI x + nI m - 1) &&& (-(nI m)) = nI (lk_al x m) := by
  have hb := lk_A_b h
  have e : nI x + nI m - 1 = nI (x + m - 1) := by
    rw [nI_add]
    obtain ⟨q, hq⟩ : ∃ q, x + m = q + 1 := ⟨x + m - 1, by omega⟩
    rw [hq, nI_pred, Nat.add_sub_cancel]
  rw [e]
  unfold lk_al
  rcases h with h | h | h | h | h <;> subst h
  · exact lk_andm (k := 0) (by omega) (by decide) (by decide) (by decide +kernel)
  · exact lk_andm (k := 1) (by omega) (by decide) (by decide) (by decide +kernel)
  · exact lk_andm (k := 2) (by omega) (by decide) (by decide) (by decide +kernel)
  · exact lk_andm (k := 3) (by omega) (by decide) (by decide) (by decide +kernel)
  · exact lk_andm (k := 4) (by omega) (by decide) (by decide) (by decide +kernel)
end
section
/-! B: scans -/
def lk_ff (p : Nat → Bool) : Nat → Nat → Int32
  | 0, _ => -1
  | d + 1, j => if p j = true then nI j else lk_ff p d (j + 1)
theorem lk_ff_t {p : Nat → Bool} {d j : Nat} (h : p j = true) : lk_ff p (d + 1) j = nI j := if_pos h
theorem lk_ff_f {p : Nat → Bool} {d j : Nat} (h : ¬ p j = true) : lk_ff p (d + 1) j = lk_ff p d (j + 1) := if_neg h
theorem lk_ff_or (p : Nat → Bool) : ∀ d j : Nat, lk_ff p d j = -1 ∨ ∃ i, j ≤ i ∧ i < j + d ∧ p i = true ∧ lk_ff p d j = nI i := by
  intro d
  induction d with
  | zero => intro j; exact Or.inl rfl
  | succ d ih =>
    intro j
    by_cases h : p j = true
    · exact Or.inr ⟨j, Nat.le_refl j, by omega, h, lk_ff_t h⟩
    · rw [lk_ff_f h]
      rcases ih (j + 1) with e | ⟨i, h1, h2, h3, h4⟩
      · exact Or.inl e
      · exact Or.inr ⟨i, by omega, by omega, h3, h4⟩
theorem lk_ff_no {p : Nat → Bool} : ∀ d j : Nat, j + d < 2 ^ 31 → lk_ff p d j = -1 → ∀ i, j ≤ i → i < j + d → ¬ p i = true := by
  intro d
  induction d with
  | zero => intro j _ _ i h1 h2; omega
  | succ d ih =>
    intro j hj e i h1 h2
    by_cases h : p j = true
    · rw [lk_ff_t h] at e
      have := nI_pos (n := j) (by omega)
      rw [e] at this
      exact absurd (by decide : (-1 : Int32) < 0) this
    · rw [lk_ff_f h] at e
      by_cases hi : i = j
      · rw [hi]; exact h
      · exact ih (j + 1) (by omega) e i (by omega) (by omega)
theorem lk_ff_least {p : Nat → Bool} : ∀ d j k : Nat, j + d < 2 ^ 31 → lk_ff p d j = nI k → k < 2 ^ 31 → ∀ i, j ≤ i → i < k → ¬ p i = true := by
  intro d
  induction d with
  | zero =>
    intro j k _ e hk i _ _
    have := nI_pos (n := k) hk
    rw [← e] at this
    exact absurd (by decide : (-1 : Int32) < 0) this
  | succ d ih =>
    intro j k hj e hk i h1 h2
    by_cases h : p j = true
    · rw [lk_ff_t h] at e
      have := (nI_eq (by omega) hk).mp e
      omega
    · rw [lk_ff_f h] at e
      by_cases hi : i = j
      · rw [hi]; exact h
      · exact ih (j + 1) k (by omega) e hk i (by omega) h2
theorem lk_ff_cg {p q : Nat → Bool} : ∀ d j : Nat, (∀ i, j ≤ i → i < j + d → p i = q i) → lk_ff p d j = lk_ff q d j := by
  intro d
  induction d with
  | zero => intro j _; rfl
  | succ d ih =>
    intro j h
    have e := h j (Nat.le_refl j) (by omega)
    by_cases hp : p j = true
    · rw [lk_ff_t hp, lk_ff_t (e ▸ hp)]
    · rw [lk_ff_f hp, lk_ff_f (e ▸ hp)]
      exact ih (j + 1) (fun i h1 h2 => h i (by omega) (by omega))
def lk_ex (p : Nat → Bool) : Nat → Nat → Bool
  | 0, _ => false
  | d + 1, j => if p j = true then true else lk_ex p d (j + 1)
theorem lk_ex_t {p : Nat → Bool} {d j : Nat} (h : p j = true) : lk_ex p (d + 1) j = true := if_pos h
theorem lk_ex_f {p : Nat → Bool} {d j : Nat} (h : ¬ p j = true) : lk_ex p (d + 1) j = lk_ex p d (j + 1) := if_neg h
theorem lk_ex_no {p : Nat → Bool} : ∀ d j : Nat, lk_ex p d j = false → ∀ i, j ≤ i → i < j + d → ¬ p i = true := by
  intro d
  induction d with
  | zero => intro j _ i h1 h2; omega
  | succ d ih =>
    intro j e i h1 h2
    by_cases h : p j = true
    · rw [lk_ex_t h] at e
      exact absurd e (by decide)
    · rw [lk_ex_f h] at e
      by_cases hi : i = j
      · rw [hi]; exact h
      · exact ih (j + 1) e i (by omega) (by omega)
theorem lk_ex_cg {p q : Nat → Bool} : ∀ d j : Nat, (∀ i, j ≤ i → i < j + d → p i = q i) → lk_ex p d j = lk_ex q d j := by
  intro d
  induction d with
  | zero => intro j _; rfl
  | succ d ih =>
    intro j h
    have e := h j (Nat.le_refl j) (by omega)
    by_cases hp : p j = true
    · rw [lk_ex_t hp, lk_ex_t (e ▸ hp)]
    · rw [lk_ex_f hp, lk_ex_f (e ▸ hp)]
      exact ih (j + 1) (fun i h1 h2 => h i (by omega) (by omega))
/-- the first hit's value, 0 if none -/
def lk_fv (p : Nat → Bool) (w : Nat → Int32) : Nat → Nat → Int32
  | 0, _ => 0
  | d + 1, j => if p j = true then w j else lk_fv p w d (j + 1)
theorem lk_fv_t {p : Nat → Bool} {w : Nat → Int32} {d j : Nat} (h : p j = true) : lk_fv p w (d + 1) j = w j := if_pos h
theorem lk_fv_f {p : Nat → Bool} {w : Nat → Int32} {d j : Nat} (h : ¬ p j = true) : lk_fv p w (d + 1) j = lk_fv p w d (j + 1) := if_neg h
theorem lk_fv_or (p : Nat → Bool) (w : Nat → Int32) : ∀ d j : Nat, (lk_fv p w d j = 0 ∧ ∀ i, j ≤ i → i < j + d → ¬ p i = true) ∨ ∃ i, j ≤ i ∧ i < j + d ∧ p i = true ∧ lk_fv p w d j = w i := by
  intro d
  induction d with
  | zero => intro j; exact Or.inl ⟨rfl, fun i h1 h2 => by omega⟩
  | succ d ih =>
    intro j
    by_cases h : p j = true
    · exact Or.inr ⟨j, Nat.le_refl j, by omega, h, lk_fv_t h⟩
    · rw [lk_fv_f h]
      rcases ih (j + 1) with ⟨e, hn⟩ | ⟨i, h1, h2, h3, h4⟩
      · refine Or.inl ⟨e, fun i h1 h2 => ?_⟩
        by_cases hi : i = j
        · rw [hi]; exact h
        · exact hn i (by omega) (by omega)
      · exact Or.inr ⟨i, by omega, by omega, h3, h4⟩
end
section
/-! C: passes to a fixpoint -/
def lk_cn (f : Nat → Int32) : Nat → Nat
  | 0 => 0
  | n + 1 => lk_cn f n + (if f n = 1 then 1 else 0)
theorem lk_cn_le (f : Nat → Int32) : ∀ n : Nat, lk_cn f n ≤ n := by
  intro n
  induction n with
  | zero => exact Nat.le_refl 0
  | succ n ih =>
    show lk_cn f n + (if f n = 1 then 1 else 0) ≤ n + 1
    split <;> omega
theorem lk_cn_u {f : Nat → Int32} {t : Nat} (h : ¬ f t = 1) : ∀ n : Nat, lk_cn (upd f t 1) n = lk_cn f n + (if t < n then 1 else 0) := by
  intro n
  induction n with
  | zero => rfl
  | succ n ih =>
    show lk_cn (upd f t 1) n + (if upd f t 1 n = 1 then 1 else 0) = lk_cn f n + (if f n = 1 then 1 else 0) + (if t < n + 1 then 1 else 0)
    rw [ih]
    by_cases hn : n = t
    · subst hn
      rw [if_neg (Nat.lt_irrefl n), if_pos (show upd f n 1 n = 1 from pk_us), if_neg h, if_pos (Nat.lt_succ_self n)]
    · rw [show upd f t 1 n = f n from pk_un hn]
      by_cases ht : t < n
      · rw [if_pos ht, if_pos (show t < n + 1 by omega)]; omega
      · rw [if_neg ht, if_neg (show ¬ t < n + 1 by omega), Nat.add_zero, Nat.add_zero]
def lk_ps (stp : Nat → (Nat → Int32) → Nat → Int32) : Nat → (Nat → Int32) → Nat → Int32
  | 0, f => f
  | r + 1, f => stp r (lk_ps stp r f)
def lk_it (stp : Nat → (Nat → Int32) → Nat → Int32) (nr : Nat) : Nat → (Nat → Int32) → Nat → Int32
  | 0, f => f
  | n + 1, f => lk_ps stp nr (lk_it stp nr n f)
def lk_H (stp : Nat → (Nat → Int32) → Nat → Int32) (nr ni : Nat) : Prop := ∀ r, r < nr → ∀ f, stp r f = f ∨ ∃ t, t < ni ∧ ¬ f t = 1 ∧ stp r f = upd f t 1
theorem lk_cn_st {stp : Nat → (Nat → Int32) → Nat → Int32} {nr ni : Nat} (H : lk_H stp nr ni) {r : Nat} (hr : r < nr) (f : Nat → Int32) : stp r f = f ∨ lk_cn f ni < lk_cn (stp r f) ni := by
  rcases H r hr f with e | ⟨t, ht, h1, e⟩
  · exact Or.inl e
  · refine Or.inr ?_
    rw [e, lk_cn_u h1, if_pos ht]
    omega
theorem lk_cn_sm {stp : Nat → (Nat → Int32) → Nat → Int32} {nr ni : Nat} (H : lk_H stp nr ni) {r : Nat} (hr : r < nr) (f : Nat → Int32) : lk_cn f ni ≤ lk_cn (stp r f) ni := by
  rcases lk_cn_st H hr f with e | h
  · rw [e]; exact Nat.le_refl _
  · exact Nat.le_of_lt h
theorem lk_ps_or {stp : Nat → (Nat → Int32) → Nat → Int32} {nr ni : Nat} (H : lk_H stp nr ni) (f : Nat → Int32) : ∀ r, r ≤ nr → lk_ps stp r f = f ∨ lk_cn f ni < lk_cn (lk_ps stp r f) ni := by
  intro r
  induction r with
  | zero => intro _; exact Or.inl rfl
  | succ r ih =>
    intro hr
    show stp r (lk_ps stp r f) = f ∨ lk_cn f ni < lk_cn (stp r (lk_ps stp r f)) ni
    rcases ih (by omega) with e | h
    · rw [e]; exact lk_cn_st H (by omega) f
    · exact Or.inr (Nat.lt_of_lt_of_le h (lk_cn_sm H (by omega) _))
theorem lk_ps_mo {stp : Nat → (Nat → Int32) → Nat → Int32} {nr ni : Nat} (H : lk_H stp nr ni) (f : Nat → Int32) : ∀ d r, r + d ≤ nr → lk_cn (lk_ps stp r f) ni ≤ lk_cn (lk_ps stp (r + d) f) ni := by
  intro d
  induction d with
  | zero => intro r _; exact Nat.le_refl _
  | succ d ih =>
    intro r hr
    exact Nat.le_trans (ih r (by omega)) (lk_cn_sm H (r := r + d) (by omega) _)
theorem lk_fx_st {stp : Nat → (Nat → Int32) → Nat → Int32} {nr ni : Nat} (H : lk_H stp nr ni) {f : Nat → Int32} (e : lk_ps stp nr f = f) {r : Nat} (hr : r < nr) : stp r f = f := by
  have h1 : ∀ q, q ≤ nr → lk_ps stp q f = f := by
    intro q hq
    rcases lk_ps_or H f q hq with e1 | h
    · exact e1
    · have h2 := lk_ps_mo H f (nr - q) q (by omega)
      rw [show q + (nr - q) = nr by omega, e] at h2
      omega
  have h3 : stp r (lk_ps stp r f) = f := h1 (r + 1) (by omega)
  rw [h1 r (by omega)] at h3
  exact h3
theorem lk_it_or {stp : Nat → (Nat → Int32) → Nat → Int32} {nr ni : Nat} (H : lk_H stp nr ni) (f : Nat → Int32) : ∀ n, lk_it stp nr (n + 1) f = lk_it stp nr n f ∨ n + 1 ≤ lk_cn (lk_it stp nr (n + 1) f) ni := by
  intro n
  induction n with
  | zero =>
    show lk_ps stp nr f = f ∨ 0 + 1 ≤ lk_cn (lk_ps stp nr f) ni
    rcases lk_ps_or H f nr (Nat.le_refl nr) with e | h
    · exact Or.inl e
    · exact Or.inr (by omega)
  | succ n ih =>
    rcases ih with e | h
    · exact Or.inl (congrArg (lk_ps stp nr) e)
    · rcases lk_ps_or H (lk_it stp nr (n + 1) f) nr (Nat.le_refl nr) with e | h2
      · exact Or.inl e
      · refine Or.inr ?_
        show n + 1 + 1 ≤ lk_cn (lk_ps stp nr (lk_it stp nr (n + 1) f)) ni
        omega
theorem lk_it_fx {stp : Nat → (Nat → Int32) → Nat → Int32} {nr ni : Nat} (H : lk_H stp nr ni) (f : Nat → Int32) : lk_ps stp nr (lk_it stp nr ni f) = lk_it stp nr ni f := by
  rcases lk_it_or H f ni with e | h
  · exact e
  · have := lk_cn_le (lk_it stp nr (ni + 1) f) ni
    omega
theorem lk_it_eq {stp : Nat → (Nat → Int32) → Nat → Int32} {nr ni : Nat} (H : lk_H stp nr ni) (f : Nat → Int32) : ∀ m, lk_it stp nr (ni + m) f = lk_it stp nr ni f := by
  intro m
  induction m with
  | zero => rfl
  | succ m ih =>
    show lk_ps stp nr (lk_it stp nr (ni + m) f) = _
    rw [ih]
    exact lk_it_fx H f
end
