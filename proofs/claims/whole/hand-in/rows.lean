section
section
theorem pk_us {f : Nat → Int32} {k : Nat} {x : Int32} : upd f k x k = x := if_pos rfl
theorem pk_un {f : Nat → Int32} {k j : Nat} {x : Int32} (h : j ≠ k) : upd f k x j = f j := if_neg h
theorem pk_sub {a b : Nat} (h : b ≤ a) : nI a - nI b = nI (a - b) := by
  obtain ⟨c, rfl⟩ : ∃ c, a = c + b := ⟨a - b, by omega⟩
  rw [← nI_add, Int32.add_sub_cancel, Nat.add_sub_cancel]
theorem pk_m1 (n : Nat) : nI (n + 1) + (-1) = nI n := by
  rw [← nI_1, Int32.add_assoc, show (1 : Int32) + (-1) = 0 from rfl, Int32.add_zero]
theorem pk_mul (a b : Nat) : nI a * nI b = nI (a * b) := (Int32.ofNat_mul a b).symm
theorem pk_div {a d : Nat} (ha : a < 2 ^ 31) (h0 : 0 < d) (hd : d < 2 ^ 31) : nI a / nI d = nI (a / d) := by
  apply Int32.toInt_inj.mp
  rw [lg_idiv_nonneg (by rw [nI_toInt ha]; omega) (by rw [nI_toInt hd]; omega), nI_toInt ha, nI_toInt hd, nI_toInt (Nat.lt_of_le_of_lt (Nat.div_le_self a d) ha)]
  first | rfl | exact (Int.natCast_ediv _ _).symm
theorem pk_rem {a d : Nat} (ha : a < 2 ^ 31) (h0 : 0 < d) (hd : d < 2 ^ 31) : nI a - nI a / nI d * nI d = nI (a % d) := by
  rw [pk_div ha h0 hd, pk_mul, pk_sub (Nat.div_mul_le_self a d)]
  exact congrArg nI (by have := Nat.div_add_mod' a d; omega)
theorem pk_sub_toInt {a b : Nat} (ha : a < 2 ^ 30) (hb : b < 2 ^ 30) : (nI a - nI b).toInt = (a : Int) - b := by
  rw [Int32.toInt_sub, nI_toInt (by omega), nI_toInt (by omega)]
  exact Int.bmod_eq_of_le (by omega) (by omega)
theorem pk_sneg {a b : Nat} (hb : b < 2 ^ 30) (h : a < b) : nI a - nI b < 0 := by
  rw [Int32.lt_iff_toInt_lt, pk_sub_toInt (by omega) hb, show (0 : Int32).toInt = 0 from by decide]
  omega
theorem pk_ix (x : Int32) {n : Nat} (hn : n < 2 ^ 31) : x < 0 ∨ nI n ≤ x ∨ ∃ j : Nat, j < n ∧ x = nI j := by
  by_cases h : x < 0
  · exact Or.inl h
  · obtain ⟨j, hj, rfl⟩ := nI_of h
    by_cases h2 : j < n
    · exact Or.inr (Or.inr ⟨j, h2, rfl⟩)
    · exact Or.inr (Or.inl (nI_le (by omega) hj))
theorem pk_le {x y : Int32} {A B : Prop} (a b : Nat) (f : a ≤ b → A) (g : b < a → B) (hx : x = nI a := by rfl) (hy : y = nI b := by rfl) (ha : a < 2 ^ 31 := by omega) (hb : b < 2 ^ 31 := by omega) : (x ≤ y → A) ∧ (¬ x ≤ y → B) := by
  subst hx hy
  rw [nI_leI ha hb]
  exact ⟨f, fun z => g (by omega)⟩
theorem pk_lt {x y : Int32} {A B : Prop} (a b : Nat) (f : a < b → A) (g : b ≤ a → B) (hx : x = nI a := by rfl) (hy : y = nI b := by rfl) (ha : a < 2 ^ 31 := by omega) (hb : b < 2 ^ 31 := by omega) : (x < y → A) ∧ (¬ x < y → B) := by
  subst hx hy
  rw [nI_ltI ha hb]
  exact ⟨f, fun z => g (by omega)⟩
theorem pk_eq {x y : Int32} {A B : Prop} (a b : Nat) (f : a = b → A) (g : a ≠ b → B) (hx : x = nI a := by rfl) (hy : y = nI b := by rfl) (ha : a < 2 ^ 31 := by omega) (hb : b < 2 ^ 31 := by omega) : (x = y → A) ∧ (¬ x = y → B) := by
  subst hx hy
  rw [nI_eq ha hb]
  exact ⟨f, g⟩
theorem pk_in {x : Int32} (n N : Nat) (h : n < N) (hx : x = nI n := by rfl) (hN : N < 2 ^ 31 := by omega) : vp_in x N := by
  subst hx
  exact vp_in_nI h hN
theorem pk_cl {x : Int32} (n : Nat) (hx : x = nI n := by rfl) (h : n < 2 ^ 31 := by omega) : x.toNatClampNeg = n := by
  subst hx
  exact nI_clamp h
theorem pk_tn {n : Nat} (h : n < 2 ^ 32) : (nI n).toBitVec.toNat = n := Nat.mod_eq_of_lt h
theorem pk_and (x : Int32) {m : Int32} (k : Nat) (hm : m.toBitVec.toNat = 2 ^ k - 1) : x &&& m = nI (x.toBitVec.toNat % 2 ^ k) := by
  apply Int32.toBitVec_inj.mp
  apply BitVec.eq_of_toNat_eq
  rw [Int32.toBitVec_and, BitVec.toNat_and, hm, Nat.and_two_pow_sub_one_eq_mod]
  show _ = (BitVec.ofNat 32 _).toNat
  rw [BitVec.toNat_ofNat]
  exact (Nat.mod_eq_of_lt (Nat.lt_of_le_of_lt (Nat.mod_le _ _) x.toBitVec.isLt)).symm
theorem pk_andN {n : Nat} (h : n < 2 ^ 32) {m : Int32} (k : Nat) (hm : m.toBitVec.toNat = 2 ^ k - 1) : nI n &&& m = nI (n % 2 ^ k) := by
  rw [pk_and _ k hm, pk_tn h]
theorem pk_andE (x : Int32) {m : Int32} (k : Nat) (hm : m.toBitVec.toNat = 2 ^ k - 1) : ∃ j : Nat, j < 2 ^ k ∧ x &&& m = nI j := ⟨_, Nat.mod_lt _ (Nat.two_pow_pos k), pk_and x k hm⟩
theorem pk_loop {σ : Type} (W : Nat → Nat → σ → Prop) (I : Nat → σ → Prop) (e i0 : Nat) (s : σ) (hi : i0 ≤ e) (h0 : I i0 s) (hx : ∀ n s, I e s → W (n + 1) e s)
    (hs : ∀ n i s, i < e → I i s → (∀ s', I (i + 1) s' → W n (i + 1) s') → W (n + 1) i s) : ∃ n, W n i0 s :=
  ⟨e + 1, loop_i W I e hx hs (e + 1) i0 s hi (by omega) h0⟩
end
end
section
section
/-! A: alignment -/
def lk_A (m : Nat) : Prop := m = 1 ∨ m = 2 ∨ m = 4 ∨ m = 8 ∨ m = 16
def lk_al (x m : Nat) : Nat := (x + m - 1) / m * m
theorem lk_A_b {m : Nat} (h : lk_A m) : 1 ≤ m ∧ m ≤ 16 := by
  rcases h with h | h | h | h | h <;> omega
theorem lk_al_b {x m : Nat} (h : lk_A m) : x ≤ lk_al x m ∧ lk_al x m ≤ x + 15 := by
  unfold lk_al
  rcases h with h | h | h | h | h <;> subst h <;> omega
theorem lk_al_y {x m : Nat} (h : lk_A m) : lk_al x m = if x % m = 0 then x else x + m - x % m := by
  unfold lk_al
  rcases h with h | h | h | h | h <;> subst h <;> split <;> omega
theorem lk_msk {k y : Nat} (hk : k < 32) (hy : y < 2 ^ 32) : y &&& (2 ^ 32 - 2 ^ k) = y / 2 ^ k * 2 ^ k := by
  have hp : 2 ^ k - 1 + 1 = 2 ^ k := Nat.sub_add_cancel (Nat.two_pow_pos k)
  have hl : 2 ^ k - 1 < 2 ^ 32 := by
    have := Nat.pow_le_pow_right (n := 2) (by decide) (Nat.le_of_lt hk)
    omega
  have e : 2 ^ 32 - 2 ^ k = 2 ^ 32 - ((2 ^ k - 1) + 1) := by rw [hp]
  apply Nat.eq_of_testBit_eq
  intro i
  rw [Nat.testBit_and, e, Nat.testBit_two_pow_sub_succ hl, Nat.testBit_two_pow_sub_one, Nat.testBit_mul_two_pow, Nat.testBit_div_two_pow]
  by_cases h1 : k ≤ i
  · have h3 : i - k + k = i := by omega
    have h4 : ¬ i < k := by omega
    rw [h3]
    by_cases h2 : i < 32
    · simp [h1, h2, h4]
    · rw [Nat.testBit_lt_two_pow (Nat.lt_of_lt_of_le hy (Nat.pow_le_pow_right (by decide) (by omega)))]
      simp
  · have h4 : i < k := by omega
    simp [h1, h4]
theorem lk_andm {y m k : Nat} (hy : y < 2 ^ 31) (hk : k < 32) (hm : m = 2 ^ k) (h : (-(nI m)).toBitVec.toNat = 2 ^ 32 - 2 ^ k) : nI y &&& (-(nI m)) = nI (y / m * m) := by
  apply Int32.toBitVec_inj.mp
  apply BitVec.eq_of_toNat_eq
  have h2 : y / m * m ≤ y := Nat.div_mul_le_self y m
  rw [Int32.toBitVec_and, BitVec.toNat_and, h, pk_tn (by omega), pk_tn (by omega), lk_msk hk (by omega), hm]
theorem lk_alX {x m : Nat} (h : lk_A m) (hx : x < 2 ^ 30) : (nI x + nI m - 1) &&& (-(nI m)) = nI (lk_al x m) := by
  have hb := lk_A_b h
  have e : nI x + nI m - 1 = nI (x + m - 1) := by
    rw [nI_add]
    obtain ⟨q, hq⟩ : ∃ q, x + m = q + 1 := ⟨x + m - 1, by omega⟩
    rw [hq, nI_pred, Nat.add_sub_cancel]
  rw [e]
  unfold lk_al
  rcases h with h | h | h | h | h <;> subst h
  · exact lk_andm (k := 0) (by omega) (by decide) (by decide) (by decide +kernel)
  · exact lk_andm (k := 1) (by omega) (by decide) (by decide) (by decide +kernel)
  · exact lk_andm (k := 2) (by omega) (by decide) (by decide) (by decide +kernel)
  · exact lk_andm (k := 3) (by omega) (by decide) (by decide) (by decide +kernel)
  · exact lk_andm (k := 4) (by omega) (by decide) (by decide) (by decide +kernel)
end
section
/-! B: scans -/
def lk_ff (p : Nat → Bool) : Nat → Nat → Int32
  | 0, _ => -1
  | d + 1, j => if p j = true then nI j else lk_ff p d (j + 1)
theorem lk_ff_t {p : Nat → Bool} {d j : Nat} (h : p j = true) : lk_ff p (d + 1) j = nI j := if_pos h
theorem lk_ff_f {p : Nat → Bool} {d j : Nat} (h : ¬ p j = true) : lk_ff p (d + 1) j = lk_ff p d (j + 1) := if_neg h
theorem lk_ff_or (p : Nat → Bool) : ∀ d j : Nat, lk_ff p d j = -1 ∨ ∃ i, j ≤ i ∧ i < j + d ∧ p i = true ∧ lk_ff p d j = nI i := by
  intro d
  induction d with
  | zero => intro j; exact Or.inl rfl
  | succ d ih =>
    intro j
    by_cases h : p j = true
    · exact Or.inr ⟨j, Nat.le_refl j, by omega, h, lk_ff_t h⟩
    · rw [lk_ff_f h]
      rcases ih (j + 1) with e | ⟨i, h1, h2, h3, h4⟩
      · exact Or.inl e
      · exact Or.inr ⟨i, by omega, by omega, h3, h4⟩
theorem lk_ff_no {p : Nat → Bool} : ∀ d j : Nat, j + d < 2 ^ 31 → lk_ff p d j = -1 → ∀ i, j ≤ i → i < j + d → ¬ p i = true := by
  intro d
  induction d with
  | zero => intro j _ _ i h1 h2; omega
  | succ d ih =>
    intro j hj e i h1 h2
    by_cases h : p j = true
    · rw [lk_ff_t h] at e
      have := nI_pos (n := j) (by omega)
      rw [e] at this
      exact absurd (by decide : (-1 : Int32) < 0) this
    · rw [lk_ff_f h] at e
      by_cases hi : i = j
      · rw [hi]; exact h
      · exact ih (j + 1) (by omega) e i (by omega) (by omega)
theorem lk_ff_least {p : Nat → Bool} : ∀ d j k : Nat, j + d < 2 ^ 31 → lk_ff p d j = nI k → k < 2 ^ 31 → ∀ i, j ≤ i → i < k → ¬ p i = true := by
  intro d
  induction d with
  | zero =>
    intro j k _ e hk i _ _
    have := nI_pos (n := k) hk
    rw [← e] at this
    exact absurd (by decide : (-1 : Int32) < 0) this
  | succ d ih =>
    intro j k hj e hk i h1 h2
    by_cases h : p j = true
    · rw [lk_ff_t h] at e
      have := (nI_eq (by omega) hk).mp e
      omega
    · rw [lk_ff_f h] at e
      by_cases hi : i = j
      · rw [hi]; exact h
      · exact ih (j + 1) k (by omega) e hk i (by omega) h2
theorem lk_ff_cg {p q : Nat → Bool} : ∀ d j : Nat, (∀ i, j ≤ i → i < j + d → p i = q i) → lk_ff p d j = lk_ff q d j := by
  intro d
  induction d with
  | zero => intro j _; rfl
  | succ d ih =>
    intro j h
    have e := h j (Nat.le_refl j) (by omega)
    by_cases hp : p j = true
    · rw [lk_ff_t hp, lk_ff_t (e ▸ hp)]
    · rw [lk_ff_f hp, lk_ff_f (e ▸ hp)]
      exact ih (j + 1) (fun i h1 h2 => h i (by omega) (by omega))
def lk_ex (p : Nat → Bool) : Nat → Nat → Bool
  | 0, _ => false
  | d + 1, j => if p j = true then true else lk_ex p d (j + 1)
theorem lk_ex_t {p : Nat → Bool} {d j : Nat} (h : p j = true) : lk_ex p (d + 1) j = true := if_pos h
theorem lk_ex_f {p : Nat → Bool} {d j : Nat} (h : ¬ p j = true) : lk_ex p (d + 1) j = lk_ex p d (j + 1) := if_neg h
theorem lk_ex_no {p : Nat → Bool} : ∀ d j : Nat, lk_ex p d j = false → ∀ i, j ≤ i → i < j + d → ¬ p i = true := by
  intro d
  induction d with
  | zero => intro j _ i h1 h2; omega
  | succ d ih =>
    intro j e i h1 h2
    by_cases h : p j = true
    · rw [lk_ex_t h] at e
      exact absurd e (by decide)
    · rw [lk_ex_f h] at e
      by_cases hi : i = j
      · rw [hi]; exact h
      · exact ih (j + 1) e i (by omega) (by omega)
theorem lk_ex_cg {p q : Nat → Bool} : ∀ d j : Nat, (∀ i, j ≤ i → i < j + d → p i = q i) → lk_ex p d j = lk_ex q d j := by
  intro d
  induction d with
  | zero => intro j _; rfl
  | succ d ih =>
    intro j h
    have e := h j (Nat.le_refl j) (by omega)
    by_cases hp : p j = true
    · rw [lk_ex_t hp, lk_ex_t (e ▸ hp)]
    · rw [lk_ex_f hp, lk_ex_f (e ▸ hp)]
      exact ih (j + 1) (fun i h1 h2 => h i (by omega) (by omega))
/-- the first hit's value, 0 if none -/
def lk_fv (p : Nat → Bool) (w : Nat → Int32) : Nat → Nat → Int32
  | 0, _ => 0
  | d + 1, j => if p j = true then w j else lk_fv p w d (j + 1)
theorem lk_fv_t {p : Nat → Bool} {w : Nat → Int32} {d j : Nat} (h : p j = true) : lk_fv p w (d + 1) j = w j := if_pos h
theorem lk_fv_f {p : Nat → Bool} {w : Nat → Int32} {d j : Nat} (h : ¬ p j = true) : lk_fv p w (d + 1) j = lk_fv p w d (j + 1) := if_neg h
theorem lk_fv_or (p : Nat → Bool) (w : Nat → Int32) : ∀ d j : Nat, (lk_fv p w d j = 0 ∧ ∀ i, j ≤ i → i < j + d → ¬ p i = true) ∨ ∃ i, j ≤ i ∧ i < j + d ∧ p i = true ∧ lk_fv p w d j = w i := by
  intro d
  induction d with
  | zero => intro j; exact Or.inl ⟨rfl, fun i h1 h2 => by omega⟩
  | succ d ih =>
    intro j
    by_cases h : p j = true
    · exact Or.inr ⟨j, Nat.le_refl j, by omega, h, lk_fv_t h⟩
    · rw [lk_fv_f h]
      rcases ih (j + 1) with ⟨e, hn⟩ | ⟨i, h1, h2, h3, h4⟩
      · refine Or.inl ⟨e, fun i h1 h2 => ?_⟩
        by_cases hi : i = j
        · rw [hi]; exact h
        · exact hn i (by omega) (by omega)
      · exact Or.inr ⟨i, by omega, by omega, h3, h4⟩
end
section
/-! C: passes to a fixpoint -/
def lk_cn (f : Nat → Int32) : Nat → Nat
  | 0 => 0
  | n + 1 => lk_cn f n + (if f n = 1 then 1 else 0)
theorem lk_cn_le (f : Nat → Int32) : ∀ n : Nat, lk_cn f n ≤ n := by
  intro n
  induction n with
  | zero => exact Nat.le_refl 0
  | succ n ih =>
    show lk_cn f n + (if f n = 1 then 1 else 0) ≤ n + 1
    split <;> omega
theorem lk_cn_u {f : Nat → Int32} {t : Nat} (h : ¬ f t = 1) : ∀ n : Nat, lk_cn (upd f t 1) n = lk_cn f n + (if t < n then 1 else 0) := by
  intro n
  induction n with
  | zero => rfl
  | succ n ih =>
    show lk_cn (upd f t 1) n + (if upd f t 1 n = 1 then 1 else 0) = lk_cn f n + (if f n = 1 then 1 else 0) + (if t < n + 1 then 1 else 0)
    rw [ih]
    by_cases hn : n = t
    · subst hn
      rw [if_neg (Nat.lt_irrefl n), if_pos (show upd f n 1 n = 1 from pk_us), if_neg h, if_pos (Nat.lt_succ_self n)]
    · rw [show upd f t 1 n = f n from pk_un hn]
      by_cases ht : t < n
      · rw [if_pos ht, if_pos (show t < n + 1 by omega)]; omega
      · rw [if_neg ht, if_neg (show ¬ t < n + 1 by omega), Nat.add_zero, Nat.add_zero]
def lk_ps (stp : Nat → (Nat → Int32) → Nat → Int32) : Nat → (Nat → Int32) → Nat → Int32
  | 0, f => f
  | r + 1, f => stp r (lk_ps stp r f)
def lk_it (stp : Nat → (Nat → Int32) → Nat → Int32) (nr : Nat) : Nat → (Nat → Int32) → Nat → Int32
  | 0, f => f
  | n + 1, f => lk_ps stp nr (lk_it stp nr n f)
def lk_H (stp : Nat → (Nat → Int32) → Nat → Int32) (nr ni : Nat) : Prop := ∀ r, r < nr → ∀ f, stp r f = f ∨ ∃ t, t < ni ∧ ¬ f t = 1 ∧ stp r f = upd f t 1
theorem lk_cn_st {stp : Nat → (Nat → Int32) → Nat → Int32} {nr ni : Nat} (H : lk_H stp nr ni) {r : Nat} (hr : r < nr) (f : Nat → Int32) : stp r f = f ∨ lk_cn f ni < lk_cn (stp r f) ni := by
  rcases H r hr f with e | ⟨t, ht, h1, e⟩
  · exact Or.inl e
  · refine Or.inr ?_
    rw [e, lk_cn_u h1, if_pos ht]
    omega
theorem lk_cn_sm {stp : Nat → (Nat → Int32) → Nat → Int32} {nr ni : Nat} (H : lk_H stp nr ni) {r : Nat} (hr : r < nr) (f : Nat → Int32) : lk_cn f ni ≤ lk_cn (stp r f) ni := by
  rcases lk_cn_st H hr f with e | h
  · rw [e]; exact Nat.le_refl _
  · exact Nat.le_of_lt h
theorem lk_ps_or {stp : Nat → (Nat → Int32) → Nat → Int32} {nr ni : Nat} (H : lk_H stp nr ni) (f : Nat → Int32) : ∀ r, r ≤ nr → lk_ps stp r f = f ∨ lk_cn f ni < lk_cn (lk_ps stp r f) ni := by
  intro r
  induction r with
  | zero => intro _; exact Or.inl rfl
  | succ r ih =>
    intro hr
    show stp r (lk_ps stp r f) = f ∨ lk_cn f ni < lk_cn (stp r (lk_ps stp r f)) ni
    rcases ih (by omega) with e | h
    · rw [e]; exact lk_cn_st H (by omega) f
    · exact Or.inr (Nat.lt_of_lt_of_le h (lk_cn_sm H (by omega) _))
theorem lk_ps_mo {stp : Nat → (Nat → Int32) → Nat → Int32} {nr ni : Nat} (H : lk_H stp nr ni) (f : Nat → Int32) : ∀ d r, r + d ≤ nr → lk_cn (lk_ps stp r f) ni ≤ lk_cn (lk_ps stp (r + d) f) ni := by
  intro d
  induction d with
  | zero => intro r _; exact Nat.le_refl _
  | succ d ih =>
    intro r hr
    exact Nat.le_trans (ih r (by omega)) (lk_cn_sm H (r := r + d) (by omega) _)
theorem lk_fx_st {stp : Nat → (Nat → Int32) → Nat → Int32} {nr ni : Nat} (H : lk_H stp nr ni) {f : Nat → Int32} (e : lk_ps stp nr f = f) {r : Nat} (hr : r < nr) : stp r f = f := by
  have h1 : ∀ q, q ≤ nr → lk_ps stp q f = f := by
    intro q hq
    rcases lk_ps_or H f q hq with e1 | h
    · exact e1
    · have h2 := lk_ps_mo H f (nr - q) q (by omega)
      rw [show q + (nr - q) = nr by omega, e] at h2
      omega
  have h3 : stp r (lk_ps stp r f) = f := h1 (r + 1) (by omega)
  rw [h1 r (by omega)] at h3
  exact h3
theorem lk_it_or {stp : Nat → (Nat → Int32) → Nat → Int32} {nr ni : Nat} (H : lk_H stp nr ni) (f : Nat → Int32) : ∀ n, lk_it stp nr (n + 1) f = lk_it stp nr n f ∨ n + 1 ≤ lk_cn (lk_it stp nr (n + 1) f) ni := by
  intro n
  induction n with
  | zero =>
    show lk_ps stp nr f = f ∨ 0 + 1 ≤ lk_cn (lk_ps stp nr f) ni
    rcases lk_ps_or H f nr (Nat.le_refl nr) with e | h
    · exact Or.inl e
    · exact Or.inr (by omega)
  | succ n ih =>
    rcases ih with e | h
    · exact Or.inl (congrArg (lk_ps stp nr) e)
    · rcases lk_ps_or H (lk_it stp nr (n + 1) f) nr (Nat.le_refl nr) with e | h2
      · exact Or.inl e
      · refine Or.inr ?_
        show n + 1 + 1 ≤ lk_cn (lk_ps stp nr (lk_it stp nr (n + 1) f)) ni
        omega
theorem lk_it_fx {stp : Nat → (Nat → Int32) → Nat → Int32} {nr ni : Nat} (H : lk_H stp nr ni) (f : Nat → Int32) : lk_ps stp nr (lk_it stp nr ni f) = lk_it stp nr ni f := by
  rcases lk_it_or H f ni with e | h
  · exact e
  · have := lk_cn_le (lk_it stp nr (ni + 1) f) ni
    omega
theorem lk_it_eq {stp : Nat → (Nat → Int32) → Nat → Int32} {nr ni : Nat} (H : lk_H stp nr ni) (f : Nat → Int32) : ∀ m, lk_it stp nr (ni + m) f = lk_it stp nr ni f := by
  intro m
  induction m with
  | zero => rfl
  | succ m ih =>
    show lk_ps stp nr (lk_it stp nr (ni + m) f) = _
    rw [ih]
    exact lk_it_fx H f
end
end
section
section
/-! D: one live step; the script's structure; relocated bytes -/
theorem lk_uself {f : Nat → Int32} {t : Nat} {x : Int32} (h : f t = x) : upd f t x = f := by
  funext j
  by_cases hj : j = t
  · subst hj; rw [pk_us, h]
  · rw [pk_un hj]
theorem lk_uu {f : Nat → Int32} {t : Nat} {x y : Int32} : upd (upd f t x) t y = upd f t y := by
  funext j
  by_cases hj : j = t
  · subst hj; rw [pk_us, pk_us]
  · rw [pk_un hj, pk_un hj, pk_un hj]
def lk_on (tg st : Nat → Int32) (ni r : Nat) : Bool := decide (tg r < nI ni ∧ ¬ st (tg r).toNatClampNeg = -1)
def lk_sp (ow tg st : Nat → Int32) (ni r : Nat) (f : Nat → Int32) : Nat → Int32 := if f (ow r).toNatClampNeg = 1 ∧ lk_on tg st ni r = true then upd f (tg r).toNatClampNeg 1 else f
theorem lk_on_t {tg st : Nat → Int32} {ni r t : Nat} (hn : ni < 2 ^ 31) (ht : t < 2 ^ 31) (e : tg r = nI t) : lk_on tg st ni r = true ↔ t < ni ∧ ¬ st t = -1 := by
  unfold lk_on
  rw [decide_eq_true_iff, e, nI_clamp ht, nI_ltI ht hn]
theorem lk_sp_H {ow tg st : Nat → Int32} {nr ni : Nat} (hn : ni < 2 ^ 31) (ht : ∀ r, r < nr → ∃ t, t < 16 ∧ tg r = nI t) : lk_H (lk_sp ow tg st ni) nr ni := by
  intro r hr f
  obtain ⟨t, h16, et⟩ := ht r hr
  by_cases c : f (ow r).toNatClampNeg = 1 ∧ lk_on tg st ni r = true
  · have e : lk_sp ow tg st ni r f = upd f t 1 := by
      unfold lk_sp
      rw [if_pos c, et, nI_clamp (by omega)]
    have h1 := ((lk_on_t hn (by omega) et).mp c.2).1
    by_cases ft : f t = 1
    · exact Or.inl (e.trans (lk_uself ft))
    · exact Or.inr ⟨t, h1, ft, e⟩
  · exact Or.inl (if_neg c)
theorem lk_sp_cl {ow tg st : Nat → Int32} {ni r o t : Nat} {f : Nat → Int32} (hn : ni < 2 ^ 31) (e : lk_sp ow tg st ni r f = f) (ho : o < 2 ^ 31) (eo : ow r = nI o) (ht : t < 2 ^ 31) (et : tg r = nI t) (h1 : f o = 1) (h2 : t < ni) (h3 : ¬ st t = -1) : f t = 1 := by
  unfold lk_sp at e
  rw [if_pos ⟨by rw [eo, nI_clamp ho]; exact h1, (lk_on_t hn ht et).mpr ⟨h2, h3⟩⟩, et, nI_clamp ht] at e
  have h := congrFun e t
  rw [pk_us] at h
  exact h.symm
/-- what a pass keeps: a live one is assigned -/
def lk_la (st : Nat → Int32) (f : Nat → Int32) (ni : Nat) : Prop := ∀ s, s < ni → f s = 1 → ¬ st s = -1
theorem lk_sp_la {ow tg st : Nat → Int32} {ni r t : Nat} {f : Nat → Int32} (hn : ni < 2 ^ 31) (ht : t < 2 ^ 31) (et : tg r = nI t) (h : lk_la st f ni) : lk_la st (lk_sp ow tg st ni r f) ni := by
  intro s hs
  unfold lk_sp
  split
  · rename_i c
    have h1 := (lk_on_t hn ht et).mp c.2
    rw [et, nI_clamp ht]
    by_cases hj : s = t
    · subst hj; exact fun _ => h1.2
    · rw [pk_un hj]; exact h s hs
  · exact h s hs
theorem lk_ps_la {ow tg st : Nat → Int32} {ni nr : Nat} (hn : ni < 2 ^ 31) (ht : ∀ r, r < nr → ∃ t, t < 16 ∧ tg r = nI t) {f : Nat → Int32} (h : lk_la st f ni) : ∀ r, r ≤ nr → lk_la st (lk_ps (lk_sp ow tg st ni) r f) ni := by
  intro r
  induction r with
  | zero => intro _; exact h
  | succ r ih =>
    intro hr
    obtain ⟨t, h16, et⟩ := ht r (by omega)
    exact lk_sp_la hn (by omega) et (ih (by omega))
theorem lk_it_la {ow tg st : Nat → Int32} {ni nr : Nat} (hn : ni < 2 ^ 31) (ht : ∀ r, r < nr → ∃ t, t < 16 ∧ tg r = nI t) {f : Nat → Int32} (h : lk_la st f ni) : ∀ n, lk_la st (lk_it (lk_sp ow tg st ni) nr n f) ni := by
  intro n
  induction n with
  | zero => exact h
  | succ n ih => exact lk_ps_la hn ht ih nr (Nat.le_refl nr)
def lk_no (op : Nat → Int32) : Nat → Nat
  | 0 => 0
  | i + 1 => lk_no op i + (if op i = 1 then 1 else 0)
def lk_ng (op : Nat → Int32) : Nat → Nat
  | 0 => 0
  | i + 1 => lk_ng op i + (if op i = 8 then 1 else 0)
def lk_is (op : Nat → Int32) : Nat → Bool
  | 0 => false
  | i + 1 => if op i = 1 then true else if op i = 2 then false else lk_is op i
def lk_ig (op : Nat → Int32) : Nat → Bool
  | 0 => false
  | i + 1 => if op i = 8 then true else if op i = 9 then false else lk_ig op i
theorem lk_no_s (op : Nat → Int32) (i : Nat) : lk_no op (i + 1) = lk_no op i + (if op i = 1 then 1 else 0) := rfl
theorem lk_ng_s (op : Nat → Int32) (i : Nat) : lk_ng op (i + 1) = lk_ng op i + (if op i = 8 then 1 else 0) := rfl
theorem lk_is_s (op : Nat → Int32) (i : Nat) : lk_is op (i + 1) = if op i = 1 then true else if op i = 2 then false else lk_is op i := rfl
theorem lk_ig_s (op : Nat → Int32) (i : Nat) : lk_ig op (i + 1) = if op i = 8 then true else if op i = 9 then false else lk_ig op i := rfl
theorem lk_no_u {op : Nat → Int32} {n : Nat} {x : Int32} : ∀ i, i ≤ n → lk_no (upd op n x) i = lk_no op i := by
  intro i
  induction i with
  | zero => intro _; rfl
  | succ i ih => intro h; rw [lk_no_s, lk_no_s, ih (by omega), pk_un (by omega)]
theorem lk_ng_u {op : Nat → Int32} {n : Nat} {x : Int32} : ∀ i, i ≤ n → lk_ng (upd op n x) i = lk_ng op i := by
  intro i
  induction i with
  | zero => intro _; rfl
  | succ i ih => intro h; rw [lk_ng_s, lk_ng_s, ih (by omega), pk_un (by omega)]
theorem lk_is_u {op : Nat → Int32} {n : Nat} {x : Int32} : ∀ i, i ≤ n → lk_is (upd op n x) i = lk_is op i := by
  intro i
  induction i with
  | zero => intro _; rfl
  | succ i ih => intro h; rw [lk_is_s, lk_is_s, ih (by omega), pk_un (by omega)]
theorem lk_ig_u {op : Nat → Int32} {n : Nat} {x : Int32} : ∀ i, i ≤ n → lk_ig (upd op n x) i = lk_ig op i := by
  intro i
  induction i with
  | zero => intro _; rfl
  | succ i ih => intro h; rw [lk_ig_s, lk_ig_s, ih (by omega), pk_un (by omega)]
theorem lk_no_m {op : Nat → Int32} {i : Nat} : ∀ d, lk_no op i ≤ lk_no op (i + d) := by
  intro d
  induction d with
  | zero => exact Nat.le_refl _
  | succ d ih =>
    have := lk_no_s op (i + d)
    rw [show i + (d + 1) = i + d + 1 from rfl]
    omega
theorem lk_ng_m {op : Nat → Int32} {i : Nat} : ∀ d, lk_ng op i ≤ lk_ng op (i + d) := by
  intro d
  induction d with
  | zero => exact Nat.le_refl _
  | succ d ih =>
    have := lk_ng_s op (i + d)
    rw [show i + (d + 1) = i + d + 1 from rfl]
    omega
theorem lk_is_p {op : Nat → Int32} : ∀ i, lk_is op i = true → 1 ≤ lk_no op i := by
  intro i
  induction i with
  | zero => intro h; exact Bool.noConfusion h
  | succ i ih =>
    intro h
    rw [lk_is_s] at h
    rw [lk_no_s]
    by_cases h1 : op i = 1
    · rw [if_pos h1]; omega
    · rw [if_neg h1] at h
      by_cases h2 : op i = 2
      · rw [if_pos h2] at h; exact absurd h (by decide)
      · rw [if_neg h2] at h
        have := ih h
        omega
theorem lk_ig_p {op : Nat → Int32} : ∀ i, lk_ig op i = true → 1 ≤ lk_ng op i := by
  intro i
  induction i with
  | zero => intro h; exact Bool.noConfusion h
  | succ i ih =>
    intro h
    rw [lk_ig_s] at h
    rw [lk_ng_s]
    by_cases h1 : op i = 8
    · rw [if_pos h1]; omega
    · rw [if_neg h1] at h
      by_cases h2 : op i = 9
      · rw [if_pos h2] at h; exact absurd h (by decide)
      · rw [if_neg h2] at h
        have := ih h
        omega
/-- one statement's facts: X's owner ox, Y's stOut oy -/
def lk_sc (op a b ox oy rg ld gp : Nat → Int32) (i : Nat) : Prop :=
  (op i = 1 ∧ lk_is op i = false ∧ ((a i = 0 ∧ b i = 1 ∧ lk_ig op i = false) ∨ (a i = 1 ∧ (b i = 0 ∨ b i = 1))) ∧ ox i = nI (lk_no op i) ∧ oy i = nI (lk_no op i) ∧ rg (lk_no op i) = a i ∧ ld (lk_no op i) = b i ∧ gp (lk_no op i) = (if lk_ig op i = true then nI (lk_ng op i - 1) else -1))
  ∨ ((op i = 2 ∨ op i = 3 ∨ op i = 4) ∧ lk_is op i = true ∧ ox i = nI (lk_no op i - 1) ∧ oy i = nI (lk_no op i - 1))
  ∨ ((op i = 5 ∨ op i = 6 ∨ op i = 7) ∧ (∃ x, x ≤ 1023 ∧ a i = nI x ∧ (op i = 7 → lk_A x)) ∧ ((lk_is op i = true ∧ ox i = nI (lk_no op i - 1) ∧ oy i = nI (lk_no op i - 1)) ∨ (lk_is op i = false ∧ lk_ig op i = false ∧ ox i = -1 ∧ oy i = -1 ∧ (b i = 0 ∨ b i = 1))))
  ∨ (op i = 8 ∧ lk_is op i = false ∧ lk_ig op i = false ∧ ox i = nI (lk_ng op i))
  ∨ (op i = 9 ∧ lk_is op i = false ∧ lk_ig op i = true ∧ ox i = nI (lk_ng op i - 1))
/-- a relocated byte: the fed byte, then the first r relocations -/
def lk_rb (ow fo lo hi : Nat → Int32) (s p : Nat) (b0 : Int32) : Nat → Int32
  | 0 => b0
  | r + 1 => if ow r = nI s ∧ (fo r = nI p ∨ fo r + 1 = nI p) then (if fo r = nI p then lo r else hi r) else lk_rb ow fo lo hi s p b0 r
theorem lk_rb_s (ow fo lo hi : Nat → Int32) (s p : Nat) (b0 : Int32) (r : Nat) : lk_rb ow fo lo hi s p b0 (r + 1) = if ow r = nI s ∧ (fo r = nI p ∨ fo r + 1 = nI p) then (if fo r = nI p then lo r else hi r) else lk_rb ow fo lo hi s p b0 r := rfl
def lk_dj (ni : Nat) (act : Nat → Prop) (Lm len : Nat → Nat) : Prop := ∀ s t, s < ni → t < ni → act s → act t → s ≠ t → Lm s + len s ≤ Lm t ∨ Lm t + len t ≤ Lm s
def lk_I2 (act : Nat → Prop) (Lm len : Nat → Nat) (b0 : Nat → Nat → Int32) (m1 : Nat → Int32) (s : Nat) (m : Nat → Int32) : Prop :=
  (∀ t, t < s → act t → ∀ p, p < len t → m (Lm t + p) = b0 t p) ∧
  (∀ j, (∀ t, t < s → act t → ¬ (Lm t ≤ j ∧ j < Lm t + len t)) → m j = m1 j)
theorem lk_I2_0 {act : Nat → Prop} {Lm len : Nat → Nat} {b0 : Nat → Nat → Int32} {m1 : Nat → Int32} : lk_I2 act Lm len b0 m1 0 m1 :=
  ⟨fun t h => absurd h (Nat.not_lt_zero t), fun _ _ => rfl⟩
theorem lk_I2_n {act : Nat → Prop} {Lm len : Nat → Nat} {b0 : Nat → Nat → Int32} {m1 m : Nat → Int32} {s : Nat} (hI : lk_I2 act Lm len b0 m1 s m) (hn : ¬ act s) : lk_I2 act Lm len b0 m1 (s + 1) m := by
  refine ⟨fun t ht ha => ?_, fun j hj => hI.2 j (fun t ht ha => hj t (by omega) ha)⟩
  have hts : t ≠ s := fun e => hn (e ▸ ha)
  exact hI.1 t (by omega) ha
theorem lk_I2_s {ni : Nat} {act : Nat → Prop} {Lm len : Nat → Nat} {b0 : Nat → Nat → Int32} {m1 m m' : Nat → Int32} {s : Nat} (dj : lk_dj ni act Lm len) (hs : s < ni) (ha : act s) (hI : lk_I2 act Lm len b0 m1 s m) (h1 : ∀ p, p < len s → m' (Lm s + p) = b0 s p) (h2 : ∀ j, ¬ (Lm s ≤ j ∧ j < Lm s + len s) → m' j = m j) : lk_I2 act Lm len b0 m1 (s + 1) m' := by
  refine ⟨fun t ht hat p hp => ?_, fun j hj => ?_⟩
  · by_cases e : t = s
    · subst e; exact h1 p hp
    · have := dj s t hs (by omega) ha hat (fun z => e z.symm)
      rw [h2 _ (by omega)]
      exact hI.1 t (by omega) hat p hp
  · rw [h2 j (hj s (by omega) ha)]
    exact hI.2 j (fun t ht hat => hj t (by omega) hat)
def lk_I3 (ni : Nat) (act : Nat → Prop) (Lm len : Nat → Nat) (ow fo lo hi : Nat → Int32) (b0 : Nat → Nat → Int32) (m1 : Nat → Int32) (r : Nat) (m : Nat → Int32) : Prop :=
  (∀ s, s < ni → act s → ∀ p, p < len s → m (Lm s + p) = lk_rb ow fo lo hi s p (b0 s p) r) ∧
  (∀ j, (∀ s, s < ni → act s → ¬ (Lm s ≤ j ∧ j < Lm s + len s)) → m j = m1 j)
theorem lk_I3_0 {ni : Nat} {act : Nat → Prop} {Lm len : Nat → Nat} {ow fo lo hi : Nat → Int32} {b0 : Nat → Nat → Int32} {m1 m : Nat → Int32} (h : lk_I2 act Lm len b0 m1 ni m) : lk_I3 ni act Lm len ow fo lo hi b0 m1 0 m := h
theorem lk_I3_n {ni : Nat} {act : Nat → Prop} {Lm len : Nat → Nat} {ow fo lo hi : Nat → Int32} {b0 : Nat → Nat → Int32} {m1 m : Nat → Int32} {r o : Nat} (hn : ni < 2 ^ 31) (ho : o < ni) (eo : ow r = nI o) (hna : ¬ act o) (hI : lk_I3 ni act Lm len ow fo lo hi b0 m1 r m) : lk_I3 ni act Lm len ow fo lo hi b0 m1 (r + 1) m := by
  refine ⟨fun s hs ha p hp => ?_, hI.2⟩
  rw [lk_rb_s, if_neg]
  · exact hI.1 s hs ha p hp
  · intro c
    rw [eo, nI_eq (by omega) (by omega)] at c
    exact hna (c.1 ▸ ha)
theorem lk_I3_s {ni : Nat} {act : Nat → Prop} {Lm len : Nat → Nat} {ow fo lo hi : Nat → Int32} {b0 : Nat → Nat → Int32} {m1 m : Nat → Int32} {r o f : Nat} (dj : lk_dj ni act Lm len) (hn : ni < 2 ^ 31) (hl : ∀ s, s < ni → len s < 2 ^ 30) (ho : o < ni) (eo : ow r = nI o) (ef : fo r = nI f) (hf : f + 2 ≤ len o) (ha : act o) (hI : lk_I3 ni act Lm len ow fo lo hi b0 m1 r m) : lk_I3 ni act Lm len ow fo lo hi b0 m1 (r + 1) (upd (upd m (Lm o + f) (lo r)) (Lm o + f + 1) (hi r)) := by
  have hlo := hl o ho
  refine ⟨fun s hs has p hp => ?_, fun j hj => ?_⟩
  · rw [lk_rb_s]
    have hls := hl s hs
    by_cases e : s = o
    · subst e
      by_cases e1 : p = f
      · subst e1
        rw [if_pos ⟨eo, Or.inl ef⟩, if_pos ef, pk_un (by omega), pk_us]
      · have n1 : ¬ fo r = nI p := by rw [ef, nI_eq (by omega) (by omega)]; omega
        by_cases e2 : p = f + 1
        · subst e2
          rw [if_pos ⟨eo, Or.inr (by rw [ef, nI_1])⟩, if_neg n1, ← Nat.add_assoc, pk_us]
        · have n2 : ¬ fo r + 1 = nI p := by rw [ef, nI_1, nI_eq (by omega) (by omega)]; omega
          rw [if_neg (fun c => c.2.elim n1 n2), pk_un (by omega), pk_un (by omega)]
          exact hI.1 s hs has p hp
    · have n1 : ¬ ow r = nI s := by rw [eo, nI_eq (by omega) (by omega)]; exact fun z => e z.symm
      have := dj s o hs ho has ha e
      rw [if_neg (fun c => n1 c.1), pk_un (by omega), pk_un (by omega)]
      exact hI.1 s hs has p hp
  · have := hj o ho ha
    rw [pk_un (by omega), pk_un (by omega)]
    exact hI.2 j hj
end
end
section
section
/-! E: the geometry of the walk, over naturals alone -/
def lk_up (f : Nat → Nat) (k x : Nat) : Nat → Nat := fun j => if j = k then x else f j
theorem lk_ups {f : Nat → Nat} {k x : Nat} : lk_up f k x k = x := if_pos rfl
theorem lk_upn {f : Nat → Nat} {k j x : Nat} (h : j ≠ k) : lk_up f k x j = f j := if_neg h
/-- n outs begun, nc of them closed; B above every number -/
def lk_G (rg ld : Nat → Int32) (ni : Nat) (own sz : Nat → Nat) (pl : Nat → Prop) (B n nc ng C0 C1 : Nat) (V L D G0 GE IV : Nat → Nat) : Prop :=
  (C0 ≤ B ∧ C1 ≤ B ∧ 256 ≤ C1 ∧ nc ≤ n ∧ n ≤ nc + 1) ∧
  (∀ k, k < n → V k ≤ D k ∧ D k ≤ B ∧ L k + (D k - V k) ≤ B ∧ (rg k = 1 → 256 ≤ V k) ∧ (rg k = 0 → L k = V k)) ∧
  (∀ k, k < nc → ld k = 1 → L k + (D k - V k) ≤ C0) ∧
  (∀ j k, j < nc → k < n → j < k → ld j = 1 → ld k = 1 → L j + (D j - V j) ≤ L k) ∧
  (nc < n → ld nc = 1 → C0 ≤ L nc) ∧
  (∀ g, g < ng → 256 ≤ G0 g ∧ G0 g ≤ GE g ∧ GE g ≤ B ∧ (GE g = G0 g ∨ ∃ k, k < nc ∧ rg k = 1 ∧ D k = GE g)) ∧
  (∀ s, s < ni → pl s → own s < n ∧ V (own s) ≤ IV s ∧ IV s + sz s ≤ D (own s)) ∧
  (∀ s t, s < ni → t < ni → pl s → pl t → s ≠ t → own s = own t → IV s + sz s ≤ IV t ∨ IV t + sz t ≤ IV s)
theorem lk_G_0 {rg ld : Nat → Int32} {ni : Nat} {own sz : Nat → Nat} {pl : Nat → Prop} {B : Nat} {V L D G0 GE IV : Nat → Nat} (hB : 256 ≤ B) (hp : ∀ s, s < ni → ¬ pl s) : lk_G rg ld ni own sz pl B 0 0 0 0 256 V L D G0 GE IV :=
  ⟨⟨by omega, hB, by omega, by omega, by omega⟩, fun k h => absurd h (Nat.not_lt_zero k), fun k h => absurd h (Nat.not_lt_zero k), fun j k h => absurd h (Nat.not_lt_zero j), fun h => absurd h (Nat.not_lt_zero 0), fun g h => absurd h (Nat.not_lt_zero g), fun s h1 h2 => absurd h2 (hp s h1), fun s t h1 _ h2 => absurd h2 (hp s h1)⟩
theorem lk_G_pl {rg ld : Nat → Int32} {ni : Nat} {own sz : Nat → Nat} {pl pl' : Nat → Prop} {B n nc ng C0 C1 : Nat} {V L D G0 GE IV : Nat → Nat} (h : lk_G rg ld ni own sz pl B n nc ng C0 C1 V L D G0 GE IV) (hp : ∀ s, s < ni → pl' s → pl s) : lk_G rg ld ni own sz pl' B n nc ng C0 C1 V L D G0 GE IV := by
  obtain ⟨h1, h2, h3, h4, h5, h6, h7, h8⟩ := h
  exact ⟨h1, h2, h3, h4, h5, h6, fun s hs p => h7 s hs (hp s hs p), fun s t hs ht p q => h8 s t hs ht (hp s hs p) (hp t ht q)⟩
theorem lk_G_B {rg ld : Nat → Int32} {ni : Nat} {own sz : Nat → Nat} {pl : Nat → Prop} {B B' n nc ng C0 C1 : Nat} {V L D G0 GE IV : Nat → Nat} (h : lk_G rg ld ni own sz pl B n nc ng C0 C1 V L D G0 GE IV) (hB : B ≤ B') : lk_G rg ld ni own sz pl B' n nc ng C0 C1 V L D G0 GE IV := by
  obtain ⟨⟨a1, a2, a3, a4, a5⟩, h2, h3, h4, h5, h6, h7, h8⟩ := h
  refine ⟨⟨by omega, by omega, a3, a4, a5⟩, fun k hk => ?_, h3, h4, h5, fun g hg => ?_, h7, h8⟩
  · obtain ⟨b1, b2, b3, b4, b5⟩ := h2 k hk
    exact ⟨b1, by omega, by omega, b4, b5⟩
  · obtain ⟨b1, b2, b3, b4⟩ := h6 g hg
    exact ⟨b1, b2, by omega, b4⟩
/-- OP_SECTION -/
theorem lk_G_sec {rg ld : Nat → Int32} {ni : Nat} {own sz : Nat → Nat} {pl : Nat → Prop} {B n ng C0 C1 v l : Nat} {V L D G0 GE IV : Nat → Nat} (h : lk_G rg ld ni own sz pl B n n ng C0 C1 V L D G0 GE IV) (hv : v ≤ B) (hl : l ≤ B) (h256 : rg n = 1 → 256 ≤ v) (hr : rg n = 0 → l = v) (hc : ld n = 1 → C0 ≤ l) : lk_G rg ld ni own sz pl B (n + 1) n ng C0 C1 (lk_up V n v) (lk_up L n l) (lk_up D n v) G0 GE IV := by
  obtain ⟨⟨a1, a2, a3, a4, a5⟩, h2, h3, h4, h5, h6, h7, h8⟩ := h
  refine ⟨⟨a1, a2, a3, by omega, by omega⟩, fun k hk => ?_, fun k hk e => ?_, fun j k hj hk hjk e1 e2 => ?_, fun _ e => ?_, fun g hg => ?_, fun s hs p => ?_, h8⟩
  · by_cases e : k = n
    · subst e
      rw [lk_ups, lk_ups, lk_ups]
      exact ⟨Nat.le_refl v, hv, by omega, h256, hr⟩
    · rw [lk_upn e, lk_upn e, lk_upn e]
      exact h2 k (by omega)
  · have hn : k ≠ n := by omega
    rw [lk_upn hn, lk_upn hn, lk_upn hn]
    exact h3 k hk e
  · have hn : j ≠ n := by omega
    rw [lk_upn hn, lk_upn hn, lk_upn hn]
    by_cases e : k = n
    · subst e
      rw [lk_ups]
      exact Nat.le_trans (h3 j hj e1) (hc e2)
    · rw [lk_upn e]
      exact h4 j k hj (by omega) hjk e1 e2
  · rw [lk_ups]; exact hc e
  · obtain ⟨b1, b2, b3, b4⟩ := h6 g hg
    refine ⟨b1, b2, b3, b4.elim Or.inl (fun ⟨k, hk, e1, e2⟩ => Or.inr ⟨k, hk, e1, ?_⟩)⟩
    rw [lk_upn (show k ≠ n by omega)]; exact e2
  · obtain ⟨b1, b2, b3⟩ := h7 s hs p
    have hn : own s ≠ n := by omega
    rw [lk_upn hn, lk_upn hn]
    exact ⟨by omega, b2, b3⟩
/-- a dot moved inside the open section -/
theorem lk_G_dot {rg ld : Nat → Int32} {ni : Nat} {own sz : Nat → Nat} {pl : Nat → Prop} {B B' nc ng C0 C1 x : Nat} {V L D G0 GE IV : Nat → Nat} (h : lk_G rg ld ni own sz pl B (nc + 1) nc ng C0 C1 V L D G0 GE IV) (hx : D nc ≤ x) (hB : B + (x - D nc) ≤ B') : lk_G rg ld ni own sz pl B' (nc + 1) nc ng C0 C1 V L (lk_up D nc x) G0 GE IV := by
  obtain ⟨⟨a1, a2, a3, a4, a5⟩, h2, h3, h4, h5, h6, h7, h8⟩ := h
  refine ⟨⟨by omega, by omega, a3, a4, a5⟩, fun k hk => ?_, fun k hk e => ?_, fun j k hj hk hjk e1 e2 => ?_, h5, fun g hg => ?_, fun s hs p => ?_, h8⟩
  · obtain ⟨b1, b2, b3, b4, b5⟩ := h2 k hk
    by_cases e : k = nc
    · subst e
      rw [lk_ups]
      exact ⟨by omega, by omega, by omega, b4, b5⟩
    · rw [lk_upn e]
      exact ⟨b1, by omega, by omega, b4, b5⟩
  · rw [lk_upn (show k ≠ nc by omega)]; exact h3 k hk e
  · rw [lk_upn (show j ≠ nc by omega)]; exact h4 j k hj hk hjk e1 e2
  · obtain ⟨b1, b2, b3, b4⟩ := h6 g hg
    refine ⟨b1, b2, by omega, b4.elim Or.inl (fun ⟨k, hk, e1, e2⟩ => Or.inr ⟨k, hk, e1, ?_⟩)⟩
    rw [lk_upn (show k ≠ nc by omega)]; exact e2
  · obtain ⟨b1, b2, b3⟩ := h7 s hs p
    refine ⟨b1, b2, ?_⟩
    by_cases e : own s = nc
    · rw [e, lk_ups]; rw [e] at b3; omega
    · rw [lk_upn e]; exact b3
/-- an input section placed at x -/
theorem lk_G_put {rg ld : Nat → Int32} {ni : Nat} {own sz : Nat → Nat} {pl : Nat → Prop} {B B' nc ng C0 C1 x q : Nat} {V L D G0 GE IV : Nat → Nat} (h : lk_G rg ld ni own sz pl B (nc + 1) nc ng C0 C1 V L D G0 GE IV) (hq : ¬ pl q) (ho : own q = nc) (hx : D nc ≤ x) (hB : B + (x + sz q - D nc) ≤ B') : lk_G rg ld ni own sz (fun t => pl t ∨ t = q) B' (nc + 1) nc ng C0 C1 V L (lk_up D nc (x + sz q)) G0 GE (lk_up IV q x) := by
  have hd := lk_G_dot h (x := x + sz q) (by omega) hB
  obtain ⟨h1, h2, h3, h4, h5, h6, h7, h8⟩ := hd
  obtain ⟨_, g2, _, _, _, _, g7, _⟩ := h
  refine ⟨h1, h2, h3, h4, h5, h6, fun s hs p => ?_, fun s t hs ht p r hne e => ?_⟩
  · by_cases e : s = q
    · subst e
      rw [ho, lk_ups, lk_ups]
      have := (g2 nc (by omega)).1
      exact ⟨by omega, by omega, Nat.le_refl _⟩
    · rw [lk_upn e]
      exact h7 s hs (p.resolve_right e)
  · by_cases es : s = q
    · subst es
      have et : t ≠ s := fun z => hne z.symm
      rw [lk_ups, lk_upn et]
      have g := g7 t ht (r.resolve_right et)
      rw [← e, ho] at g
      exact Or.inr (by omega)
    · by_cases et : t = q
      · subst et
        rw [lk_ups, lk_upn es]
        have g := g7 s hs (p.resolve_right es)
        rw [e, ho] at g
        exact Or.inl (by omega)
      · rw [lk_upn es, lk_upn et]
        exact h8 s t hs ht (p.resolve_right es) (r.resolve_right et) hne e
/-- OP_END -/
theorem lk_G_end {rg ld : Nat → Int32} {ni : Nat} {own sz : Nat → Nat} {pl : Nat → Prop} {B nc ng C0 C1 C0' C1' : Nat} {V L D G0 GE GE' IV : Nat → Nat} (h : lk_G rg ld ni own sz pl B (nc + 1) nc ng C0 C1 V L D G0 GE IV) (h0 : C0' ≤ B) (h0' : C0 ≤ C0') (hl : ld nc = 1 → L nc + (D nc - V nc) ≤ C0') (h1 : C1' ≤ B) (h1' : 256 ≤ C1') (hg : ∀ g, g < ng → GE' g = GE g ∨ (rg nc = 1 ∧ GE' g = D nc ∧ GE g ≤ D nc)) : lk_G rg ld ni own sz pl B (nc + 1) (nc + 1) ng C0' C1' V L D G0 GE' IV := by
  obtain ⟨⟨a1, a2, a3, a4, a5⟩, h2, h3, h4, h5, h6, h7, h8⟩ := h
  refine ⟨⟨h0, h1, h1', by omega, by omega⟩, h2, fun k hk e => ?_, fun j k hj hk hjk e1 e2 => ?_, fun z => absurd z (Nat.lt_irrefl _), fun g hgn => ?_, h7, h8⟩
  · by_cases ek : k = nc
    · subst ek; exact hl e
    · exact Nat.le_trans (h3 k (by omega) e) h0'
  · exact h4 j k (by omega) hk hjk e1 e2
  · obtain ⟨b1, b2, b3, b4⟩ := h6 g hgn
    rcases hg g hgn with e | ⟨e1, e2, e3⟩
    · rw [e]
      exact ⟨b1, b2, b3, b4.elim Or.inl (fun ⟨k, hk, c1, c2⟩ => Or.inr ⟨k, by omega, c1, c2⟩)⟩
    · rw [e2]
      exact ⟨b1, by omega, (h2 nc (by omega)).2.1, Or.inr ⟨nc, by omega, e1, rfl⟩⟩
/-- a counter moved outside, or OP_OVERLAY_END -/
theorem lk_G_cnt {rg ld : Nat → Int32} {ni : Nat} {own sz : Nat → Nat} {pl : Nat → Prop} {B B' n ng C0 C1 C0' C1' : Nat} {V L D G0 GE IV : Nat → Nat} (h : lk_G rg ld ni own sz pl B n n ng C0 C1 V L D G0 GE IV) (hB : B ≤ B') (h0 : C0' ≤ B') (h0' : C0 ≤ C0') (h1 : C1' ≤ B') (h1' : 256 ≤ C1') : lk_G rg ld ni own sz pl B' n n ng C0' C1' V L D G0 GE IV := by
  obtain ⟨⟨a1, a2, a3, a4, a5⟩, h2, h3, h4, h5, h6, h7, h8⟩ := lk_G_B h hB
  exact ⟨⟨h0, h1, h1', a4, a5⟩, h2, fun k hk e => Nat.le_trans (h3 k hk e) h0', h4, fun z => absurd z (Nat.lt_irrefl _), h6, h7, h8⟩
/-- OP_OVERLAY -/
theorem lk_G_ovl {rg ld : Nat → Int32} {ni : Nat} {own sz : Nat → Nat} {pl : Nat → Prop} {B n nc ng C0 C1 : Nat} {V L D G0 GE IV : Nat → Nat} (h : lk_G rg ld ni own sz pl B n nc ng C0 C1 V L D G0 GE IV) : lk_G rg ld ni own sz pl B n nc (ng + 1) C0 C1 V L D (lk_up G0 ng C1) (lk_up GE ng C1) IV := by
  obtain ⟨⟨a1, a2, a3, a4, a5⟩, h2, h3, h4, h5, h6, h7, h8⟩ := h
  refine ⟨⟨a1, a2, a3, a4, a5⟩, h2, h3, h4, h5, fun g hg => ?_, h7, h8⟩
  by_cases e : g = ng
  · subst e
    rw [lk_ups, lk_ups]
    exact ⟨a3, Nat.le_refl _, a2, Or.inl rfl⟩
  · rw [lk_upn e, lk_upn e]
    exact h6 g (by omega)
/-- the load addresses of placed sections never meet -/
theorem lk_G_dj {rg ld : Nat → Int32} {ni : Nat} {own sz len : Nat → Nat} {pl act : Nat → Prop} {B n ng C0 C1 : Nat} {V L D G0 GE IV : Nat → Nat} (h : lk_G rg ld ni own sz pl B n n ng C0 C1 V L D G0 GE IV) (ha : ∀ s, s < ni → act s → pl s ∧ len s = sz s ∧ ld (own s) = 1) : lk_dj ni act (fun s => L (own s) + (IV s - V (own s))) len := by
  obtain ⟨_, _, _, h4, _, _, h7, h8⟩ := h
  intro s t hs ht hs' ht' hne
  obtain ⟨p1, e1, l1⟩ := ha s hs hs'
  obtain ⟨p2, e2, l2⟩ := ha t ht ht'
  obtain ⟨b1, b2, b3⟩ := h7 s hs p1
  obtain ⟨c1, c2, c3⟩ := h7 t ht p2
  show L (own s) + (IV s - V (own s)) + len s ≤ L (own t) + (IV t - V (own t)) ∨ L (own t) + (IV t - V (own t)) + len t ≤ L (own s) + (IV s - V (own s))
  by_cases e : own s = own t
  · have g := h8 s t hs ht p1 p2 hne e
    rw [e] at b2 ⊢
    omega
  · rcases Nat.lt_or_gt_of_ne e with q | q
    · have g := h4 (own s) (own t) b1 c1 q l1 l2
      omega
    · have g := h4 (own t) (own s) c1 b1 q l2 l1
      omega
end
end
section
section
/-! F: the image: X builds it in place, Y reads it section by section -/
theorem lk_img {rg ld : Nat → Int32} {ni : Nat} {own sz len : Nat → Nat} {pl act : Nat → Prop} {B n ng C0 C1 nr k off : Nat} {V L D G0 GE IV : Nat → Nat} {ow fo lo hi m1 m w : Nat → Int32} {b0 : Nat → Nat → Int32} {p : Nat → Bool}
    (hG : lk_G rg ld ni own sz pl B n n ng C0 C1 V L D G0 GE IV)
    (ha : ∀ s, s < ni → act s → pl s ∧ len s = sz s ∧ ld (own s) = 1)
    (hI : lk_I3 ni act (fun s => L (own s) + (IV s - V (own s))) len ow fo lo hi b0 m1 nr m)
    (h1 : ∀ q, q < n → ld q = 1 → ∀ o, o < D q - V q → m1 (L q + o) = 0)
    (hk : k < n) (ho : off < D k - V k)
    (hp : ∀ s, s < ni → (p s = true ↔ act s ∧ own s = k ∧ IV s ≤ V k + off ∧ V k + off < IV s + len s))
    (hw : ∀ s, s < ni → p s = true → w s = lk_rb ow fo lo hi s (V k + off - IV s) (b0 s (V k + off - IV s)) nr) :
    (ld k = 1 → m (L k + off) = lk_fv p w ni 0) ∧ (¬ ld k = 1 → lk_fv p w ni 0 = 0) := by
  obtain ⟨_, _, _, h4, _, _, h7, _⟩ := hG
  rcases lk_fv_or p w ni 0 with ⟨e, hn⟩ | ⟨s, _, hs, hps, e⟩
  · refine ⟨fun hl => ?_, fun _ => e⟩
    rw [e, hI.2 (L k + off), h1 k hk hl off ho]
    intro s hs has c
    have c' : L (own s) + (IV s - V (own s)) ≤ L k + off ∧ L k + off < L (own s) + (IV s - V (own s)) + len s := c
    obtain ⟨p1, e1, l1⟩ := ha s hs has
    obtain ⟨b1, b2, b3⟩ := h7 s hs p1
    by_cases eo : own s = k
    · rw [eo] at c' b2 b3
      exact hn s (Nat.zero_le s) (by omega) ((hp s hs).mpr ⟨has, eo, by omega, by omega⟩)
    · rcases Nat.lt_or_gt_of_ne eo with q | q
      · have g := h4 (own s) k b1 hk q l1 hl
        omega
      · have g := h4 k (own s) hk b1 q hl l1
        omega
  · have hs' : s < ni := by omega
    obtain ⟨has, eo, c1, c2⟩ := (hp s hs').mp hps
    obtain ⟨p1, e1, l1⟩ := ha s hs' has
    obtain ⟨b1, b2, b3⟩ := h7 s hs' p1
    rw [eo] at b2 b3 l1
    refine ⟨fun hl => ?_, fun hl => absurd l1 hl⟩
    have g := hI.1 s hs' has (V k + off - IV s) (by omega)
    have g' : m (L (own s) + (IV s - V (own s)) + (V k + off - IV s)) = lk_rb ow fo lo hi s (V k + off - IV s) (b0 s (V k + off - IV s)) nr := g
    rw [eo, show L k + (IV s - V k) + (V k + off - IV s) = L k + off by omega] at g'
    rw [e, hw s hs' hps]
    exact g'
theorem lk_rom {rg ld : Nat → Int32} {ni : Nat} {own sz len : Nat → Nat} {pl act : Nat → Prop} {B n ng C0 C1 nr : Nat} {V L D G0 GE IV : Nat → Nat} {ow fo lo hi m1 m rom : Nat → Int32} {b0 : Nat → Nat → Int32}
    (hG : lk_G rg ld ni own sz pl B n n ng C0 C1 V L D G0 GE IV)
    (ha : ∀ s, s < ni → act s → pl s ∧ len s = sz s ∧ ld (own s) = 1)
    (hI : lk_I3 ni act (fun s => L (own s) + (IV s - V (own s))) len ow fo lo hi b0 m1 nr m)
    (h1 : ∀ j, j < 128 → (∀ q, q < n → ld q = 1 → ¬ (L q ≤ j ∧ j < L q + (D q - V q))) → m1 j = 255)
    (r1 : ∀ q, q < n → ld q = 1 → ∀ o, o < D q - V q → rom (L q + o) = m (L q + o))
    (r2 : ∀ j, j < 128 → (∀ q, q < n → ld q = 1 → ¬ (L q ≤ j ∧ j < L q + (D q - V q))) → rom j = 255) :
    ∀ j, j < 128 → m j = rom j := by
  obtain ⟨_, _, _, _, _, _, h7, _⟩ := hG
  intro j hj
  by_cases c : ∃ q, q < n ∧ ld q = 1 ∧ L q ≤ j ∧ j < L q + (D q - V q)
  · obtain ⟨q, hq, hl, c1, c2⟩ := c
    have g := r1 q hq hl (j - L q) (by omega)
    rw [show L q + (j - L q) = j by omega] at g
    exact g.symm
  · have hn : ∀ q, q < n → ld q = 1 → ¬ (L q ≤ j ∧ j < L q + (D q - V q)) := fun q hq hl z => c ⟨q, hq, hl, z.1, z.2⟩
    rw [r2 j hj hn, ← h1 j hj hn]
    refine hI.2 j (fun s hs has z => ?_)
    have z' : L (own s) + (IV s - V (own s)) ≤ j ∧ j < L (own s) + (IV s - V (own s)) + len s := z
    obtain ⟨p1, e1, l1⟩ := ha s hs has
    obtain ⟨b1, b2, b3⟩ := h7 s hs p1
    exact hn (own s) b1 l1 (by omega)
end
end
section
section
/-! G: what feeding keeps -/
theorem lk_no_lt {op : Nat → Int32} {i n : Nat} (h : op i = 1) (hi : i < n) : lk_no op i < lk_no op n := by
  have h1 := lk_no_m (op := op) (i := i + 1) (n - (i + 1))
  rw [show i + 1 + (n - (i + 1)) = n by omega, lk_no_s, if_pos h] at h1
  omega
theorem lk_sc_u {op a b ox oy rg ld gp : Nat → Int32} {i n : Nat} {x1 x2 x3 x4 x5 : Int32} (hi : i < n) (h : lk_sc op a b ox oy rg ld gp i) : lk_sc (upd op n x1) (upd a n x2) (upd b n x3) (upd ox n x4) (upd oy n x5) rg ld gp i := by
  have e : ∀ (f : Nat → Int32) (x : Int32), upd f n x i = f i := fun f x => pk_un (by omega)
  unfold lk_sc at h ⊢
  simp only [lk_is_u i (Nat.le_of_lt hi), lk_ig_u i (Nat.le_of_lt hi), lk_no_u i (Nat.le_of_lt hi), lk_ng_u i (Nat.le_of_lt hi), e]
  exact h
theorem lk_sc_o {op a b ox oy rg ld gp : Nat → Int32} {i n no : Nat} {y1 y2 y3 : Int32} (hi : i < n) (hn : no = lk_no op n) (h : lk_sc op a b ox oy rg ld gp i) : lk_sc op a b ox oy (upd rg no y1) (upd ld no y2) (upd gp no y3) i := by
  rcases h with ⟨h1, h2, h3, h4, h5, h6, h7, h8⟩ | h
  · have hl := lk_no_lt h1 hi
    have e : ∀ (f : Nat → Int32) (x : Int32), upd f no x (lk_no op i) = f (lk_no op i) := fun f x => pk_un (by omega)
    exact Or.inl ⟨h1, h2, h3, h4, h5, by rw [e]; exact h6, by rw [e]; exact h7, by rw [e]; exact h8⟩
  · exact Or.inr h
theorem lk_no_a {op : Nat → Int32} {n : Nat} {x : Int32} : lk_no (upd op n x) (n + 1) = lk_no op n + (if x = 1 then 1 else 0) := by
  rw [lk_no_s, lk_no_u n (Nat.le_refl n), pk_us]
theorem lk_ng_a {op : Nat → Int32} {n : Nat} {x : Int32} : lk_ng (upd op n x) (n + 1) = lk_ng op n + (if x = 8 then 1 else 0) := by
  rw [lk_ng_s, lk_ng_u n (Nat.le_refl n), pk_us]
theorem lk_is_a {op : Nat → Int32} {n : Nat} {x : Int32} : lk_is (upd op n x) (n + 1) = if x = 1 then true else if x = 2 then false else lk_is op n := by
  rw [lk_is_s, lk_is_u n (Nat.le_refl n), pk_us]
theorem lk_ig_a {op : Nat → Int32} {n : Nat} {x : Int32} : lk_ig (upd op n x) (n + 1) = if x = 8 then true else if x = 9 then false else lk_ig op n := by
  rw [lk_ig_s, lk_ig_u n (Nat.le_refl n), pk_us]
/-- the script part of the relation: oo the open section on both sides, xg X's open group, yg Y's flag -/
def lk_S (ns no ng : Nat) (op sa sb ox oy rg ld gp : Nat → Int32) (oo xg yg : Int32) : Prop :=
  ns ≤ 32 ∧ no ≤ 8 ∧ ng ≤ 4 ∧ no = lk_no op ns ∧ ng = lk_ng op ns ∧ oo = (if lk_is op ns = true then nI (no - 1) else -1) ∧ xg = (if lk_ig op ns = true then nI (ng - 1) else -1) ∧ yg = (if lk_ig op ns = true then 1 else 0) ∧ ∀ i, i < ns → lk_sc op sa sb ox oy rg ld gp i
/-- a statement that opens no section and no group -/
theorem lk_S_st {ns no ng : Nat} {op sa sb ox oy rg ld gp : Nat → Int32} {oo xg yg oo' xg' yg' x a b o1 o2 : Int32} (h : lk_S ns no ng op sa sb ox oy rg ld gp oo xg yg) (hc : ns < 32) (n1 : ¬ x = 1) (n8 : ¬ x = 8)
    (e1 : oo' = if x = 2 then -1 else oo) (e2 : xg' = if x = 9 then -1 else xg) (e3 : yg' = if x = 9 then 0 else yg)
    (hs : lk_sc (upd op ns x) (upd sa ns a) (upd sb ns b) (upd ox ns o1) (upd oy ns o2) rg ld gp ns) :
    lk_S (ns + 1) no ng (upd op ns x) (upd sa ns a) (upd sb ns b) (upd ox ns o1) (upd oy ns o2) rg ld gp oo' xg' yg' := by
  obtain ⟨c1, c2, c3, c4, c5, c6, c7, c8, c9⟩ := h
  refine ⟨by omega, c2, c3, ?_, ?_, ?_, ?_, ?_, ?_⟩
  · rw [lk_no_a, if_neg n1]; omega
  · rw [lk_ng_a, if_neg n8]; omega
  · rw [lk_is_a, if_neg n1, e1, c6]
    by_cases h2 : x = 2
    · rw [if_pos h2, if_pos h2, if_neg (by decide)]
    · rw [if_neg h2, if_neg h2]
  · rw [lk_ig_a, if_neg n8, e2, c7]
    by_cases h2 : x = 9
    · rw [if_pos h2, if_pos h2, if_neg (by decide)]
    · rw [if_neg h2, if_neg h2]
  · rw [lk_ig_a, if_neg n8, e3, c8]
    by_cases h2 : x = 9
    · rw [if_pos h2, if_pos h2, if_neg (by decide)]
    · rw [if_neg h2, if_neg h2]
  · intro i hi
    by_cases e : i = ns
    · subst e; exact hs
    · exact lk_sc_u (by omega) (c9 i (by omega))
theorem lk_S_sec {ns no ng : Nat} {op sa sb ox oy rg ld gp : Nat → Int32} {oo xg yg a b : Int32} (h : lk_S ns no ng op sa sb ox oy rg ld gp oo xg yg) (hc : ns < 32) (ho : no < 8) (hi : lk_is op ns = false) (hab : (a = 0 ∧ b = 1 ∧ lk_ig op ns = false) ∨ (a = 1 ∧ (b = 0 ∨ b = 1))) :
    lk_S (ns + 1) (no + 1) ng (upd op ns 1) (upd sa ns a) (upd sb ns b) (upd ox ns (nI no)) (upd oy ns (nI no)) (upd rg no a) (upd ld no b) (upd gp no xg) (nI no) xg yg := by
  obtain ⟨c1, c2, c3, c4, c5, c6, c7, c8, c9⟩ := h
  have n8 : ¬ (1 : Int32) = 8 := by decide
  have n9 : ¬ (1 : Int32) = 9 := by decide
  refine ⟨by omega, by omega, c3, ?_, ?_, ?_, ?_, ?_, ?_⟩
  · rw [lk_no_a, if_pos rfl]; omega
  · rw [lk_ng_a, if_neg n8]; omega
  · rw [lk_is_a, if_pos rfl, if_pos rfl, Nat.add_sub_cancel]
  · rw [lk_ig_a, if_neg n8, if_neg n9]; exact c7
  · rw [lk_ig_a, if_neg n8, if_neg n9]; exact c8
  · intro i hin
    by_cases e : i = ns
    · subst e
      refine Or.inl ⟨pk_us, ?_, ?_, ?_, ?_, ?_, ?_, ?_⟩
      · rw [lk_is_u i (Nat.le_refl i)]; exact hi
      · rw [pk_us, pk_us, lk_ig_u i (Nat.le_refl i)]; exact hab
      · rw [pk_us, lk_no_u i (Nat.le_refl i), ← c4]
      · rw [pk_us, lk_no_u i (Nat.le_refl i), ← c4]
      · rw [lk_no_u i (Nat.le_refl i), ← c4, pk_us, pk_us]
      · rw [lk_no_u i (Nat.le_refl i), ← c4, pk_us, pk_us]
      · rw [lk_no_u i (Nat.le_refl i), ← c4, pk_us, lk_ig_u i (Nat.le_refl i), lk_ng_u i (Nat.le_refl i), ← c5]; exact c7
    · have h1 : i < ns := by omega
      have g := lk_sc_o (y1 := a) (y2 := b) (y3 := xg) h1 c4 (c9 i h1)
      exact lk_sc_u h1 g
theorem lk_S_ovl {ns no ng : Nat} {op sa sb ox oy rg ld gp : Nat → Int32} {oo xg yg a b o2 : Int32} (h : lk_S ns no ng op sa sb ox oy rg ld gp oo xg yg) (hc : ns < 32) (hg : ng < 4) (hi : lk_is op ns = false) (hj : lk_ig op ns = false) :
    lk_S (ns + 1) no (ng + 1) (upd op ns 8) (upd sa ns a) (upd sb ns b) (upd ox ns (nI ng)) (upd oy ns o2) rg ld gp oo (nI ng) 1 := by
  obtain ⟨c1, c2, c3, c4, c5, c6, c7, c8, c9⟩ := h
  have n1 : ¬ (8 : Int32) = 1 := by decide
  have n2 : ¬ (8 : Int32) = 2 := by decide
  refine ⟨by omega, c2, by omega, ?_, ?_, ?_, ?_, ?_, ?_⟩
  · rw [lk_no_a, if_neg n1]; omega
  · rw [lk_ng_a, if_pos rfl]; omega
  · rw [lk_is_a, if_neg n1, if_neg n2]; exact c6
  · rw [lk_ig_a, if_pos rfl, if_pos rfl, Nat.add_sub_cancel]
  · rw [lk_ig_a, if_pos rfl, if_pos rfl]
  · intro i hin
    by_cases e : i = ns
    · subst e
      refine Or.inr (Or.inr (Or.inr (Or.inl ⟨pk_us, ?_, ?_, ?_⟩)))
      · rw [lk_is_u i (Nat.le_refl i)]; exact hi
      · rw [lk_ig_u i (Nat.le_refl i)]; exact hj
      · rw [pk_us, lk_ng_u i (Nat.le_refl i), ← c5]
    · exact lk_sc_u (by omega) (c9 i (by omega))
/-- the input sections -/
def lk_n1 (nb : Nat) (kd al sz fb bs ln : Nat → Int32) (s : Nat) : Prop := ∃ A T Z Q : Nat, lk_A A ∧ al s = nI A ∧ fb s = nI T ∧ ln s = nI Z ∧ T + Z ≤ nb ∧ sz s = nI Q ∧ ((kd s = 3 ∧ Z = 0 ∧ Q ≤ 128 ∧ bs s = nI Q) ∨ (¬ kd s = 3 ∧ Q = Z))
def lk_N (ni nb : Nat) (kd al sz fb bs ln : Nat → Int32) : Prop := ni ≤ 16 ∧ nb ≤ 256 ∧ ∀ s, s < ni → lk_n1 nb kd al sz fb bs ln s
theorem lk_N_sec {ni nb A Q : Nat} {kd al sz fb bs ln : Nat → Int32} {k : Int32} (h : lk_N ni nb kd al sz fb bs ln) (hn : ni < 16) (hA : lk_A A) (hQ : (k = 3 ∧ Q ≤ 128) ∨ (¬ k = 3 ∧ Q = 0)) :
    lk_N (ni + 1) nb (upd kd ni k) (upd al ni (nI A)) (upd sz ni (nI Q)) (upd fb ni (nI nb)) (upd bs ni (nI Q)) (upd ln ni 0) := by
  obtain ⟨c1, c2, c3⟩ := h
  refine ⟨by omega, c2, fun s hs => ?_⟩
  by_cases e : s = ni
  · subst e
    refine ⟨A, nb, 0, Q, hA, pk_us, pk_us, pk_us, Nat.le_refl nb, pk_us, ?_⟩
    rw [pk_us, pk_us]
    rcases hQ with ⟨q1, q2⟩ | ⟨q1, q2⟩
    · exact Or.inl ⟨q1, rfl, q2, rfl⟩
    · exact Or.inr ⟨q1, q2⟩
  · obtain ⟨A', T, Z, Q', d1, d2, d3, d4, d5, d6, d7⟩ := c3 s (by omega)
    exact ⟨A', T, Z, Q', d1, by rw [pk_un e]; exact d2, by rw [pk_un e]; exact d3, by rw [pk_un e]; exact d4, d5, by rw [pk_un e]; exact d6, by rw [pk_un e, pk_un e]; exact d7⟩
theorem lk_N_byte {ni nb : Nat} {kd al sz fb bs ln : Nat → Int32} (h : lk_N (ni + 1) nb kd al sz fb bs ln) (hb : nb < 256) (hk : ¬ kd ni = 3) :
    lk_N (ni + 1) (nb + 1) kd al (upd sz ni (sz ni + 1)) fb bs (upd ln ni (ln ni + 1)) := by
  obtain ⟨c1, c2, c3⟩ := h
  refine ⟨c1, by omega, fun s hs => ?_⟩
  obtain ⟨A, T, Z, Q, d1, d2, d3, d4, d5, d6, d7⟩ := c3 s hs
  by_cases e : s = ni
  · subst e
    rcases d7 with ⟨q1, _⟩ | ⟨q1, q2⟩
    · exact absurd q1 hk
    · exact ⟨A, T, Z + 1, Q + 1, d1, d2, d3, by rw [pk_us, d4, nI_1], by omega, by rw [pk_us, d6, nI_1], Or.inr ⟨q1, by omega⟩⟩
  · exact ⟨A, T, Z, Q, d1, d2, d3, by rw [pk_un e]; exact d4, by omega, by rw [pk_un e]; exact d6, d7⟩
/-- the relocations -/
def lk_Q (nr ni : Nat) (kd ln ro rf rt : Nat → Int32) : Prop := nr ≤ 32 ∧ ∀ r, r < nr → ∃ o f t Z : Nat, o < ni ∧ ro r = nI o ∧ ¬ kd o = 3 ∧ ln o = nI Z ∧ Z ≤ 256 ∧ f + 2 ≤ Z ∧ rf r = nI f ∧ t < 16 ∧ rt r = nI t
theorem lk_Q_sec {nr ni : Nat} {kd ln ro rf rt : Nat → Int32} {k z : Int32} (h : lk_Q nr ni kd ln ro rf rt) : lk_Q nr (ni + 1) (upd kd ni k) (upd ln ni z) ro rf rt := by
  refine ⟨h.1, fun r hr => ?_⟩
  obtain ⟨o, f, t, Z, d1, d2, d3, d4, d5, d6, d7, d8, d9⟩ := h.2 r hr
  have e : o ≠ ni := by omega
  exact ⟨o, f, t, Z, by omega, d2, by rw [pk_un e]; exact d3, by rw [pk_un e]; exact d4, d5, d6, d7, d8, d9⟩
theorem lk_Q_byte {nr ni c : Nat} {kd ln ro rf rt : Nat → Int32} (h : lk_Q nr ni kd ln ro rf rt) (hz : ∀ Z, ln c = nI Z → Z ≤ 256 → Z < 256) : lk_Q nr ni kd (upd ln c (ln c + 1)) ro rf rt := by
  refine ⟨h.1, fun r hr => ?_⟩
  obtain ⟨o, f, t, Z, d1, d2, d3, d4, d5, d6, d7, d8, d9⟩ := h.2 r hr
  by_cases e : o = c
  · subst e
    have := hz Z d4 d5
    exact ⟨o, f, t, Z + 1, d1, d2, d3, by rw [pk_us, d4, nI_1], by omega, by omega, d7, d8, d9⟩
  · exact ⟨o, f, t, Z, d1, d2, d3, by rw [pk_un e]; exact d4, d5, d6, d7, d8, d9⟩
theorem lk_Q_rel {nr ni o f t Z : Nat} {kd ln ro rf rt : Nat → Int32} (h : lk_Q nr ni kd ln ro rf rt) (hc : nr < 32) (d1 : o < ni) (d3 : ¬ kd o = 3) (d4 : ln o = nI Z) (d5 : Z ≤ 256) (d6 : f + 2 ≤ Z) (d8 : t < 16) : lk_Q (nr + 1) ni kd ln (upd ro nr (nI o)) (upd rf nr (nI f)) (upd rt nr (nI t)) := by
  refine ⟨by omega, fun r hr => ?_⟩
  by_cases e : r = nr
  · subst e
    exact ⟨o, f, t, Z, d1, pk_us, d3, d4, d5, d6, pk_us, d8, pk_us⟩
  · rw [pk_un e, pk_un e, pk_un e]
    exact h.2 r (by omega)
end
end
section
section
/-! H: what link reckons, without the walk -/
theorem lk_ff_sn (p : Nat → Bool) : ∀ d j : Nat, j + d < 2 ^ 31 → lk_ff p (d + 1) j = if lk_ff p d j = -1 then (if p (j + d) = true then nI (j + d) else -1) else lk_ff p d j := by
  intro d
  induction d with
  | zero => intro j _; rfl
  | succ d ih =>
    intro j hj
    by_cases h : p j = true
    · rw [lk_ff_t h, lk_ff_t h, if_neg]
      intro e
      have := nI_pos (n := j) (by omega)
      rw [e] at this
      exact absurd (by decide : (-1 : Int32) < 0) this
    · rw [lk_ff_f h, lk_ff_f h, ih (j + 1) (by omega), show j + 1 + d = j + (d + 1) by omega]
theorem lk_nn1 {j : Nat} (h : j < 2 ^ 31) : ¬ nI j = -1 := by
  intro e
  have := nI_pos (n := j) h
  rw [e] at this
  exact absurd (by decide : (-1 : Int32) < 0) this
/-- the first n cells written by F -/
def lk_as (f : Nat → Int32) (n : Nat) (F : Nat → Int32) : Nat → Int32 := fun s => if s < n then F s else f s
theorem lk_as_0 {f F : Nat → Int32} : lk_as f 0 F = f := by
  funext s
  exact if_neg (Nat.not_lt_zero s)
theorem lk_as_s {f F : Nat → Int32} {n : Nat} {x : Int32} (h : x = F n) : upd (lk_as f n F) n x = lk_as f (n + 1) F := by
  funext s
  by_cases e : s = n
  · subst e
    rw [pk_us, h]
    exact (if_pos (Nat.lt_succ_self s)).symm
  · rw [pk_un e]
    unfold lk_as
    by_cases c : s < n
    · rw [if_pos c, if_pos (show s < n + 1 by omega)]
    · rw [if_neg c, if_neg (show ¬ s < n + 1 by omega)]
theorem lk_as_t {f F : Nat → Int32} {n s : Nat} (h : s < n) : lk_as f n F s = F s := if_pos h
theorem lk_as_f {f F : Nat → Int32} {n s : Nat} (h : ¬ s < n) : lk_as f n F s = f s := if_neg h
/-- statement i takes section s -/
def lk_mt (op sa sb kd id : Nat → Int32) (s i : Nat) : Bool := decide ((op i = 3 ∨ op i = 4) ∧ (sa i = -1 ∨ sa i = id s) ∧ (sb i = 0 ∨ sb i = kd s))
def lk_fm (op sa sb kd id : Nat → Int32) (ns s : Nat) : Int32 := lk_ff (lk_mt op sa sb kd id s) ns 0
theorem lk_fm_or {op sa sb kd id : Nat → Int32} {ns s : Nat} : lk_fm op sa sb kd id ns s = -1 ∨ ∃ i, i < ns ∧ (op i = 3 ∨ op i = 4) ∧ lk_fm op sa sb kd id ns s = nI i := by
  rcases lk_ff_or (lk_mt op sa sb kd id s) ns 0 with e | ⟨i, _, h2, h3, h4⟩
  · exact Or.inl e
  · exact Or.inr ⟨i, by omega, (of_decide_eq_true h3).1, h4⟩
/-- live at first -/
def lk_l0 (op st : Nat → Int32) (gc : Int32) (s : Nat) : Int32 := if ¬ st s = -1 ∧ (gc = 0 ∨ op (st s).toNatClampNeg = 4) then 1 else 0
theorem lk_l0_a {op st : Nat → Int32} {gc : Int32} {s : Nat} (h : lk_l0 op st gc s = 1) : ¬ st s = -1 := by
  unfold lk_l0 at h
  by_cases c : ¬ st s = -1 ∧ (gc = 0 ∨ op (st s).toNatClampNeg = 4)
  · exact c.1
  · rw [if_neg c] at h
    exact absurd h (by decide)
def lk_lv (op st ro rt : Nat → Int32) (gc : Int32) (ni nr : Nat) (lv : Nat → Int32) : Nat → Int32 := lk_it (lk_sp ro rt st ni) nr ni (lk_as lv ni (lk_l0 op st gc))
/-- a live relocation with an undefined target -/
def lk_ud (ro rt st lv : Nat → Int32) (ni r : Nat) : Bool := decide (lv (ro r).toNatClampNeg = 1 ∧ ¬ lk_on rt st ni r = true)
/-- live bytes in a NOLOAD section -/
def lk_nl (kd st lv ld ow : Nat → Int32) (s : Nat) : Bool := decide (lv s = 1 ∧ ¬ kd s = 3 ∧ ld (ow (st s).toNatClampNeg).toNatClampNeg = 0)
/-- the output sections that the script begins -/
def lk_of (ng : Nat) (rg ld gp : Nat → Int32) (k : Nat) : Prop := (rg k = 0 ∧ ld k = 1 ∧ gp k = -1) ∨ (rg k = 1 ∧ (ld k = 0 ∨ ld k = 1) ∧ (gp k = -1 ∨ ∃ g, g < ng ∧ gp k = nI g))
theorem lk_S_o {op sa sb ox oy rg ld gp : Nat → Int32} {ns : Nat} (h : ∀ i, i < ns → lk_sc op sa sb ox oy rg ld gp i) : ∀ n, n ≤ ns → ∀ k, k < lk_no op n → lk_of (lk_ng op ns) rg ld gp k := by
  intro n
  induction n with
  | zero => intro _ k hk; exact absurd hk (Nat.not_lt_zero k)
  | succ n ih =>
    intro hn k hk
    by_cases c : k < lk_no op n
    · exact ih (by omega) k c
    · rw [lk_no_s] at hk
      by_cases h1 : op n = 1
      · rw [if_pos h1] at hk
        have ek : k = lk_no op n := by omega
        subst ek
        have h2 := h n (by omega)
        unfold lk_sc at h2
        rcases h2 with ⟨_, _, hab, _, _, e1, e2, e3⟩ | ⟨h2, _⟩ | ⟨h2, _⟩ | ⟨h2, _⟩ | ⟨h2, _⟩
        · unfold lk_of
          rw [e1, e2, e3]
          rcases hab with ⟨a1, a2, a3⟩ | ⟨a1, a2⟩
          · rw [a3, if_neg (by decide)]
            exact Or.inl ⟨a1, a2, rfl⟩
          · refine Or.inr ⟨a1, a2, ?_⟩
            by_cases hg : lk_ig op n = true
            · rw [if_pos hg]
              have g1 := lk_ig_p n hg
              have g2 := lk_ng_m (op := op) (i := n) (ns - n)
              rw [show n + (ns - n) = ns by omega] at g2
              exact Or.inr ⟨_, by omega, rfl⟩
            · rw [if_neg hg]
              exact Or.inl rfl
        · rw [h1] at h2; exact absurd h2 (by decide)
        · rw [h1] at h2; exact absurd h2 (by decide)
        · rw [h1] at h2; exact absurd h2 (by decide)
        · rw [h1] at h2; exact absurd h2 (by decide)
      · rw [if_neg h1] at hk
        exact absurd hk c
/-- a statement that takes sections: its owner on both sides -/
theorem lk_S_i {op sa sb ox oy rg ld gp : Nat → Int32} {ns i : Nat} (h : ∀ i, i < ns → lk_sc op sa sb ox oy rg ld gp i) (hi : i < ns) (ho : op i = 3 ∨ op i = 4) : lk_is op i = true ∧ 1 ≤ lk_no op i ∧ lk_no op i ≤ lk_no op ns ∧ ox i = nI (lk_no op i - 1) ∧ oy i = nI (lk_no op i - 1) := by
  have h2 := h i hi
  unfold lk_sc at h2
  have m := lk_no_m (op := op) (i := i) (ns - i)
  rw [show i + (ns - i) = ns by omega] at m
  rcases h2 with ⟨h2, _⟩ | ⟨_, h3, h4, h5⟩ | ⟨h2, _⟩ | ⟨h2, _⟩ | ⟨h2, _⟩
  · rcases ho with e | e <;> rw [e] at h2 <;> exact absurd h2 (by decide)
  · exact ⟨h3, lk_is_p i h3, m, h4, h5⟩
  · rcases ho with e | e <;> rw [e] at h2 <;> exact absurd h2 (by decide)
  · rcases ho with e | e <;> rw [e] at h2 <;> exact absurd h2 (by decide)
  · rcases ho with e | e <;> rw [e] at h2 <;> exact absurd h2 (by decide)
end
end
section
section
/-! I: writes to a stretch of memory -/
def lk_wr (m : Nat → Int32) (s e : Nat) (F : Nat → Int32) : Nat → Int32 := fun j => if s ≤ j ∧ j < e then F j else m j
theorem lk_wr_0 {m F : Nat → Int32} {s : Nat} : lk_wr m s s F = m := by
  funext j
  exact if_neg (by omega)
theorem lk_wr_e {m F : Nat → Int32} {s e : Nat} (h : e ≤ s) : lk_wr m s e F = m := by
  funext j
  exact if_neg (by omega)
theorem lk_wr_t {m F : Nat → Int32} {s e j : Nat} (h1 : s ≤ j) (h2 : j < e) : lk_wr m s e F j = F j := if_pos ⟨h1, h2⟩
theorem lk_wr_f {m F : Nat → Int32} {s e j : Nat} (h : ¬ (s ≤ j ∧ j < e)) : lk_wr m s e F j = m j := if_neg h
theorem lk_wr_s {m F : Nat → Int32} {s x : Nat} {v : Int32} (h : s ≤ x) (hv : v = F x) : upd (lk_wr m s x F) x v = lk_wr m s (x + 1) F := by
  funext j
  by_cases e : j = x
  · subst e
    rw [pk_us, lk_wr_t h (Nat.lt_succ_self j), hv]
  · rw [pk_un e]
    by_cases c : s ≤ j ∧ j < x
    · rw [lk_wr_t c.1 c.2, lk_wr_t c.1 (by omega)]
    · rw [lk_wr_f c, lk_wr_f (by omega)]
/-- X's one memory against Y's ROM and RAM -/
def lk_M (me rom ram : Nat → Int32) : Prop := (∀ j, j < 128 → me j = rom j) ∧ (∀ j, j < 128 → me (256 + j) = ram j)
theorem lk_M_wr {me rom ram F F' : Nat → Int32} {a b : Nat} (h : lk_M me rom ram) (ha : 256 ≤ a) (hF : ∀ j, j < 128 → a ≤ 256 + j → 256 + j < b → F (256 + j) = F' j) : lk_M (lk_wr me a b F) rom (lk_wr ram (a - 256) (b - 256) F') := by
  refine ⟨fun j hj => ?_, fun j hj => ?_⟩
  · rw [lk_wr_f (by omega)]; exact h.1 j hj
  · by_cases c : a ≤ 256 + j ∧ 256 + j < b
    · rw [lk_wr_t c.1 c.2, lk_wr_t (by omega) (by omega)]
      exact hF j hj c.1 c.2
    · rw [lk_wr_f c, lk_wr_f (by omega)]; exact h.2 j hj
end
section
/-! J: the walk's invariant, and what each statement does to it -/
def lk_ga (p : Nat → Bool) (al : Nat → Int32) : Nat → Int32
  | 0 => 1
  | s + 1 => if p s = true ∧ lk_ga p al s < al s then al s else lk_ga p al s
theorem lk_ga_s (p : Nat → Bool) (al : Nat → Int32) (s : Nat) : lk_ga p al (s + 1) = if p s = true ∧ lk_ga p al s < al s then al s else lk_ga p al s := rfl
theorem lk_ga_A {p : Nat → Bool} {al : Nat → Int32} : ∀ n, (∀ s, s < n → ∃ A, lk_A A ∧ al s = nI A) → ∃ A, lk_A A ∧ lk_ga p al n = nI A := by
  intro n
  induction n with
  | zero => intro _; exact ⟨1, Or.inl rfl, rfl⟩
  | succ n ih =>
    intro h
    rw [lk_ga_s]
    by_cases c : p n = true ∧ lk_ga p al n < al n
    · rw [if_pos c]; exact h n (Nat.lt_succ_self n)
    · rw [if_neg c]; exact ih (fun s hs => h s (by omega))
def lk_W (ni : Nat) (rg ld : Nat → Int32) (own sz : Nat → Nat) (pl : Nat → Prop) (B n nc ng : Nat) (ig : Bool) (C0 C1 : Nat) (V L D G0 GE IV : Nat → Nat) (ct vm lm dt gs ge xv os yg0 yg1 yv yl : Nat → Int32) (c0 c1 g0 yge grp k dot vma lma ing : Int32) : Prop :=
  lk_G rg ld ni own sz pl B n nc ng C0 C1 V L D G0 GE IV ∧
  (ct 0 = nI C0 ∧ ct 1 = nI C1 ∧ c0 = nI C0 ∧ c1 = nI C1) ∧
  (∀ j, j < n → vm j = nI (V j) ∧ lm j = nI (L j) ∧ dt j = nI (D j)) ∧
  (∀ j, j < nc → os j = nI (D j - V j)) ∧
  (∀ g, g < ng → gs g = nI (G0 g) ∧ ge g = nI (GE g)) ∧
  (∀ g, g < ng → (ig = true → g + 1 < ng) → yg0 g = nI (G0 g) ∧ yg1 g = nI (GE g)) ∧
  (∀ s, s < ni → pl s → xv s = nI (IV s) ∧ yv s = nI (IV s) ∧ yl s = nI (IV s) + (lm (own s) - vm (own s))) ∧
  (ing = (if ig = true then 1 else 0) ∧ grp = nI ng - 1 ∧ (ig = true → 1 ≤ ng ∧ g0 = nI (G0 (ng - 1)) ∧ yge = nI (GE (ng - 1)))) ∧
  ((nc < n → k = nI nc ∧ dot = nI (D nc) ∧ vma = nI (V nc) ∧ lma = nI (L nc)) ∧ (nc = n → k = -1))
theorem lk_W_pl {ni : Nat} {rg ld : Nat → Int32} {own sz : Nat → Nat} {pl pl' : Nat → Prop} {B B' n nc ng : Nat} {ig : Bool} {C0 C1 : Nat} {V L D G0 GE IV : Nat → Nat} {ct vm lm dt gs ge xv os yg0 yg1 yv yl : Nat → Int32} {c0 c1 g0 yge grp k dot vma lma ing : Int32}
    (h : lk_W ni rg ld own sz pl B n nc ng ig C0 C1 V L D G0 GE IV ct vm lm dt gs ge xv os yg0 yg1 yv yl c0 c1 g0 yge grp k dot vma lma ing) (hB : B ≤ B') (hp : ∀ s, s < ni → pl' s → pl s) :
    lk_W ni rg ld own sz pl' B' n nc ng ig C0 C1 V L D G0 GE IV ct vm lm dt gs ge xv os yg0 yg1 yv yl c0 c1 g0 yge grp k dot vma lma ing := by
  obtain ⟨h1, h2, h3, h4, h5, h6, h7, h8, h9⟩ := h
  exact ⟨lk_G_B (lk_G_pl h1 hp) hB, h2, h3, h4, h5, h6, fun s hs p => h7 s hs (hp s hs p), h8, h9⟩
/-- OP_SECTION -/
theorem lk_W_sec {ni : Nat} {rg ld : Nat → Int32} {own sz : Nat → Nat} {pl : Nat → Prop} {B n ng : Nat} {ig : Bool} {C0 C1 v l : Nat} {V L D G0 GE IV : Nat → Nat} {ct vm lm dt gs ge xv os yg0 yg1 yv yl : Nat → Int32} {c0 c1 g0 yge grp k dot vma lma ing : Int32}
    (h : lk_W ni rg ld own sz pl B n n ng ig C0 C1 V L D G0 GE IV ct vm lm dt gs ge xv os yg0 yg1 yv yl c0 c1 g0 yge grp k dot vma lma ing)
    (hv : v ≤ B) (hl : l ≤ B) (h256 : rg n = 1 → 256 ≤ v) (hr : rg n = 0 → l = v) (hc : ld n = 1 → C0 ≤ l) :
    lk_W ni rg ld own sz pl B (n + 1) n ng ig C0 C1 (lk_up V n v) (lk_up L n l) (lk_up D n v) G0 GE IV ct (upd vm n (nI v)) (upd lm n (nI l)) (upd dt n (nI v)) gs ge xv os yg0 yg1 yv yl c0 c1 g0 yge grp (nI n) (nI v) (nI v) (nI l) ing := by
  obtain ⟨h1, h2, h3, h4, h5, h6, h7, h8, h9⟩ := h
  refine ⟨lk_G_sec h1 hv hl h256 hr hc, h2, fun j hj => ?_, fun j hj => ?_, h5, h6, fun s hs p => ?_, h8, fun _ => ?_, fun z => by omega⟩
  · by_cases e : j = n
    · subst e
      rw [pk_us, pk_us, pk_us, lk_ups, lk_ups, lk_ups]
      exact ⟨rfl, rfl, rfl⟩
    · rw [pk_un e, pk_un e, pk_un e, lk_upn e, lk_upn e, lk_upn e]
      exact h3 j (by omega)
  · have e : j ≠ n := by omega
    rw [lk_upn e, lk_upn e]
    exact h4 j hj
  · have e : own s ≠ n := by
      have := (h1.2.2.2.2.2.2.1 s hs p).1
      omega
    rw [pk_un e, pk_un e]
    exact h7 s hs p
  · rw [lk_ups, lk_ups, lk_ups]
    exact ⟨rfl, rfl, rfl, rfl⟩
/-- the open section's dot moved -/
theorem lk_W_dot {ni : Nat} {rg ld : Nat → Int32} {own sz : Nat → Nat} {pl : Nat → Prop} {B B' nc ng : Nat} {ig : Bool} {C0 C1 x : Nat} {V L D G0 GE IV : Nat → Nat} {ct vm lm dt gs ge xv os yg0 yg1 yv yl : Nat → Int32} {c0 c1 g0 yge grp k dot vma lma ing : Int32}
    (h : lk_W ni rg ld own sz pl B (nc + 1) nc ng ig C0 C1 V L D G0 GE IV ct vm lm dt gs ge xv os yg0 yg1 yv yl c0 c1 g0 yge grp k dot vma lma ing)
    (hx : D nc ≤ x) (hB : B + (x - D nc) ≤ B') :
    lk_W ni rg ld own sz pl B' (nc + 1) nc ng ig C0 C1 V L (lk_up D nc x) G0 GE IV ct vm lm (upd dt nc (nI x)) gs ge xv os yg0 yg1 yv yl c0 c1 g0 yge grp k (nI x) vma lma ing := by
  obtain ⟨h1, h2, h3, h4, h5, h6, h7, h8, h9, h10⟩ := h
  refine ⟨lk_G_dot h1 hx hB, h2, fun j hj => ?_, fun j hj => ?_, h5, h6, h7, h8, fun z => ?_, h10⟩
  · by_cases e : j = nc
    · subst e
      rw [pk_us, lk_ups]
      exact ⟨(h3 j hj).1, (h3 j hj).2.1, rfl⟩
    · rw [pk_un e, lk_upn e]
      exact h3 j hj
  · rw [lk_upn (show j ≠ nc by omega)]
    exact h4 j hj
  · obtain ⟨a1, a2, a3, a4⟩ := h9 z
    rw [lk_ups]
    exact ⟨a1, rfl, a3, a4⟩
/-- an input section placed at x -/
theorem lk_W_put {ni : Nat} {rg ld : Nat → Int32} {own sz : Nat → Nat} {pl : Nat → Prop} {B B' nc ng : Nat} {ig : Bool} {C0 C1 x q : Nat} {V L D G0 GE IV : Nat → Nat} {ct vm lm dt gs ge xv os yg0 yg1 yv yl : Nat → Int32} {c0 c1 g0 yge grp k dot vma lma ing : Int32}
    (h : lk_W ni rg ld own sz pl B (nc + 1) nc ng ig C0 C1 V L D G0 GE IV ct vm lm dt gs ge xv os yg0 yg1 yv yl c0 c1 g0 yge grp k dot vma lma ing)
    (hq : ¬ pl q) (ho : own q = nc) (hx : D nc ≤ x) (hB : B + (x + sz q - D nc) ≤ B') :
    lk_W ni rg ld own sz (fun t => pl t ∨ t = q) B' (nc + 1) nc ng ig C0 C1 V L (lk_up D nc (x + sz q)) G0 GE (lk_up IV q x) ct vm lm (upd dt nc (nI (x + sz q))) gs ge (upd xv q (nI x)) os yg0 yg1 (upd yv q (nI x)) (upd yl q (nI x + (lma - vma))) c0 c1 g0 yge grp k (nI (x + sz q)) vma lma ing := by
  have hd := lk_W_dot h (x := x + sz q) (by omega) hB
  obtain ⟨_, h2, h3, h4, h5, h6, h7, h8, h9, h10⟩ := hd
  refine ⟨lk_G_put h.1 hq ho hx hB, h2, h3, h4, h5, h6, fun s hs p => ?_, h8, h9, h10⟩
  by_cases e : s = q
  · subst e
    obtain ⟨_, _, a3, a4⟩ := h9 (by omega)
    rw [pk_us, pk_us, pk_us, lk_ups, ho]
    obtain ⟨b1, b2, _⟩ := h3 nc (by omega)
    exact ⟨rfl, rfl, by rw [a3, a4, b1, b2]⟩
  · rw [pk_un e, pk_un e, pk_un e, lk_upn e]
    exact h7 s hs (p.resolve_right e)
/-- OP_END -/
theorem lk_W_end {ni : Nat} {rg ld : Nat → Int32} {own sz : Nat → Nat} {pl : Nat → Prop} {B nc ng : Nat} {ig : Bool} {C0 C1 C0' C1' : Nat} {V L D G0 GE GE' IV : Nat → Nat} {ct ct' vm lm dt gs ge ge' xv os yg0 yg1 yv yl : Nat → Int32} {c0 c1 c0' c1' g0 yge yge' grp k dot vma lma ing : Int32}
    (h : lk_W ni rg ld own sz pl B (nc + 1) nc ng ig C0 C1 V L D G0 GE IV ct vm lm dt gs ge xv os yg0 yg1 yv yl c0 c1 g0 yge grp k dot vma lma ing)
    (h0 : C0' ≤ B) (h0' : C0 ≤ C0') (hl : ld nc = 1 → L nc + (D nc - V nc) ≤ C0') (h1 : C1' ≤ B) (h1' : 256 ≤ C1')
    (hg : ∀ g, g < ng → GE' g = GE g ∨ (rg nc = 1 ∧ GE' g = D nc ∧ GE g ≤ D nc))
    (hct : ct' 0 = nI C0' ∧ ct' 1 = nI C1' ∧ c0' = nI C0' ∧ c1' = nI C1')
    (hge : ∀ g, g < ng → ge' g = nI (GE' g))
    (hyg : ∀ g, g < ng → (ig = true → g + 1 < ng) → GE' g = GE g)
    (hye : ig = true → yge' = nI (GE' (ng - 1))) :
    lk_W ni rg ld own sz pl B (nc + 1) (nc + 1) ng ig C0' C1' V L D G0 GE' IV ct' vm lm dt gs ge' xv (upd os nc (nI (D nc - V nc))) yg0 yg1 yv yl c0' c1' g0 yge' grp (-1) dot vma lma ing := by
  obtain ⟨a1, a2, a3, a4, a5, a6, a7, ⟨a8, a9, a10⟩, a11, a12⟩ := h
  refine ⟨lk_G_end a1 h0 h0' hl h1 h1' hg, hct, a3, fun j hj => ?_, fun g hgn => ⟨(a5 g hgn).1, hge g hgn⟩, fun g hgn hi => ?_, a7, ⟨a8, a9, fun e => ⟨(a10 e).1, (a10 e).2.1, hye e⟩⟩, fun z => absurd z (Nat.lt_irrefl _), fun _ => rfl⟩
  · by_cases e : j = nc
    · subst e; rw [pk_us]
    · rw [pk_un e]; exact a4 j (by omega)
  · rw [hyg g hgn hi]; exact a6 g hgn hi
/-- a counter moved outside any section and group -/
theorem lk_W_cnt {ni : Nat} {rg ld : Nat → Int32} {own sz : Nat → Nat} {pl : Nat → Prop} {B B' n ng : Nat} {ig : Bool} {C0 C1 C0' C1' : Nat} {V L D G0 GE IV : Nat → Nat} {ct ct' vm lm dt gs ge xv os yg0 yg1 yv yl : Nat → Int32} {c0 c1 c0' c1' g0 yge grp k dot vma lma ing : Int32}
    (h : lk_W ni rg ld own sz pl B n n ng ig C0 C1 V L D G0 GE IV ct vm lm dt gs ge xv os yg0 yg1 yv yl c0 c1 g0 yge grp k dot vma lma ing)
    (hB : B ≤ B') (h0 : C0' ≤ B') (h0' : C0 ≤ C0') (h1 : C1' ≤ B') (h1' : 256 ≤ C1')
    (hct : ct' 0 = nI C0' ∧ ct' 1 = nI C1' ∧ c0' = nI C0' ∧ c1' = nI C1') :
    lk_W ni rg ld own sz pl B' n n ng ig C0' C1' V L D G0 GE IV ct' vm lm dt gs ge xv os yg0 yg1 yv yl c0' c1' g0 yge grp k dot vma lma ing := by
  obtain ⟨a1, a2, a3, a4, a5, a6, a7, a8, a9⟩ := h
  exact ⟨lk_G_cnt a1 hB h0 h0' h1 h1', hct, a3, a4, a5, a6, a7, a8, a9⟩
/-- OP_OVERLAY -/
theorem lk_W_ovl {ni : Nat} {rg ld : Nat → Int32} {own sz : Nat → Nat} {pl : Nat → Prop} {B n ng : Nat} {C0 C1 : Nat} {V L D G0 GE IV : Nat → Nat} {ct vm lm dt gs ge xv os yg0 yg1 yv yl : Nat → Int32} {c0 c1 g0 yge grp k dot vma lma ing : Int32}
    (h : lk_W ni rg ld own sz pl B n n ng false C0 C1 V L D G0 GE IV ct vm lm dt gs ge xv os yg0 yg1 yv yl c0 c1 g0 yge grp k dot vma lma ing) :
    lk_W ni rg ld own sz pl B n n (ng + 1) true C0 C1 V L D (lk_up G0 ng C1) (lk_up GE ng C1) IV ct vm lm dt (upd gs ng (nI C1)) (upd ge ng (nI C1)) xv os yg0 yg1 yv yl c0 c1 (nI C1) (nI C1) (nI ng) k dot vma lma 1 := by
  obtain ⟨a1, a2, a3, a4, a5, a6, a7, ⟨a8, a9, a10⟩, a11⟩ := h
  refine ⟨lk_G_ovl a1, a2, a3, a4, fun g hg => ?_, fun g hg hi => ?_, a7, ⟨rfl, ?_, fun _ => ⟨by omega, ?_, ?_⟩⟩, a11⟩
  · by_cases e : g = ng
    · subst e
      rw [pk_us, pk_us, lk_ups, lk_ups]
      exact ⟨rfl, rfl⟩
    · rw [pk_un e, pk_un e, lk_upn e, lk_upn e]
      exact a5 g (by omega)
  · have := hi rfl
    have e : g ≠ ng := by omega
    rw [lk_upn e, lk_upn e]
    exact a6 g (by omega) (fun z => absurd z (by decide))
  · exact (nI_pred ng).symm
  · rw [Nat.add_sub_cancel, lk_ups]
  · rw [Nat.add_sub_cancel, lk_ups]
/-- OP_OVERLAY_END -/
theorem lk_W_ove {ni : Nat} {rg ld : Nat → Int32} {own sz : Nat → Nat} {pl : Nat → Prop} {B n ng : Nat} {C0 C1 : Nat} {V L D G0 GE IV : Nat → Nat} {ct vm lm dt gs ge xv os yg0 yg1 yv yl : Nat → Int32} {c0 c1 g0 yge grp k dot vma lma ing : Int32}
    (h : lk_W ni rg ld own sz pl B n n (ng + 1) true C0 C1 V L D G0 GE IV ct vm lm dt gs ge xv os yg0 yg1 yv yl c0 c1 g0 yge grp k dot vma lma ing) :
    lk_W ni rg ld own sz pl B n n (ng + 1) false C0 (GE ng) V L D G0 GE IV (upd ct 1 (nI (GE ng))) vm lm dt gs ge xv os (upd yg0 ng g0) (upd yg1 ng yge) yv yl c0 yge g0 yge grp k dot vma lma 0 := by
  obtain ⟨a1, ⟨b1, b2, b3, b4⟩, a3, a4, a5, a6, a7, ⟨a8, a9, a10⟩, a11⟩ := h
  obtain ⟨_, e1, e2⟩ := a10 rfl
  rw [Nat.add_sub_cancel] at e1 e2
  obtain ⟨d1, d2, d3, _⟩ := a1.2.2.2.2.2.1 ng (by omega)
  refine ⟨lk_G_cnt a1 (Nat.le_refl B) a1.1.1 (Nat.le_refl C0) d3 (by omega), ⟨?_, pk_us, b3, e2⟩, a3, a4, a5, fun g hg _ => ?_, a7, ⟨rfl, a9, fun z => absurd z (by decide)⟩, a11⟩
  · rw [pk_un (by decide)]; exact b1
  · by_cases e : g = ng
    · subst e
      rw [pk_us, pk_us]
      exact ⟨e1, e2⟩
    · rw [pk_un e, pk_un e]
      exact a6 g hg (fun _ => by omega)
end
end
section
section
/-! K: the relation -/
def lk_rv (ni : Nat) (ro rf ty rt ra yv yl : Nat → Int32) (r : Nat) : Int32 := if nI ni ≤ rt r then 0 else if ty r = 1 then yv (rt r).toNatClampNeg + ra r else if ty r = 2 then yl (rt r).toNatClampNeg + ra r else yv (rt r).toNatClampNeg + ra r - (yv (ro r).toNatClampNeg + rf r)
def lk_lo (ni : Nat) (ro rf ty rt ra yv yl : Nat → Int32) (r : Nat) : Int32 := lk_rv ni ro rf ty rt ra yv yl r &&& 255
def lk_hi (ni : Nat) (ro rf ty rt ra yv yl : Nat → Int32) (r : Nat) : Int32 := lk_rv ni ro rf ty rt ra yv yl r >>> ((8 : Int32) &&& 31) &&& 255
/-- Y's byte p of section s -/
def lk_by (ni nr : Nat) (fb by_ ro rf ty rt ra yv yl : Nat → Int32) (s p : Nat) : Int32 := lk_rb ro rf (lk_lo ni ro rf ty rt ra yv yl) (lk_hi ni ro rf ty rt ra yv yl) s p (by_ (fb s + nI p).toNatClampNeg) nr
/-- Y's image of section k at the address x -/
def lk_ip (oy kd st lv yv ln : Nat → Int32) (k x : Int32) (s : Nat) : Bool := decide (lv s = 1 ∧ ¬ kd s = 3 ∧ 0 ≤ st s ∧ oy (st s).toNatClampNeg = k ∧ yv s ≤ x ∧ x < yv s + ln s)
def lk_ib (ni nr : Nat) (oy kd st lv ln fb by_ ro rf ty rt ra yv yl : Nat → Int32) (k x : Int32) : Int32 := lk_fv (lk_ip oy kd st lv yv ln k x) (fun s => lk_by ni nr fb by_ ro rf ty rt ra yv yl s (x - yv s).toNatClampNeg) ni 0
def lk_L (ph : Int32) (R0 R1 ns no ng ni nr : Nat) (fc0 fc1 : Int32) (ct me ox oy rg ld gp vm lm dt gs ge gr kd st lv xv fb ln by_ ro rf ty rt ra os rs yg0 yg1 yv yl : Nat → Int32) : Prop := ∃ V L D IV : Nat → Nat,
  (ct 0 = fc0 ∧ ct 1 = fc1) ∧
  (∀ k, k < no → vm k = nI (V k) ∧ lm k = nI (L k) ∧ dt k = nI (D k) ∧ os k = nI (D k - V k) ∧ V k ≤ D k ∧ (rg k = 1 → 256 ≤ V k ∧ D k ≤ 256 + R1) ∧ (rg k = 0 → D k ≤ R0) ∧ (ld k = 1 → L k + (D k - V k) ≤ R0)) ∧
  (∀ g, g < ng → ∃ a b, gs g = nI a ∧ yg0 g = nI a ∧ ge g = nI b ∧ yg1 g = nI b ∧ 256 ≤ a ∧ a ≤ b ∧ b < 2 ^ 30 ∧ (b = a ∨ b ≤ 256 + R1)) ∧
  (∀ s, s < ni → lv s = 1 → ∃ q k, q < ns ∧ st s = nI q ∧ ox q = nI k ∧ oy q = nI k ∧ k < no ∧ xv s = nI (IV s) ∧ yv s = nI (IV s) ∧ IV s < 2 ^ 30 ∧ yl s = nI (IV s) + (lm k - vm k)) ∧
  (∀ k off, k < no → off < D k - V k → (ld k = 1 → me (L k + off) = lk_ib ni nr oy kd st lv ln fb by_ ro rf ty rt ra yv yl (nI k) (nI (V k + off))) ∧ (¬ ld k = 1 → lk_ib ni nr oy kd st lv ln fb by_ ro rf ty rt ra yv yl (nI k) (nI (V k + off)) = 0)) ∧
  (∀ g, g < ng → gr g = -1 ∨ ∃ k, k < no ∧ gr g = nI k ∧ gp k = nI g) ∧
  (∀ k, k < no → rs k = if ¬ gp k = -1 ∧ gr (gp k).toNatClampNeg = nI k then 1 else 0) ∧
  (ph = 1 → ∀ g, g < ng → gr g = lk_ff (fun k => decide (gp k = nI g)) no 0)
def lk_Z (rs : Nat → Int32) (R0 R1 : Nat) : Prop := rs 0 = nI R0 ∧ rs 1 = nI R1 ∧ 16 ≤ R0 ∧ R0 ≤ 128 ∧ 16 ≤ R1 ∧ R1 ≤ 128
def i_Rel (_ : Nat) (u : SX) (v : SY) : Prop := ∃ (ns no ng ni nb nr R0 R1 : Nat) (xphase xopenOut xopenGroup yinGroup yfinalC0 yfinalC1 : Int32) (xregionSize xcounter xmemory xstmtOp xstmtA xstmtB xstmtOwner xoutRegion xoutLoaded xoutGroup xoutAlign xoutVma xoutLma xoutDot xgroupStart xgroupEnd xgroupResident xinKind xinId xinAlign xinSize xinFirstByte xinStmt xinLive xinVma xfedBytes xrelocOwner xrelocOffset xrelocType xrelocTarget xrelocAddend ystOut youtSize youtRes ygStart ygEnd yinBss yinLen yinVma yinLma yrom yram : Nat → Int32), u = (xphase, (nI ns), xopenOut, xopenGroup, (nI no), (nI ng), (nI ni), (nI nb), (nI nr), xregionSize, xcounter, xmemory, xstmtOp, xstmtA, xstmtB, xstmtOwner, xoutRegion, xoutLoaded, xoutGroup, xoutAlign, xoutVma, xoutLma, xoutDot, xgroupStart, xgroupEnd, xgroupResident, xinKind, xinId, xinAlign, xinSize, xinFirstByte, xinStmt, xinLive, xinVma, xfedBytes, xrelocOwner, xrelocOffset, xrelocType, xrelocTarget, xrelocAddend) ∧ v = ((nI R0), (nI R1), xphase, (nI ns), (nI no), (nI ng), (nI ni), (nI nb), (nI nr), xopenOut, yinGroup, (nI ni - 1), yfinalC0, yfinalC1, xstmtOp, xstmtA, xstmtB, ystOut, xoutRegion, xoutLoaded, xoutGroup, xoutVma, xoutLma, youtSize, xoutAlign, youtRes, ygStart, ygEnd, xinKind, xinId, xinAlign, yinBss, xinFirstByte, yinLen, xinStmt, xinLive, yinVma, yinLma, xfedBytes, xrelocOwner, xrelocOffset, xrelocType, xrelocTarget, xrelocAddend, yrom, yram) ∧
  lk_S ns no ng xstmtOp xstmtA xstmtB xstmtOwner ystOut xoutRegion xoutLoaded xoutGroup xopenOut xopenGroup yinGroup ∧
  lk_N ni nb xinKind xinAlign xinSize xinFirstByte yinBss yinLen ∧
  lk_Q nr ni xinKind yinLen xrelocOwner xrelocOffset xrelocTarget ∧
  lk_Z xregionSize R0 R1 ∧
  lk_M xmemory yrom yram ∧
  ((xphase = 0 ∧ ∀ j, j < 128 → yrom j = 255) ∨ ((xphase = 1 ∨ xphase = 2) ∧ lk_L xphase R0 R1 ns no ng ni nr yfinalC0 yfinalC1 xcounter xmemory xstmtOwner ystOut xoutRegion xoutLoaded xoutGroup xoutVma xoutLma xoutDot xgroupStart xgroupEnd xgroupResident xinKind xinStmt xinLive xinVma xinFirstByte yinLen xfedBytes xrelocOwner xrelocOffset xrelocType xrelocTarget xrelocAddend youtSize youtRes ygStart ygEnd yinVma yinLma))
theorem i_up {k : Nat} {u : SX} {v : SY} (h : i_Rel k u v) : i_Rel (k + 5) u v := h
end
end
section
section
/-! L: what holds behind the walk -/
def lk_ov (R0 R1 : Nat) (rg ld : Nat → Int32) (V L D : Nat → Nat) (k : Nat) : Bool := decide ((if rg k = 0 then R0 else 256 + R1) < D k ∨ (ld k = 1 ∧ R0 < L k + (D k - V k)))
theorem lk_W_fin {ni : Nat} {rg ld gp : Nat → Int32} {own sz : Nat → Nat} {pl : Nat → Prop} {B n ng R0 R1 : Nat} {C0 C1 : Nat} {V L D G0 GE IV : Nat → Nat} {ct vm lm dt gs ge xv os yg0 yg1 yv yl : Nat → Int32} {c0 c1 g0 yge grp k dot vma lma ing : Int32}
    (h : lk_W ni rg ld own sz pl B n n ng false C0 C1 V L D G0 GE IV ct vm lm dt gs ge xv os yg0 yg1 yv yl c0 c1 g0 yge grp k dot vma lma ing) (hB : B < 2 ^ 30) (ho : ∀ k, k < n → lk_of ng rg ld gp k) (hv : lk_ex (lk_ov R0 R1 rg ld V L D) n 0 = false) :
    (∀ k, k < n → vm k = nI (V k) ∧ lm k = nI (L k) ∧ dt k = nI (D k) ∧ os k = nI (D k - V k) ∧ V k ≤ D k ∧ (rg k = 1 → 256 ≤ V k ∧ D k ≤ 256 + R1) ∧ (rg k = 0 → D k ≤ R0) ∧ (ld k = 1 → L k + (D k - V k) ≤ R0)) ∧
    (∀ g, g < ng → ∃ a b, gs g = nI a ∧ yg0 g = nI a ∧ ge g = nI b ∧ yg1 g = nI b ∧ 256 ≤ a ∧ a ≤ b ∧ b < 2 ^ 30 ∧ (b = a ∨ b ≤ 256 + R1)) := by
  obtain ⟨⟨_, b2, _, _, _, b6, _, _⟩, _, h3, h4, h5, h6, _⟩ := h
  have hk : ∀ k, k < n → (rg k = 1 → 256 ≤ V k ∧ D k ≤ 256 + R1) ∧ (rg k = 0 → D k ≤ R0) ∧ (ld k = 1 → L k + (D k - V k) ≤ R0) := by
    intro k hk
    have hn := lk_ex_no n 0 hv k (Nat.zero_le k) (by omega)
    have hn2 : ¬ ((if rg k = 0 then R0 else 256 + R1) < D k ∨ (ld k = 1 ∧ R0 < L k + (D k - V k))) := fun z => hn (decide_eq_true z)
    refine ⟨fun e => ⟨(b2 k hk).2.2.2.1 e, ?_⟩, fun e => ?_, fun e => ?_⟩
    · rw [e, if_neg (by decide)] at hn2
      have : ¬ 256 + R1 < D k := fun z => hn2 (Or.inl z)
      omega
    · rw [if_pos e] at hn2
      have : ¬ R0 < D k := fun z => hn2 (Or.inl z)
      omega
    · have : ¬ R0 < L k + (D k - V k) := fun z => hn2 (Or.inr ⟨e, z⟩)
      omega
  refine ⟨fun k hkn => ?_, fun g hg => ?_⟩
  · obtain ⟨e1, e2, e3⟩ := h3 k hkn
    exact ⟨e1, e2, e3, h4 k hkn, (b2 k hkn).1, hk k hkn⟩
  · obtain ⟨e1, e2⟩ := h5 g hg
    obtain ⟨e3, e4⟩ := h6 g hg (fun z => absurd z (by decide))
    obtain ⟨d1, d2, d3, d4⟩ := b6 g hg
    refine ⟨G0 g, GE g, e1, e3, e2, e4, d1, d2, by omega, ?_⟩
    rcases d4 with d4 | ⟨k, hkn, er, ed⟩
    · exact Or.inl d4
    · have := ((hk k hkn).1 er).2
      exact Or.inr (by omega)
/-- X's zeroes -/
def lk_I1 (ld : Nat → Int32) (L D V : Nat → Nat) (me : Nat → Int32) (k : Nat) (m : Nat → Int32) : Prop :=
  (∀ q, q < k → ld q = 1 → ∀ o, o < D q - V q → m (L q + o) = 0) ∧
  (∀ j, (∀ q, q < k → ld q = 1 → ¬ (L q ≤ j ∧ j < L q + (D q - V q))) → m j = me j)
theorem lk_I1_0 {ld : Nat → Int32} {L D V : Nat → Nat} {me : Nat → Int32} : lk_I1 ld L D V me 0 me := ⟨fun q h => absurd h (Nat.not_lt_zero q), fun _ _ => rfl⟩
theorem lk_I1_n {ld : Nat → Int32} {L D V : Nat → Nat} {me m : Nat → Int32} {k : Nat} (h : lk_I1 ld L D V me k m) (hn : ¬ ld k = 1) : lk_I1 ld L D V me (k + 1) m := by
  refine ⟨fun q hq e => ?_, fun j hj => h.2 j (fun q hq e => hj q (by omega) e)⟩
  have : q ≠ k := fun z => hn (z ▸ e)
  exact h.1 q (by omega) e
theorem lk_I1_s {ld : Nat → Int32} {L D V : Nat → Nat} {me m : Nat → Int32} {k : Nat} (h : lk_I1 ld L D V me k m) (hl : ld k = 1) : lk_I1 ld L D V me (k + 1) (lk_wr m (L k) (L k + (D k - V k)) (fun _ => 0)) := by
  refine ⟨fun q hq e o ho => ?_, fun j hj => ?_⟩
  · by_cases c : L k ≤ L q + o ∧ L q + o < L k + (D k - V k)
    · rw [lk_wr_t c.1 c.2]
    · rw [lk_wr_f c]
      by_cases eq : q = k
      · subst eq; exact absurd ⟨by omega, by omega⟩ c
      · exact h.1 q (by omega) e o ho
  · rw [lk_wr_f (hj k (by omega) hl)]
    exact h.2 j (fun q hq e => hj q (by omega) e)
/-- Y's ROM while it is written: mf is X's at the end -/
def lk_J (ld : Nat → Int32) (L D V : Nat → Nat) (mf : Nat → Int32) (k : Nat) (rom : Nat → Int32) : Prop :=
  (∀ q, q < k → ld q = 1 → ∀ o, o < D q - V q → rom (L q + o) = mf (L q + o)) ∧
  (∀ j, j < 128 → (∀ q, q < k → ld q = 1 → ¬ (L q ≤ j ∧ j < L q + (D q - V q))) → rom j = 255)
theorem lk_J_0 {ld : Nat → Int32} {L D V : Nat → Nat} {mf rom : Nat → Int32} (h : ∀ j, j < 128 → rom j = 255) : lk_J ld L D V mf 0 rom := ⟨fun q h => absurd h (Nat.not_lt_zero q), fun j hj _ => h j hj⟩
theorem lk_J_n {ld : Nat → Int32} {L D V : Nat → Nat} {mf rom : Nat → Int32} {k : Nat} (h : lk_J ld L D V mf k rom) (hn : ¬ ld k = 1) : lk_J ld L D V mf (k + 1) rom := by
  refine ⟨fun q hq e => ?_, fun j hj hc => h.2 j hj (fun q hq e => hc q (by omega) e)⟩
  have : q ≠ k := fun z => hn (z ▸ e)
  exact h.1 q (by omega) e
theorem lk_J_s {ld : Nat → Int32} {L D V : Nat → Nat} {mf rom F : Nat → Int32} {k : Nat} (h : lk_J ld L D V mf k rom) (hl : ld k = 1) (hF : ∀ o, o < D k - V k → F (L k + o) = mf (L k + o)) : lk_J ld L D V mf (k + 1) (lk_wr rom (L k) (L k + (D k - V k)) F) := by
  refine ⟨fun q hq e o ho => ?_, fun j hj hc => ?_⟩
  · by_cases c : L k ≤ L q + o ∧ L q + o < L k + (D k - V k)
    · rw [lk_wr_t c.1 c.2]
      have g := hF (L q + o - L k) (by omega)
      rw [show L k + (L q + o - L k) = L q + o by omega] at g
      exact g
    · rw [lk_wr_f c]
      by_cases eq : q = k
      · subst eq; exact absurd ⟨by omega, by omega⟩ c
      · exact h.1 q (by omega) e o ho
  · rw [lk_wr_f (hc k (by omega) hl)]
    exact h.2 j hj (fun q hq e => hc q (by omega) e)
end
end
section
section
/-! M: the invariant at statement i -/
def lk_nc (op : Nat → Int32) (i : Nat) : Nat := lk_no op i - (if lk_is op i = true then 1 else 0)
theorem lk_nc_f {op : Nat → Int32} {i : Nat} (h : lk_is op i = false) : lk_nc op i = lk_no op i := by
  unfold lk_nc
  rw [h, if_neg (by decide)]
  exact Nat.sub_zero _
theorem lk_nc_t {op : Nat → Int32} {i : Nat} (h : lk_is op i = true) : lk_no op i = lk_nc op i + 1 := by
  have := lk_is_p i h
  unfold lk_nc
  rw [if_pos h]
  omega
def lk_pl (st lv : Nat → Int32) (i s : Nat) : Prop := lv s = 1 ∧ ∃ q, q < i ∧ st s = nI q
def lk_hA (ni ns : Nat) (op st lv : Nat → Int32) : Prop := ns ≤ 32 ∧ ∀ s, s < ni → lv s = 1 → ∃ q, q < ns ∧ (op q = 3 ∨ op q = 4) ∧ st s = nI q
theorem lk_pl_n {ni ns i : Nat} {op st lv : Nat → Int32} (hA : lk_hA ni ns op st lv) (hi : i < ns) (h : ¬ (op i = 3 ∨ op i = 4)) : ∀ s, s < ni → lk_pl st lv (i + 1) s → lk_pl st lv i s := by
  intro s hs ⟨hl, q, hq, e⟩
  refine ⟨hl, q, ?_, e⟩
  obtain ⟨q', h1, h2, h3⟩ := hA.2 s hs hl
  have h32 := hA.1
  have e2 : q = q' := (nI_eq (by omega) (by omega)).mp (e.symm.trans h3)
  have : q ≠ i := fun z => h (by rw [← z, e2]; exact h2)
  omega
end
section
variable {ni ns i : Nat} {op rg ld st lv : Nat → Int32} {own sz : Nat → Nat} {C0 C1 : Nat} {V L D G0 GE IV : Nat → Nat} {ct vm lm dt gs ge xv os yg0 yg1 yv yl : Nat → Int32} {c0 c1 g0 yge grp k dot vma lma ing : Int32}
def lk_WI (ni : Nat) (op rg ld st lv : Nat → Int32) (own sz : Nat → Nat) (i : Nat) (C0 C1 : Nat) (V L D G0 GE IV : Nat → Nat) (ct vm lm dt gs ge xv os yg0 yg1 yv yl : Nat → Int32) (c0 c1 g0 yge grp k dot vma lma ing : Int32) : Prop :=
  lk_W ni rg ld own sz (lk_pl st lv i) (2000 + 4700 * i) (lk_no op i) (lk_nc op i) (lk_ng op i) (lk_ig op i) C0 C1 V L D G0 GE IV ct vm lm dt gs ge xv os yg0 yg1 yv yl c0 c1 g0 yge grp k dot vma lma ing
/-- at the beginning -/
theorem lk_WI_0 (h0 : ct 0 = 0) (h1 : ct 1 = 256) : lk_WI ni op rg ld st lv own sz 0 0 256 V L D G0 GE IV ct vm lm dt gs ge xv os yg0 yg1 yv yl 0 256 g0 yge (-1) (-1) dot vma lma 0 := by
  refine ⟨lk_G_0 (by omega) (fun s _ p => ?_), ⟨h0, h1, rfl, rfl⟩, fun j h => absurd h (Nat.not_lt_zero j), fun j h => absurd h (Nat.not_lt_zero j), fun j h => absurd h (Nat.not_lt_zero j), fun j h => absurd h (Nat.not_lt_zero j), fun s _ p => ?_, ⟨rfl, (show (-1 : Int32) = nI 0 - 1 by decide), fun z => Bool.noConfusion z⟩, fun z => absurd z (Nat.lt_irrefl 0), fun _ => rfl⟩
  · obtain ⟨_, q, hq, _⟩ := p
    exact absurd hq (Nat.not_lt_zero q)
  · obtain ⟨_, q, hq, _⟩ := p
    exact absurd hq (Nat.not_lt_zero q)
/-- OP_SECTION -/
theorem lk_V_sec {v l : Nat} (h : lk_WI ni op rg ld st lv own sz i C0 C1 V L D G0 GE IV ct vm lm dt gs ge xv os yg0 yg1 yv yl c0 c1 g0 yge grp k dot vma lma ing) (hA : lk_hA ni ns op st lv) (hi : i < ns) (ho : op i = 1) (his : lk_is op i = false)
    (hv : v ≤ 2000 + 4700 * i + 15) (hl : l ≤ 2000 + 4700 * i + 15) (h256 : rg (lk_no op i) = 1 → 256 ≤ v) (hr : rg (lk_no op i) = 0 → l = v) (hc : ld (lk_no op i) = 1 → C0 ≤ l) :
    lk_WI ni op rg ld st lv own sz (i + 1) C0 C1 (lk_up V (lk_no op i) v) (lk_up L (lk_no op i) l) (lk_up D (lk_no op i) v) G0 GE IV ct (upd vm (lk_no op i) (nI v)) (upd lm (lk_no op i) (nI l)) (upd dt (lk_no op i) (nI v)) gs ge xv os yg0 yg1 yv yl c0 c1 g0 yge grp (nI (lk_no op i)) (nI v) (nI v) (nI l) ing := by
  have e1 : lk_no op (i + 1) = lk_no op i + 1 := by rw [lk_no_s, if_pos ho]
  have e2 : lk_nc op (i + 1) = lk_no op i := by
    unfold lk_nc
    rw [e1, lk_is_s, if_pos ho, if_pos rfl]
    omega
  have e3 : lk_ng op (i + 1) = lk_ng op i := by rw [lk_ng_s, ho, if_neg (by decide)]; rfl
  have e4 : lk_ig op (i + 1) = lk_ig op i := by rw [lk_ig_s, ho, if_neg (by decide), if_neg (by decide)]
  unfold lk_WI at h ⊢
  rw [e1, e2, e3, e4]
  rw [lk_nc_f his] at h
  exact lk_W_sec (lk_W_pl h (B' := 2000 + 4700 * (i + 1)) (by omega) (lk_pl_n hA hi (by rw [ho]; decide))) (by omega) (by omega) h256 hr hc
/-- a dot op in the open section -/
theorem lk_V_dot {x : Nat} (h : lk_WI ni op rg ld st lv own sz i C0 C1 V L D G0 GE IV ct vm lm dt gs ge xv os yg0 yg1 yv yl c0 c1 g0 yge grp k dot vma lma ing) (hA : lk_hA ni ns op st lv) (hi : i < ns) (ho : op i = 5 ∨ op i = 6 ∨ op i = 7) (his : lk_is op i = true)
    (hx : D (lk_nc op i) ≤ x) (hx2 : x ≤ D (lk_nc op i) + 1023) :
    lk_WI ni op rg ld st lv own sz (i + 1) C0 C1 V L (lk_up D (lk_nc op i) x) G0 GE IV ct vm lm (upd dt (lk_nc op i) (nI x)) gs ge xv os yg0 yg1 yv yl c0 c1 g0 yge grp k (nI x) vma lma ing := by
  have n1 : ¬ op i = 1 := by rcases ho with e | e | e <;> rw [e] <;> decide
  have n2 : ¬ op i = 2 := by rcases ho with e | e | e <;> rw [e] <;> decide
  have n3 : ¬ (op i = 3 ∨ op i = 4) := by rcases ho with e | e | e <;> rw [e] <;> decide
  have n8 : ¬ op i = 8 := by rcases ho with e | e | e <;> rw [e] <;> decide
  have n9 : ¬ op i = 9 := by rcases ho with e | e | e <;> rw [e] <;> decide
  have e1 : lk_no op (i + 1) = lk_no op i := by rw [lk_no_s, if_neg n1]; rfl
  have e2 : lk_nc op (i + 1) = lk_nc op i := by
    unfold lk_nc
    rw [e1, lk_is_s, if_neg n1, if_neg n2]
  have e3 : lk_ng op (i + 1) = lk_ng op i := by rw [lk_ng_s, if_neg n8]; rfl
  have e4 : lk_ig op (i + 1) = lk_ig op i := by rw [lk_ig_s, if_neg n8, if_neg n9]
  unfold lk_WI at h ⊢
  rw [e1, e2, e3, e4]
  rw [lk_nc_t his] at h ⊢
  exact lk_W_pl (lk_W_dot h (B' := 2000 + 4700 * (i + 1)) hx (by omega)) (Nat.le_refl _) (lk_pl_n hA hi n3)
/-- OP_END -/
theorem lk_V_end {C0' C1' : Nat} {GE' : Nat → Nat} {ct' ge' : Nat → Int32} {c0' c1' yge' : Int32} (h : lk_WI ni op rg ld st lv own sz i C0 C1 V L D G0 GE IV ct vm lm dt gs ge xv os yg0 yg1 yv yl c0 c1 g0 yge grp k dot vma lma ing) (hA : lk_hA ni ns op st lv) (hi : i < ns) (ho : op i = 2) (his : lk_is op i = true)
    (h0 : C0' ≤ 2000 + 4700 * i) (h0' : C0 ≤ C0') (hl : ld (lk_nc op i) = 1 → L (lk_nc op i) + (D (lk_nc op i) - V (lk_nc op i)) ≤ C0') (h1 : C1' ≤ 2000 + 4700 * i) (h1' : 256 ≤ C1')
    (hg : ∀ g, g < lk_ng op i → GE' g = GE g ∨ (rg (lk_nc op i) = 1 ∧ GE' g = D (lk_nc op i) ∧ GE g ≤ D (lk_nc op i)))
    (hct : ct' 0 = nI C0' ∧ ct' 1 = nI C1' ∧ c0' = nI C0' ∧ c1' = nI C1')
    (hge : ∀ g, g < lk_ng op i → ge' g = nI (GE' g))
    (hyg : ∀ g, g < lk_ng op i → (lk_ig op i = true → g + 1 < lk_ng op i) → GE' g = GE g)
    (hye : lk_ig op i = true → yge' = nI (GE' (lk_ng op i - 1))) :
    lk_WI ni op rg ld st lv own sz (i + 1) C0' C1' V L D G0 GE' IV ct' vm lm dt gs ge' xv (upd os (lk_nc op i) (nI (D (lk_nc op i) - V (lk_nc op i)))) yg0 yg1 yv yl c0' c1' g0 yge' grp (-1) dot vma lma ing := by
  have e1 : lk_no op (i + 1) = lk_no op i := by rw [lk_no_s, ho, if_neg (by decide)]; rfl
  have e2 : lk_nc op (i + 1) = lk_no op i := by
    rw [lk_nc_f, e1]
    rw [lk_is_s, ho, if_neg (by decide), if_pos rfl]
  have e3 : lk_ng op (i + 1) = lk_ng op i := by rw [lk_ng_s, ho, if_neg (by decide)]; rfl
  have e4 : lk_ig op (i + 1) = lk_ig op i := by rw [lk_ig_s, ho, if_neg (by decide), if_neg (by decide)]
  unfold lk_WI at h ⊢
  rw [e1, e2, e3, e4]
  rw [lk_nc_t his] at h ⊢
  exact lk_W_pl (lk_W_end h h0 h0' hl h1 h1' hg hct hge hyg hye) (by omega) (lk_pl_n hA hi (by rw [ho]; decide))
/-- a counter op outside -/
theorem lk_V_cnt {C0' C1' : Nat} {ct' : Nat → Int32} {c0' c1' : Int32} (h : lk_WI ni op rg ld st lv own sz i C0 C1 V L D G0 GE IV ct vm lm dt gs ge xv os yg0 yg1 yv yl c0 c1 g0 yge grp k dot vma lma ing) (hA : lk_hA ni ns op st lv) (hi : i < ns) (ho : op i = 5 ∨ op i = 6 ∨ op i = 7) (his : lk_is op i = false)
    (h0 : C0' ≤ 2000 + 4700 * i + 1023) (h0' : C0 ≤ C0') (h1 : C1' ≤ 2000 + 4700 * i + 1023) (h1' : 256 ≤ C1')
    (hct : ct' 0 = nI C0' ∧ ct' 1 = nI C1' ∧ c0' = nI C0' ∧ c1' = nI C1') :
    lk_WI ni op rg ld st lv own sz (i + 1) C0' C1' V L D G0 GE IV ct' vm lm dt gs ge xv os yg0 yg1 yv yl c0' c1' g0 yge grp k dot vma lma ing := by
  have n1 : ¬ op i = 1 := by rcases ho with e | e | e <;> rw [e] <;> decide
  have n2 : ¬ op i = 2 := by rcases ho with e | e | e <;> rw [e] <;> decide
  have n3 : ¬ (op i = 3 ∨ op i = 4) := by rcases ho with e | e | e <;> rw [e] <;> decide
  have n8 : ¬ op i = 8 := by rcases ho with e | e | e <;> rw [e] <;> decide
  have n9 : ¬ op i = 9 := by rcases ho with e | e | e <;> rw [e] <;> decide
  have e1 : lk_no op (i + 1) = lk_no op i := by rw [lk_no_s, if_neg n1]; rfl
  have e2 : lk_nc op (i + 1) = lk_no op i := by
    rw [lk_nc_f, e1]
    rw [lk_is_s, if_neg n1, if_neg n2]; exact his
  have e3 : lk_ng op (i + 1) = lk_ng op i := by rw [lk_ng_s, if_neg n8]; rfl
  have e4 : lk_ig op (i + 1) = lk_ig op i := by rw [lk_ig_s, if_neg n8, if_neg n9]
  unfold lk_WI at h ⊢
  rw [e1, e2, e3, e4]
  rw [lk_nc_f his] at h
  exact lk_W_pl (lk_W_cnt h (B' := 2000 + 4700 * (i + 1)) (by omega) (by omega) h0' (by omega) h1' hct) (Nat.le_refl _) (lk_pl_n hA hi n3)
/-- OP_OVERLAY -/
theorem lk_V_ovl (h : lk_WI ni op rg ld st lv own sz i C0 C1 V L D G0 GE IV ct vm lm dt gs ge xv os yg0 yg1 yv yl c0 c1 g0 yge grp k dot vma lma ing) (hA : lk_hA ni ns op st lv) (hi : i < ns) (ho : op i = 8) (his : lk_is op i = false) (hig : lk_ig op i = false) :
    lk_WI ni op rg ld st lv own sz (i + 1) C0 C1 V L D (lk_up G0 (lk_ng op i) C1) (lk_up GE (lk_ng op i) C1) IV ct vm lm dt (upd gs (lk_ng op i) (nI C1)) (upd ge (lk_ng op i) (nI C1)) xv os yg0 yg1 yv yl c0 c1 (nI C1) (nI C1) (nI (lk_ng op i)) k dot vma lma 1 := by
  have e1 : lk_no op (i + 1) = lk_no op i := by rw [lk_no_s, ho, if_neg (by decide)]; rfl
  have e2 : lk_nc op (i + 1) = lk_no op i := by
    rw [lk_nc_f, e1]
    rw [lk_is_s, ho, if_neg (by decide), if_neg (by decide)]; exact his
  have e3 : lk_ng op (i + 1) = lk_ng op i + 1 := by rw [lk_ng_s, ho, if_pos rfl]
  have e4 : lk_ig op (i + 1) = true := by rw [lk_ig_s, ho, if_pos rfl]
  unfold lk_WI at h ⊢
  rw [e1, e2, e3, e4]
  rw [lk_nc_f his, hig] at h
  exact lk_W_pl (lk_W_ovl h) (by omega) (lk_pl_n hA hi (by rw [ho]; decide))
/-- OP_OVERLAY_END -/
theorem lk_V_ove {g : Nat} (h : lk_WI ni op rg ld st lv own sz i C0 C1 V L D G0 GE IV ct vm lm dt gs ge xv os yg0 yg1 yv yl c0 c1 g0 yge grp k dot vma lma ing) (hA : lk_hA ni ns op st lv) (hi : i < ns) (ho : op i = 9) (his : lk_is op i = false) (hig : lk_ig op i = true) (hg : lk_ng op i = g + 1) :
    lk_WI ni op rg ld st lv own sz (i + 1) C0 (GE g) V L D G0 GE IV (upd ct 1 (nI (GE g))) vm lm dt gs ge xv os (upd yg0 g g0) (upd yg1 g yge) yv yl c0 yge g0 yge grp k dot vma lma 0 := by
  have e1 : lk_no op (i + 1) = lk_no op i := by rw [lk_no_s, ho, if_neg (by decide)]; rfl
  have e2 : lk_nc op (i + 1) = lk_no op i := by
    rw [lk_nc_f, e1]
    rw [lk_is_s, ho, if_neg (by decide), if_neg (by decide)]; exact his
  have e3 : lk_ng op (i + 1) = lk_ng op i := by rw [lk_ng_s, ho, if_neg (by decide)]; rfl
  have e4 : lk_ig op (i + 1) = false := by rw [lk_ig_s, ho, if_neg (by decide), if_pos rfl]
  unfold lk_WI at h ⊢
  rw [e1, e2, e3, e4]
  rw [lk_nc_f his, hig, hg] at h
  rw [hg]
  exact lk_W_pl (lk_W_ove h) (by omega) (lk_pl_n hA hi (by rw [ho]; decide))
/-- inside OP_INPUT, OP_KEEP: the sections below t are through -/
def lk_pp (st lv : Nat → Int32) (i t s : Nat) : Prop := lk_pl st lv i s ∨ (lv s = 1 ∧ st s = nI i ∧ s < t)
def lk_WP (ni : Nat) (op rg ld st lv : Nat → Int32) (own sz : Nat → Nat) (i t : Nat) (C0 C1 : Nat) (V L D G0 GE IV : Nat → Nat) (ct vm lm dt gs ge xv os yg0 yg1 yv yl : Nat → Int32) (c0 c1 g0 yge grp k dot vma lma ing : Int32) : Prop :=
  lk_W ni rg ld own sz (lk_pp st lv i t) (2000 + 4700 * i + 271 * t) (lk_nc op i + 1) (lk_nc op i) (lk_ng op i) (lk_ig op i) C0 C1 V L D G0 GE IV ct vm lm dt gs ge xv os yg0 yg1 yv yl c0 c1 g0 yge grp k dot vma lma ing
theorem lk_WP_0 (h : lk_WI ni op rg ld st lv own sz i C0 C1 V L D G0 GE IV ct vm lm dt gs ge xv os yg0 yg1 yv yl c0 c1 g0 yge grp k dot vma lma ing) (his : lk_is op i = true) :
    lk_WP ni op rg ld st lv own sz i 0 C0 C1 V L D G0 GE IV ct vm lm dt gs ge xv os yg0 yg1 yv yl c0 c1 g0 yge grp k dot vma lma ing := by
  unfold lk_WI at h
  unfold lk_WP
  rw [lk_nc_t his] at h
  exact lk_W_pl h (by omega) (fun s _ p => p.elim id (fun z => absurd z.2.2 (Nat.not_lt_zero s)))
theorem lk_WP_n {t : Nat} (h : lk_WP ni op rg ld st lv own sz i t C0 C1 V L D G0 GE IV ct vm lm dt gs ge xv os yg0 yg1 yv yl c0 c1 g0 yge grp k dot vma lma ing) (hn : ¬ (lv t = 1 ∧ st t = nI i)) :
    lk_WP ni op rg ld st lv own sz i (t + 1) C0 C1 V L D G0 GE IV ct vm lm dt gs ge xv os yg0 yg1 yv yl c0 c1 g0 yge grp k dot vma lma ing := by
  refine lk_W_pl h (by omega) (fun s _ p => p.elim Or.inl (fun z => Or.inr ⟨z.1, z.2.1, ?_⟩))
  have h1 := z.2.2
  have : s ≠ t := fun e => hn ⟨e ▸ z.1, e ▸ z.2.1⟩
  omega
theorem lk_WP_s {t x : Nat} (h : lk_WP ni op rg ld st lv own sz i t C0 C1 V L D G0 GE IV ct vm lm dt gs ge xv os yg0 yg1 yv yl c0 c1 g0 yge grp k dot vma lma ing) (hi : i < 2 ^ 31) (hs : st t = nI i) (ho : own t = lk_nc op i) (hx : D (lk_nc op i) ≤ x) (hx2 : x ≤ D (lk_nc op i) + 15) (hz : sz t ≤ 256) :
    lk_WP ni op rg ld st lv own sz i (t + 1) C0 C1 V L (lk_up D (lk_nc op i) (x + sz t)) G0 GE (lk_up IV t x) ct vm lm (upd dt (lk_nc op i) (nI (x + sz t))) gs ge (upd xv t (nI x)) os yg0 yg1 (upd yv t (nI x)) (upd yl t (nI x + (lma - vma))) c0 c1 g0 yge grp k (nI (x + sz t)) vma lma ing := by
  have hq : ¬ lk_pp st lv i t t := by
    intro z
    rcases z with ⟨_, q, hq, e⟩ | z
    · have := (nI_eq (by omega) hi).mp (e.symm.trans hs)
      omega
    · exact absurd z.2.2 (Nat.lt_irrefl t)
  refine lk_W_pl (lk_W_put h hq ho hx (B' := 2000 + 4700 * i + 271 * (t + 1)) (by omega)) (Nat.le_refl _) (fun s _ p => ?_)
  rcases p with p | ⟨p1, p2, p3⟩
  · exact Or.inl (Or.inl p)
  · by_cases e : s = t
    · exact Or.inr e
    · exact Or.inl (Or.inr ⟨p1, p2, by omega⟩)
theorem lk_WP_e (h : lk_WP ni op rg ld st lv own sz i ni C0 C1 V L D G0 GE IV ct vm lm dt gs ge xv os yg0 yg1 yv yl c0 c1 g0 yge grp k dot vma lma ing) (hn : ni ≤ 16) (ho : op i = 3 ∨ op i = 4) (his : lk_is op i = true) :
    lk_WI ni op rg ld st lv own sz (i + 1) C0 C1 V L D G0 GE IV ct vm lm dt gs ge xv os yg0 yg1 yv yl c0 c1 g0 yge grp k dot vma lma ing := by
  have n1 : ¬ op i = 1 := by rcases ho with e | e <;> rw [e] <;> decide
  have n2 : ¬ op i = 2 := by rcases ho with e | e <;> rw [e] <;> decide
  have n8 : ¬ op i = 8 := by rcases ho with e | e <;> rw [e] <;> decide
  have n9 : ¬ op i = 9 := by rcases ho with e | e <;> rw [e] <;> decide
  have e1 : lk_no op (i + 1) = lk_no op i := by rw [lk_no_s, if_neg n1]; rfl
  have e2 : lk_nc op (i + 1) = lk_nc op i := by
    unfold lk_nc
    rw [e1, lk_is_s, if_neg n1, if_neg n2]
  have e3 : lk_ng op (i + 1) = lk_ng op i := by rw [lk_ng_s, if_neg n8]; rfl
  have e4 : lk_ig op (i + 1) = lk_ig op i := by rw [lk_ig_s, if_neg n8, if_neg n9]
  unfold lk_WP at h
  unfold lk_WI
  rw [e1, e2, e3, e4, lk_nc_t his]
  refine lk_W_pl h (by omega) (fun s hs p => ?_)
  obtain ⟨p1, q, hq, e⟩ := p
  by_cases z : q = i
  · exact Or.inr ⟨p1, z ▸ e, hs⟩
  · exact Or.inl ⟨p1, q, by omega, e⟩
end
end
section
section
/-! N: what startup and loadOverlay keep -/
theorem lk_fv_1 {p : Nat → Bool} {w : Nat → Int32} {n k0 : Nat} (h0 : k0 < n) (h : ∀ i, i < n → p i = true → i = k0) : lk_fv p w n 0 = if p k0 = true then w k0 else 0 := by
  rcases lk_fv_or p w n 0 with ⟨e, hn⟩ | ⟨i, _, h2, h3, h4⟩
  · rw [e, if_neg (hn k0 (Nat.zero_le k0) (by omega))]
  · have e := h i (by omega) h3
    subst e
    rw [h4, if_pos h3]
theorem lk_fv_n {p : Nat → Bool} {w : Nat → Int32} {n : Nat} (h : ∀ i, i < n → ¬ p i = true) : lk_fv p w n 0 = 0 := by
  rcases lk_fv_or p w n 0 with ⟨e, _⟩ | ⟨i, _, h2, h3, _⟩
  · exact e
  · exact absurd h3 (h i (by omega))
section
variable {ph ph' : Int32} {R0 R1 ns no ng ni nr : Nat} {fc0 fc1 : Int32} {ct me me' ox oy rg ld gp vm lm dt gs ge gr kd st lv xv fb ln by_ ro rf ty rt ra os rs yg0 yg1 yv yl : Nat → Int32}
theorem lk_L_st (h : lk_L ph R0 R1 ns no ng ni nr fc0 fc1 ct me ox oy rg ld gp vm lm dt gs ge gr kd st lv xv fb ln by_ ro rf ty rt ra os rs yg0 yg1 yv yl) (hR : R0 ≤ 128) (hm : ∀ j, j < 128 → me' j = me j) (hp : ¬ ph' = 1) :
    lk_L ph' R0 R1 ns no ng ni nr fc0 fc1 ct me' ox oy rg ld gp vm lm dt gs ge gr kd st lv xv fb ln by_ ro rf ty rt ra os rs yg0 yg1 yv yl := by
  obtain ⟨V, L, D, IV, h1, h2, h3, h4, h5, h6, h7, _⟩ := h
  refine ⟨V, L, D, IV, h1, h2, h3, h4, fun k off hk ho => ⟨fun hl => ?_, (h5 k off hk ho).2⟩, h6, h7, fun z => absurd z hp⟩
  have := (h2 k hk).2.2.2.2.2.2.2 hl
  rw [hm _ (by omega)]
  exact (h5 k off hk ho).1 hl
/-- Y's marks of a group's members -/
def lk_om (gp rs : Nat → Int32) (g k n : Nat) : Nat → Int32 := fun j => if j < n ∧ gp j = nI g then (if j = k then 1 else 0) else rs j
theorem lk_om_0 {gp rs : Nat → Int32} {g k : Nat} : lk_om gp rs g k 0 = rs := by
  funext j
  exact if_neg (fun z => Nat.not_lt_zero j z.1)
theorem lk_om_n {gp rs : Nat → Int32} {g k n : Nat} (h : ¬ gp n = nI g) : lk_om gp rs g k (n + 1) = lk_om gp rs g k n := by
  funext j
  unfold lk_om
  by_cases c : j < n ∧ gp j = nI g
  · rw [if_pos c, if_pos ⟨by omega, c.2⟩]
  · rw [if_neg c, if_neg]
    intro z
    have : j ≠ n := fun e => h (e ▸ z.2)
    exact c ⟨by omega, z.2⟩
theorem lk_om_s {gp rs : Nat → Int32} {g k n : Nat} {x : Int32} (h : gp n = nI g) (hx : x = if n = k then 1 else 0) : upd (lk_om gp rs g k n) n x = lk_om gp rs g k (n + 1) := by
  funext j
  by_cases e : j = n
  · subst e
    rw [pk_us, hx]
    exact (if_pos ⟨Nat.lt_succ_self j, h⟩).symm
  · rw [pk_un e]
    unfold lk_om
    by_cases c : j < n ∧ gp j = nI g
    · rw [if_pos c, if_pos (show j < n + 1 ∧ gp j = nI g from ⟨by omega, c.2⟩)]
    · rw [if_neg c, if_neg (fun z => c ⟨by omega, z.2⟩)]
theorem lk_L_ov {g k : Nat} (h : lk_L ph R0 R1 ns no ng ni nr fc0 fc1 ct me ox oy rg ld gp vm lm dt gs ge gr kd st lv xv fb ln by_ ro rf ty rt ra os rs yg0 yg1 yv yl) (hR : R0 ≤ 128) (hm : ∀ j, j < 128 → me' j = me j) (hp : ¬ ph' = 1)
    (hn : no ≤ 8) (hn4 : ng ≤ 4) (ho : ∀ j, j < no → gp j = -1 ∨ ∃ q, q < ng ∧ gp j = nI q) (hk : k < no) (hg : g < ng) (e : gp k = nI g) :
    lk_L ph' R0 R1 ns no ng ni nr fc0 fc1 ct me' ox oy rg ld gp vm lm dt gs ge (upd gr g (nI k)) kd st lv xv fb ln by_ ro rf ty rt ra os (lk_om gp rs g k no) yg0 yg1 yv yl := by
  obtain ⟨V, L, D, IV, h1, h2, h3, h4, h5, h6, h7, _⟩ := h
  refine ⟨V, L, D, IV, h1, h2, h3, h4, fun k off hk ho => ⟨fun hl => ?_, (h5 k off hk ho).2⟩, fun q hq => ?_, fun j hj => ?_, fun z => absurd z hp⟩
  · have := (h2 k hk).2.2.2.2.2.2.2 hl
    rw [hm _ (by omega)]
    exact (h5 k off hk ho).1 hl
  · by_cases c : q = g
    · subst c
      rw [pk_us]
      exact Or.inr ⟨k, hk, rfl, e⟩
    · rw [pk_un c]
      exact h6 q hq
  · rcases ho j hj with z | ⟨q, hq, z⟩
    · have n1 : ¬ gp j = nI g := by rw [z]; exact fun y => lk_nn1 (by omega) y.symm
      have e1 : lk_om gp rs g k no j = rs j := if_neg (fun y => n1 y.2)
      rw [e1, h7 j hj, if_neg (fun y => y.1 z), if_neg (fun y => y.1 z)]
    · have nz : ¬ gp j = -1 := by rw [z]; exact lk_nn1 (by omega)
      by_cases c : q = g
      · subst c
        have e1 : lk_om gp rs q k no j = if j = k then 1 else 0 := if_pos ⟨hj, z⟩
        rw [e1, z, nI_clamp (by omega), pk_us]
        by_cases ej : j = k
        · subst ej
          rw [if_pos rfl, if_pos ⟨lk_nn1 (by omega), rfl⟩]
        · rw [if_neg ej, if_neg]
          intro y
          exact ej ((nI_eq (by omega) (by omega)).mp y.2).symm
      · have n1 : ¬ gp j = nI g := by rw [z, nI_eq (by omega) (by omega)]; exact c
        have e1 : lk_om gp rs g k no j = rs j := if_neg (fun y => n1 y.2)
        rw [e1, h7 j hj, z, nI_clamp (by omega), pk_un c]
end
end
end
section
section
/-! O: the getters -/
theorem lk_34 {x : Int32} (a : 3 < x) (b : x < 4) : False := by
  rw [Int32.lt_iff_toInt_lt] at a b
  have h3 : (3 : Int32).toInt = 3 := by decide
  have h4 : (4 : Int32).toInt = 4 := by decide
  omega
theorem lk_info {Q : Prop} (q : Q) {ns no ng ni nb nr R0 R1 : Nat} {xphase xopenOut xopenGroup yinGroup yfinalC0 yfinalC1 : Int32} {xregionSize xcounter xmemory xstmtOp xstmtA xstmtB xstmtOwner xoutRegion xoutLoaded xoutGroup xoutAlign xoutVma xoutLma xoutDot xgroupStart xgroupEnd xgroupResident xinKind xinId xinAlign xinSize xinFirstByte xinStmt xinLive xinVma xfedBytes xrelocOwner xrelocOffset xrelocType xrelocTarget xrelocAddend ystOut youtSize youtRes ygStart ygEnd yinBss yinLen yinVma yinLma yrom yram : Nat → Int32} {v1 : Int32} (z0 : nI R0 = xregionSize 0) (z1 : nI R1 = xregionSize 1) (c0 : ¬ xphase = 0 → yfinalC0 = xcounter 0) (c1 : ¬ xphase = 0 → yfinalC1 = xcounter 1) : wpX_info (fun r => wpY_info (fun r' => r' = r ∧ Q) ((nI R0), (nI R1), xphase, (nI ns), (nI no), (nI ng), (nI ni), (nI nb), (nI nr), xopenOut, yinGroup, (nI ni - 1), yfinalC0, yfinalC1, xstmtOp, xstmtA, xstmtB, ystOut, xoutRegion, xoutLoaded, xoutGroup, xoutVma, xoutLma, youtSize, xoutAlign, youtRes, ygStart, ygEnd, xinKind, xinId, xinAlign, yinBss, xinFirstByte, yinLen, xinStmt, xinLive, yinVma, yinLma, xfedBytes, xrelocOwner, xrelocOffset, xrelocType, xrelocTarget, xrelocAddend, yrom, yram) v1) (xphase, (nI ns), xopenOut, xopenGroup, (nI no), (nI ng), (nI ni), (nI nb), (nI nr), xregionSize, xcounter, xmemory, xstmtOp, xstmtA, xstmtB, xstmtOwner, xoutRegion, xoutLoaded, xoutGroup, xoutAlign, xoutVma, xoutLma, xoutDot, xgroupStart, xgroupEnd, xgroupResident, xinKind, xinId, xinAlign, xinSize, xinFirstByte, xinStmt, xinLive, xinVma, xfedBytes, xrelocOwner, xrelocOffset, xrelocType, xrelocTarget, xrelocAddend) v1 := by
  by_cases hp : xphase = 0
  · by_cases h0 : v1 = 0
    · subst h0
      repeat (first | refine br_t (by assumption) ?_ | refine br_f (by assumption) ?_ | refine br_t (by decide) ?_ | refine br_f (by decide) ?_ | refine nm_e ?_ | refine And.intro (by assumption) ?_)
      first | exact q | exact ⟨rfl, q⟩
    by_cases h1 : v1 = 1
    · subst h1
      repeat (first | refine br_t (by assumption) ?_ | refine br_f (by assumption) ?_ | refine br_t (by decide) ?_ | refine br_f (by decide) ?_ | refine nm_e ?_ | refine And.intro (by assumption) ?_)
      first | exact q | exact ⟨rfl, q⟩
    by_cases h2 : v1 = 2
    · subst h2
      repeat (first | refine br_t (by assumption) ?_ | refine br_f (by assumption) ?_ | refine br_t (by decide) ?_ | refine br_f (by decide) ?_ | refine nm_e ?_ | refine And.intro (by assumption) ?_)
      first | exact q | exact ⟨rfl, q⟩
    by_cases h3 : v1 = 3
    · subst h3
      repeat (first | refine br_t (by assumption) ?_ | refine br_f (by assumption) ?_ | refine br_t (by decide) ?_ | refine br_f (by decide) ?_ | refine nm_e ?_ | refine And.intro (by assumption) ?_)
      first | exact q | exact ⟨rfl, q⟩
    by_cases h4 : v1 = 4
    · subst h4
      repeat (first | refine br_t (by assumption) ?_ | refine br_f (by assumption) ?_ | refine br_t (by decide) ?_ | refine br_f (by decide) ?_ | refine nm_e ?_ | refine And.intro (by assumption) ?_)
      first | exact q | exact ⟨rfl, q⟩
    by_cases h5 : v1 = 5
    · subst h5
      repeat (first | refine br_t (by assumption) ?_ | refine br_f (by assumption) ?_ | refine br_t (by decide) ?_ | refine br_f (by decide) ?_ | refine nm_e ?_ | refine And.intro (by assumption) ?_)
      first | exact q | exact ⟨rfl, q⟩
    by_cases h6 : v1 = 6
    · subst h6
      repeat (first | refine br_t (by assumption) ?_ | refine br_f (by assumption) ?_ | refine br_t (by decide) ?_ | refine br_f (by decide) ?_ | refine nm_e ?_ | refine And.intro (by assumption) ?_)
      first | exact q | exact ⟨rfl, q⟩
    by_cases h7 : v1 = 7
    · subst h7
      repeat (first | refine br_t (by assumption) ?_ | refine br_f (by assumption) ?_ | refine br_t (by decide) ?_ | refine br_f (by decide) ?_ | refine nm_e ?_ | refine And.intro (by assumption) ?_)
      first | exact q | exact ⟨z0, q⟩
    by_cases h8 : v1 = 8
    · subst h8
      repeat (first | refine br_t (by assumption) ?_ | refine br_f (by assumption) ?_ | refine br_t (by decide) ?_ | refine br_f (by decide) ?_ | refine nm_e ?_ | refine And.intro (by assumption) ?_)
      first | exact q | exact ⟨z1, q⟩
    by_cases h9 : v1 = 9
    · subst h9
      repeat (first | refine br_t (by assumption) ?_ | refine br_f (by assumption) ?_ | refine br_t (by decide) ?_ | refine br_f (by decide) ?_ | refine nm_e ?_ | refine And.intro (by assumption) ?_)
      first | exact q | exact ⟨rfl, q⟩
    by_cases h10 : v1 = 10
    · subst h10
      repeat (first | refine br_t (by assumption) ?_ | refine br_f (by assumption) ?_ | refine br_t (by decide) ?_ | refine br_f (by decide) ?_ | refine nm_e ?_ | refine And.intro (by assumption) ?_)
      first | exact q | exact ⟨rfl, q⟩
    by_cases ha : v1 < 0
    · repeat (first | refine br_t (by assumption) ?_ | refine br_f (by assumption) ?_ | refine br_t (by decide) ?_ | refine br_f (by decide) ?_ | refine nm_e ?_ | refine And.intro (by assumption) ?_)
      first | exact q | exact ⟨rfl, q⟩
    by_cases hb : 10 < v1
    · repeat (first | refine br_t (by assumption) ?_ | refine br_f (by assumption) ?_ | refine br_t (by decide) ?_ | refine br_f (by decide) ?_ | refine nm_e ?_ | refine And.intro (by assumption) ?_)
      first | exact q | exact ⟨rfl, q⟩
    repeat (first | refine br_t (by assumption) ?_ | refine br_f (by assumption) ?_ | refine br_t (by decide) ?_ | refine br_f (by decide) ?_ | refine nm_e ?_ | refine And.intro (by assumption) ?_)
    first | trivial | exact q | exact ⟨rfl, q⟩
  · by_cases h0 : v1 = 0
    · subst h0
      repeat (first | refine br_t (by assumption) ?_ | refine br_f (by assumption) ?_ | refine br_t (by decide) ?_ | refine br_f (by decide) ?_ | refine nm_e ?_ | refine And.intro (by assumption) ?_)
      first | exact q | exact ⟨rfl, q⟩
    by_cases h1 : v1 = 1
    · subst h1
      repeat (first | refine br_t (by assumption) ?_ | refine br_f (by assumption) ?_ | refine br_t (by decide) ?_ | refine br_f (by decide) ?_ | refine nm_e ?_ | refine And.intro (by assumption) ?_)
      first | exact q | exact ⟨rfl, q⟩
    by_cases h2 : v1 = 2
    · subst h2
      repeat (first | refine br_t (by assumption) ?_ | refine br_f (by assumption) ?_ | refine br_t (by decide) ?_ | refine br_f (by decide) ?_ | refine nm_e ?_ | refine And.intro (by assumption) ?_)
      first | exact q | exact ⟨rfl, q⟩
    by_cases h3 : v1 = 3
    · subst h3
      repeat (first | refine br_t (by assumption) ?_ | refine br_f (by assumption) ?_ | refine br_t (by decide) ?_ | refine br_f (by decide) ?_ | refine nm_e ?_ | refine And.intro (by assumption) ?_)
      first | exact q | exact ⟨rfl, q⟩
    by_cases h4 : v1 = 4
    · subst h4
      repeat (first | refine br_t (by assumption) ?_ | refine br_f (by assumption) ?_ | refine br_t (by decide) ?_ | refine br_f (by decide) ?_ | refine nm_e ?_ | refine And.intro (by assumption) ?_)
      first | exact q | exact ⟨rfl, q⟩
    by_cases h5 : v1 = 5
    · subst h5
      repeat (first | refine br_t (by assumption) ?_ | refine br_f (by assumption) ?_ | refine br_t (by decide) ?_ | refine br_f (by decide) ?_ | refine nm_e ?_ | refine And.intro (by assumption) ?_)
      first | exact q | exact ⟨rfl, q⟩
    by_cases h6 : v1 = 6
    · subst h6
      repeat (first | refine br_t (by assumption) ?_ | refine br_f (by assumption) ?_ | refine br_t (by decide) ?_ | refine br_f (by decide) ?_ | refine nm_e ?_ | refine And.intro (by assumption) ?_)
      first | exact q | exact ⟨rfl, q⟩
    by_cases h7 : v1 = 7
    · subst h7
      repeat (first | refine br_t (by assumption) ?_ | refine br_f (by assumption) ?_ | refine br_t (by decide) ?_ | refine br_f (by decide) ?_ | refine nm_e ?_ | refine And.intro (by assumption) ?_)
      first | exact q | exact ⟨z0, q⟩
    by_cases h8 : v1 = 8
    · subst h8
      repeat (first | refine br_t (by assumption) ?_ | refine br_f (by assumption) ?_ | refine br_t (by decide) ?_ | refine br_f (by decide) ?_ | refine nm_e ?_ | refine And.intro (by assumption) ?_)
      first | exact q | exact ⟨z1, q⟩
    by_cases h9 : v1 = 9
    · subst h9
      repeat (first | refine br_t (by assumption) ?_ | refine br_f (by assumption) ?_ | refine br_t (by decide) ?_ | refine br_f (by decide) ?_ | refine nm_e ?_ | refine And.intro (by assumption) ?_)
      first | exact q | exact ⟨c0 hp, q⟩
    by_cases h10 : v1 = 10
    · subst h10
      repeat (first | refine br_t (by assumption) ?_ | refine br_f (by assumption) ?_ | refine br_t (by decide) ?_ | refine br_f (by decide) ?_ | refine nm_e ?_ | refine And.intro (by assumption) ?_)
      first | exact q | exact ⟨c1 hp, q⟩
    by_cases ha : v1 < 0
    · repeat (first | refine br_t (by assumption) ?_ | refine br_f (by assumption) ?_ | refine br_t (by decide) ?_ | refine br_f (by decide) ?_ | refine nm_e ?_ | refine And.intro (by assumption) ?_)
      first | exact q | exact ⟨rfl, q⟩
    by_cases hb : 10 < v1
    · repeat (first | refine br_t (by assumption) ?_ | refine br_f (by assumption) ?_ | refine br_t (by decide) ?_ | refine br_f (by decide) ?_ | refine nm_e ?_ | refine And.intro (by assumption) ?_)
      first | exact q | exact ⟨rfl, q⟩
    repeat (first | refine br_t (by assumption) ?_ | refine br_f (by assumption) ?_ | refine br_t (by decide) ?_ | refine br_f (by decide) ?_ | refine nm_e ?_ | refine And.intro (by assumption) ?_)
    first | trivial | exact q | exact ⟨rfl, q⟩
theorem lk_inInfo {Q : Prop} (q : Q) {ns no ng ni nb nr R0 R1 : Nat} {xphase xopenOut xopenGroup yinGroup yfinalC0 yfinalC1 : Int32} {xregionSize xcounter xmemory xstmtOp xstmtA xstmtB xstmtOwner xoutRegion xoutLoaded xoutGroup xoutAlign xoutVma xoutLma xoutDot xgroupStart xgroupEnd xgroupResident xinKind xinId xinAlign xinSize xinFirstByte xinStmt xinLive xinVma xfedBytes xrelocOwner xrelocOffset xrelocType xrelocTarget xrelocAddend ystOut youtSize youtRes ygStart ygEnd yinBss yinLen yinVma yinLma yrom yram : Nat → Int32} {v1 v2 : Int32} (h : v1 < 0 ∨ (¬ v1 < 0 ∧ nI ni ≤ v1 ∧ ¬ v1 < nI ni) ∨ (¬ v1 < 0 ∧ ¬ nI ni ≤ v1 ∧ v1 < nI ni ∧ vp_in v1 16 ∧ (xinKind v1.toNatClampNeg = 3 → yinBss v1.toNatClampNeg = xinSize v1.toNatClampNeg) ∧ (¬ xinKind v1.toNatClampNeg = 3 → yinLen v1.toNatClampNeg = xinSize v1.toNatClampNeg) ∧ (¬ xphase = 0 → xinLive v1.toNatClampNeg = 1 → vp_in (xinStmt v1.toNatClampNeg) 32 ∧ vp_in (xstmtOwner (xinStmt v1.toNatClampNeg).toNatClampNeg) 8 ∧ ystOut (xinStmt v1.toNatClampNeg).toNatClampNeg = xstmtOwner (xinStmt v1.toNatClampNeg).toNatClampNeg ∧ yinVma v1.toNatClampNeg = xinVma v1.toNatClampNeg ∧ yinLma v1.toNatClampNeg = xinVma v1.toNatClampNeg + xoutLma (xstmtOwner (xinStmt v1.toNatClampNeg).toNatClampNeg).toNatClampNeg - xoutVma (xstmtOwner (xinStmt v1.toNatClampNeg).toNatClampNeg).toNatClampNeg))) : wpX_inInfo (fun r => wpY_inInfo (fun r' => r' = r ∧ Q) ((nI R0), (nI R1), xphase, (nI ns), (nI no), (nI ng), (nI ni), (nI nb), (nI nr), xopenOut, yinGroup, (nI ni - 1), yfinalC0, yfinalC1, xstmtOp, xstmtA, xstmtB, ystOut, xoutRegion, xoutLoaded, xoutGroup, xoutVma, xoutLma, youtSize, xoutAlign, youtRes, ygStart, ygEnd, xinKind, xinId, xinAlign, yinBss, xinFirstByte, yinLen, xinStmt, xinLive, yinVma, yinLma, xfedBytes, xrelocOwner, xrelocOffset, xrelocType, xrelocTarget, xrelocAddend, yrom, yram) v1 v2) (xphase, (nI ns), xopenOut, xopenGroup, (nI no), (nI ng), (nI ni), (nI nb), (nI nr), xregionSize, xcounter, xmemory, xstmtOp, xstmtA, xstmtB, xstmtOwner, xoutRegion, xoutLoaded, xoutGroup, xoutAlign, xoutVma, xoutLma, xoutDot, xgroupStart, xgroupEnd, xgroupResident, xinKind, xinId, xinAlign, xinSize, xinFirstByte, xinStmt, xinLive, xinVma, xfedBytes, xrelocOwner, xrelocOffset, xrelocType, xrelocTarget, xrelocAddend) v1 v2 := by
  rcases h with a1 | ⟨a1, a2, a3⟩ | ⟨a1, a2, a3, a4, a5, a6, a7⟩
  · repeat (first | refine br_t (by assumption) ?_ | refine br_f (by assumption) ?_ | refine br_t (by decide) ?_ | refine br_f (by decide) ?_ | refine nm_e ?_ | refine And.intro (by assumption) ?_)
    first | exact q | exact ⟨rfl, q⟩
  · repeat (first | refine br_t (by assumption) ?_ | refine br_f (by assumption) ?_ | refine br_t (by decide) ?_ | refine br_f (by decide) ?_ | refine nm_e ?_ | refine And.intro (by assumption) ?_)
    first | exact q | exact ⟨rfl, q⟩
  · by_cases h0 : v2 = 0
    · subst h0
      repeat (first | refine br_t (by assumption) ?_ | refine br_f (by assumption) ?_ | refine br_t (by decide) ?_ | refine br_f (by decide) ?_ | refine nm_e ?_ | refine And.intro (by assumption) ?_)
      first | exact q | exact ⟨rfl, q⟩
    by_cases h1 : v2 = 1
    · subst h1
      repeat (first | refine br_t (by assumption) ?_ | refine br_f (by assumption) ?_ | refine br_t (by decide) ?_ | refine br_f (by decide) ?_ | refine nm_e ?_ | refine And.intro (by assumption) ?_)
      first | exact q | exact ⟨rfl, q⟩
    by_cases h2 : v2 = 2
    · subst h2
      repeat (first | refine br_t (by assumption) ?_ | refine br_f (by assumption) ?_ | refine br_t (by decide) ?_ | refine br_f (by decide) ?_ | refine nm_e ?_ | refine And.intro (by assumption) ?_)
      first | exact q | exact ⟨rfl, q⟩
    by_cases h3 : v2 = 3
    · subst h3
      by_cases hk : xinKind v1.toNatClampNeg = 3
      · repeat (first | refine br_t (by assumption) ?_ | refine br_f (by assumption) ?_ | refine br_t (by decide) ?_ | refine br_f (by decide) ?_ | refine nm_e ?_ | refine And.intro (by assumption) ?_)
        first | exact q | exact ⟨a5 hk, q⟩
      · repeat (first | refine br_t (by assumption) ?_ | refine br_f (by assumption) ?_ | refine br_t (by decide) ?_ | refine br_f (by decide) ?_ | refine nm_e ?_ | refine And.intro (by assumption) ?_)
        first | exact q | exact ⟨a6 hk, q⟩
    by_cases hp : xphase = 0
    · by_cases ha : v2 < 0
      · repeat (first | refine br_t (by assumption) ?_ | refine br_f (by assumption) ?_ | refine br_t (by decide) ?_ | refine br_f (by decide) ?_ | refine nm_e ?_ | refine And.intro (by assumption) ?_)
        first | exact q | exact ⟨rfl, q⟩
      by_cases hb : 3 < v2
      · by_cases hc : v2 ≤ 8
        · repeat (first | refine br_t (by assumption) ?_ | refine br_f (by assumption) ?_ | refine br_t (by decide) ?_ | refine br_f (by decide) ?_ | refine nm_e ?_ | refine And.intro (by assumption) ?_)
          first | exact q | exact ⟨rfl, q⟩
        · repeat (first | refine br_t (by assumption) ?_ | refine br_f (by assumption) ?_ | refine br_t (by decide) ?_ | refine br_f (by decide) ?_ | refine nm_e ?_ | refine And.intro (by assumption) ?_)
          first | exact q | exact ⟨rfl, q⟩
      repeat (first | refine br_t (by assumption) ?_ | refine br_f (by assumption) ?_ | refine br_t (by decide) ?_ | refine br_f (by decide) ?_ | refine nm_e ?_ | refine And.intro (by assumption) ?_)
      first | trivial | exact q | exact ⟨rfl, q⟩
    by_cases hl : xinLive v1.toNatClampNeg = 1
    · obtain ⟨b1, b2, b3, b4, b5⟩ := a7 hp hl
      by_cases h4 : v2 = 4
      · subst h4
        repeat (first | refine br_t (by assumption) ?_ | refine br_f (by assumption) ?_ | refine br_t (by decide) ?_ | refine br_f (by decide) ?_ | refine nm_e ?_ | refine And.intro (by assumption) ?_)
        first | exact q | exact ⟨rfl, q⟩
      by_cases h5 : v2 = 5
      · subst h5
        repeat (first | refine br_t (by assumption) ?_ | refine br_f (by assumption) ?_ | refine br_t (by decide) ?_ | refine br_f (by decide) ?_ | refine nm_e ?_ | refine And.intro (by assumption) ?_)
        first | exact q | exact ⟨rfl, q⟩
      by_cases h6 : v2 = 6
      · subst h6
        repeat (first | refine br_t (by assumption) ?_ | refine br_f (by assumption) ?_ | refine br_t (by decide) ?_ | refine br_f (by decide) ?_ | refine nm_e ?_ | refine And.intro (by assumption) ?_)
        first | exact q | exact ⟨b3, q⟩
      by_cases h7 : v2 = 7
      · subst h7
        repeat (first | refine br_t (by assumption) ?_ | refine br_f (by assumption) ?_ | refine br_t (by decide) ?_ | refine br_f (by decide) ?_ | refine nm_e ?_ | refine And.intro (by assumption) ?_)
        first | exact q | exact ⟨b4, q⟩
      by_cases h8 : v2 = 8
      · subst h8
        repeat (first | refine br_t (by assumption) ?_ | refine br_f (by assumption) ?_ | refine br_t (by decide) ?_ | refine br_f (by decide) ?_ | refine nm_e ?_ | refine And.intro (by assumption) ?_)
        first | exact q | exact ⟨b5, q⟩
      by_cases ha : v2 < 0
      · by_cases hb : v2 < 4
        · repeat (first | refine br_t (by assumption) ?_ | refine br_f (by assumption) ?_ | refine br_t (by decide) ?_ | refine br_f (by decide) ?_ | refine nm_e ?_ | refine And.intro (by assumption) ?_)
          first | exact q | exact ⟨rfl, q⟩
        · exact absurd (Int32.lt_trans ha (by decide)) hb
      by_cases hb : 3 < v2
      · by_cases hd : v2 < 4
        · by_cases hc : v2 ≤ 8
          · exact absurd (lk_34 hb hd) id
          · repeat (first | refine br_t (by assumption) ?_ | refine br_f (by assumption) ?_ | refine br_t (by decide) ?_ | refine br_f (by decide) ?_ | refine nm_e ?_ | refine And.intro (by assumption) ?_)
            first | exact q | exact ⟨rfl, q⟩
        · by_cases hc : v2 ≤ 8
          · have hc2 : ¬ 8 < v2 := Int32.not_lt.mpr hc
            repeat (first | refine br_t (by assumption) ?_ | refine br_f (by assumption) ?_ | refine br_t (by decide) ?_ | refine br_f (by decide) ?_ | refine nm_e ?_ | refine And.intro (by assumption) ?_)
            first | trivial | exact q | exact ⟨rfl, q⟩
          · have hc2 : 8 < v2 := Int32.not_le.mp hc
            repeat (first | refine br_t (by assumption) ?_ | refine br_f (by assumption) ?_ | refine br_t (by decide) ?_ | refine br_f (by decide) ?_ | refine nm_e ?_ | refine And.intro (by assumption) ?_)
            first | exact q | exact ⟨rfl, q⟩
      repeat (first | refine br_t (by assumption) ?_ | refine br_f (by assumption) ?_ | refine br_t (by decide) ?_ | refine br_f (by decide) ?_ | refine nm_e ?_ | refine And.intro (by assumption) ?_)
      first | trivial | exact q | exact ⟨rfl, q⟩
    · by_cases h4 : v2 = 4
      · subst h4
        repeat (first | refine br_t (by assumption) ?_ | refine br_f (by assumption) ?_ | refine br_t (by decide) ?_ | refine br_f (by decide) ?_ | refine nm_e ?_ | refine And.intro (by assumption) ?_)
        first | exact q | exact ⟨rfl, q⟩
      by_cases h5 : v2 = 5
      · subst h5
        repeat (first | refine br_t (by assumption) ?_ | refine br_f (by assumption) ?_ | refine br_t (by decide) ?_ | refine br_f (by decide) ?_ | refine nm_e ?_ | refine And.intro (by assumption) ?_)
        first | exact q | exact ⟨rfl, q⟩
      by_cases h6 : v2 = 6
      · subst h6
        repeat (first | refine br_t (by assumption) ?_ | refine br_f (by assumption) ?_ | refine br_t (by decide) ?_ | refine br_f (by decide) ?_ | refine nm_e ?_ | refine And.intro (by assumption) ?_)
        first | exact q | exact ⟨rfl, q⟩
      by_cases h7 : v2 = 7
      · subst h7
        repeat (first | refine br_t (by assumption) ?_ | refine br_f (by assumption) ?_ | refine br_t (by decide) ?_ | refine br_f (by decide) ?_ | refine nm_e ?_ | refine And.intro (by assumption) ?_)
        first | exact q | exact ⟨rfl, q⟩
      by_cases h8 : v2 = 8
      · subst h8
        repeat (first | refine br_t (by assumption) ?_ | refine br_f (by assumption) ?_ | refine br_t (by decide) ?_ | refine br_f (by decide) ?_ | refine nm_e ?_ | refine And.intro (by assumption) ?_)
        first | exact q | exact ⟨rfl, q⟩
      by_cases ha : v2 < 0
      · by_cases hb : v2 < 4
        · repeat (first | refine br_t (by assumption) ?_ | refine br_f (by assumption) ?_ | refine br_t (by decide) ?_ | refine br_f (by decide) ?_ | refine nm_e ?_ | refine And.intro (by assumption) ?_)
          first | exact q | exact ⟨rfl, q⟩
        · exact absurd (Int32.lt_trans ha (by decide)) hb
      by_cases hb : 3 < v2
      · by_cases hd : v2 < 4
        · by_cases hc : v2 ≤ 8
          · exact absurd (lk_34 hb hd) id
          · repeat (first | refine br_t (by assumption) ?_ | refine br_f (by assumption) ?_ | refine br_t (by decide) ?_ | refine br_f (by decide) ?_ | refine nm_e ?_ | refine And.intro (by assumption) ?_)
            first | exact q | exact ⟨rfl, q⟩
        · by_cases hc : v2 ≤ 8
          · have hc2 : ¬ 8 < v2 := Int32.not_lt.mpr hc
            repeat (first | refine br_t (by assumption) ?_ | refine br_f (by assumption) ?_ | refine br_t (by decide) ?_ | refine br_f (by decide) ?_ | refine nm_e ?_ | refine And.intro (by assumption) ?_)
            first | trivial | exact q | exact ⟨rfl, q⟩
          · have hc2 : 8 < v2 := Int32.not_le.mp hc
            repeat (first | refine br_t (by assumption) ?_ | refine br_f (by assumption) ?_ | refine br_t (by decide) ?_ | refine br_f (by decide) ?_ | refine nm_e ?_ | refine And.intro (by assumption) ?_)
            first | exact q | exact ⟨rfl, q⟩
      repeat (first | refine br_t (by assumption) ?_ | refine br_f (by assumption) ?_ | refine br_t (by decide) ?_ | refine br_f (by decide) ?_ | refine nm_e ?_ | refine And.intro (by assumption) ?_)
      first | trivial | exact q | exact ⟨rfl, q⟩
theorem lk_outInfo {Q : Prop} (q : Q) {ns no ng ni nb nr R0 R1 : Nat} {xphase xopenOut xopenGroup yinGroup yfinalC0 yfinalC1 : Int32} {xregionSize xcounter xmemory xstmtOp xstmtA xstmtB xstmtOwner xoutRegion xoutLoaded xoutGroup xoutAlign xoutVma xoutLma xoutDot xgroupStart xgroupEnd xgroupResident xinKind xinId xinAlign xinSize xinFirstByte xinStmt xinLive xinVma xfedBytes xrelocOwner xrelocOffset xrelocType xrelocTarget xrelocAddend ystOut youtSize youtRes ygStart ygEnd yinBss yinLen yinVma yinLma yrom yram : Nat → Int32} {v1 v2 : Int32} (h : xphase = 0 ∨ (¬ xphase = 0 ∧ v1 < 0) ∨ (¬ xphase = 0 ∧ ¬ v1 < 0 ∧ nI no ≤ v1 ∧ ¬ v1 < nI no) ∨ (¬ xphase = 0 ∧ ¬ v1 < 0 ∧ ¬ nI no ≤ v1 ∧ v1 < nI no ∧ vp_in v1 8 ∧ youtSize v1.toNatClampNeg = xoutDot v1.toNatClampNeg - xoutVma v1.toNatClampNeg ∧ ((xoutGroup v1.toNatClampNeg = -1 ∧ ¬ 0 ≤ xoutGroup v1.toNatClampNeg ∧ youtRes v1.toNatClampNeg = 0) ∨ (¬ xoutGroup v1.toNatClampNeg = -1 ∧ 0 ≤ xoutGroup v1.toNatClampNeg ∧ vp_in (xoutGroup v1.toNatClampNeg) 4 ∧ ygStart (xoutGroup v1.toNatClampNeg).toNatClampNeg = xgroupStart (xoutGroup v1.toNatClampNeg).toNatClampNeg ∧ ygEnd (xoutGroup v1.toNatClampNeg).toNatClampNeg = xgroupEnd (xoutGroup v1.toNatClampNeg).toNatClampNeg ∧ ((xgroupResident (xoutGroup v1.toNatClampNeg).toNatClampNeg = v1 ∧ youtRes v1.toNatClampNeg = 1) ∨ (¬ xgroupResident (xoutGroup v1.toNatClampNeg).toNatClampNeg = v1 ∧ youtRes v1.toNatClampNeg = 0)))))) : wpX_outInfo (fun r => wpY_outInfo (fun r' => r' = r ∧ Q) ((nI R0), (nI R1), xphase, (nI ns), (nI no), (nI ng), (nI ni), (nI nb), (nI nr), xopenOut, yinGroup, (nI ni - 1), yfinalC0, yfinalC1, xstmtOp, xstmtA, xstmtB, ystOut, xoutRegion, xoutLoaded, xoutGroup, xoutVma, xoutLma, youtSize, xoutAlign, youtRes, ygStart, ygEnd, xinKind, xinId, xinAlign, yinBss, xinFirstByte, yinLen, xinStmt, xinLive, yinVma, yinLma, xfedBytes, xrelocOwner, xrelocOffset, xrelocType, xrelocTarget, xrelocAddend, yrom, yram) v1 v2) (xphase, (nI ns), xopenOut, xopenGroup, (nI no), (nI ng), (nI ni), (nI nb), (nI nr), xregionSize, xcounter, xmemory, xstmtOp, xstmtA, xstmtB, xstmtOwner, xoutRegion, xoutLoaded, xoutGroup, xoutAlign, xoutVma, xoutLma, xoutDot, xgroupStart, xgroupEnd, xgroupResident, xinKind, xinId, xinAlign, xinSize, xinFirstByte, xinStmt, xinLive, xinVma, xfedBytes, xrelocOwner, xrelocOffset, xrelocType, xrelocTarget, xrelocAddend) v1 v2 := by
  rcases h with a0 | ⟨a0, a1⟩ | ⟨a0, a1, a2, a3⟩ | ⟨a0, a1, a2, a3, a4, a5, a6⟩
  · repeat (first | refine br_t (by assumption) ?_ | refine br_f (by assumption) ?_ | refine br_t (by decide) ?_ | refine br_f (by decide) ?_ | refine nm_e ?_ | refine And.intro (by assumption) ?_)
    first | exact q | exact ⟨rfl, q⟩
  · repeat (first | refine br_t (by assumption) ?_ | refine br_f (by assumption) ?_ | refine br_t (by decide) ?_ | refine br_f (by decide) ?_ | refine nm_e ?_ | refine And.intro (by assumption) ?_)
    first | exact q | exact ⟨rfl, q⟩
  · repeat (first | refine br_t (by assumption) ?_ | refine br_f (by assumption) ?_ | refine br_t (by decide) ?_ | refine br_f (by decide) ?_ | refine nm_e ?_ | refine And.intro (by assumption) ?_)
    first | exact q | exact ⟨rfl, q⟩
  · by_cases h0 : v2 = 0
    · subst h0
      repeat (first | refine br_t (by assumption) ?_ | refine br_f (by assumption) ?_ | refine br_t (by decide) ?_ | refine br_f (by decide) ?_ | refine nm_e ?_ | refine And.intro (by assumption) ?_)
      first | exact q | exact ⟨rfl, q⟩
    by_cases h1 : v2 = 1
    · subst h1
      repeat (first | refine br_t (by assumption) ?_ | refine br_f (by assumption) ?_ | refine br_t (by decide) ?_ | refine br_f (by decide) ?_ | refine nm_e ?_ | refine And.intro (by assumption) ?_)
      first | exact q | exact ⟨rfl, q⟩
    by_cases h2 : v2 = 2
    · subst h2
      repeat (first | refine br_t (by assumption) ?_ | refine br_f (by assumption) ?_ | refine br_t (by decide) ?_ | refine br_f (by decide) ?_ | refine nm_e ?_ | refine And.intro (by assumption) ?_)
      first | exact q | exact ⟨a5, q⟩
    by_cases h3 : v2 = 3
    · subst h3
      repeat (first | refine br_t (by assumption) ?_ | refine br_f (by assumption) ?_ | refine br_t (by decide) ?_ | refine br_f (by decide) ?_ | refine nm_e ?_ | refine And.intro (by assumption) ?_)
      first | exact q | exact ⟨rfl, q⟩
    by_cases h4 : v2 = 4
    · subst h4
      repeat (first | refine br_t (by assumption) ?_ | refine br_f (by assumption) ?_ | refine br_t (by decide) ?_ | refine br_f (by decide) ?_ | refine nm_e ?_ | refine And.intro (by assumption) ?_)
      first | exact q | exact ⟨rfl, q⟩
    by_cases h5 : v2 = 5
    · subst h5
      repeat (first | refine br_t (by assumption) ?_ | refine br_f (by assumption) ?_ | refine br_t (by decide) ?_ | refine br_f (by decide) ?_ | refine nm_e ?_ | refine And.intro (by assumption) ?_)
      first | exact q | exact ⟨rfl, q⟩
    by_cases h7 : v2 = 7
    · subst h7
      repeat (first | refine br_t (by assumption) ?_ | refine br_f (by assumption) ?_ | refine br_t (by decide) ?_ | refine br_f (by decide) ?_ | refine nm_e ?_ | refine And.intro (by assumption) ?_)
      first | exact q | exact ⟨rfl, q⟩
    by_cases ha : v2 < 0
    · repeat (first | refine br_t (by assumption) ?_ | refine br_f (by assumption) ?_ | refine br_t (by decide) ?_ | refine br_f (by decide) ?_ | refine nm_e ?_ | refine And.intro (by assumption) ?_)
      first | exact q | exact ⟨rfl, q⟩
    by_cases hb : 9 < v2
    · have hb2 : ¬ v2 ≤ 9 := Int32.not_le.mpr hb
      repeat (first | refine br_t (by assumption) ?_ | refine br_f (by assumption) ?_ | refine br_t (by decide) ?_ | refine br_f (by decide) ?_ | refine nm_e ?_ | refine And.intro (by assumption) ?_)
      first | exact q | exact ⟨rfl, q⟩
    have hb2 : v2 ≤ 9 := Int32.not_lt.mp hb
    rcases a6 with ⟨d1, d2, d3⟩ | ⟨d1, d2, d3, d4, d5, d6⟩
    · by_cases h6 : v2 = 6
      · subst h6
        repeat (first | refine br_t (by assumption) ?_ | refine br_f (by assumption) ?_ | refine br_t (by decide) ?_ | refine br_f (by decide) ?_ | refine nm_e ?_ | refine And.intro (by assumption) ?_)
        first | exact q | exact ⟨d3, q⟩
      by_cases h8 : v2 = 8
      · subst h8
        repeat (first | refine br_t (by assumption) ?_ | refine br_f (by assumption) ?_ | refine br_t (by decide) ?_ | refine br_f (by decide) ?_ | refine nm_e ?_ | refine And.intro (by assumption) ?_)
        first | exact q | exact ⟨rfl, q⟩
      by_cases h9 : v2 = 9
      · subst h9
        repeat (first | refine br_t (by assumption) ?_ | refine br_f (by assumption) ?_ | refine br_t (by decide) ?_ | refine br_f (by decide) ?_ | refine nm_e ?_ | refine And.intro (by assumption) ?_)
        first | exact q | exact ⟨rfl, q⟩
      repeat (first | refine br_t (by assumption) ?_ | refine br_f (by assumption) ?_ | refine br_t (by decide) ?_ | refine br_f (by decide) ?_ | refine nm_e ?_ | refine And.intro (by assumption) ?_)
      first | trivial | exact q | exact ⟨rfl, q⟩
    · by_cases h6 : v2 = 6
      · subst h6
        rcases d6 with ⟨e1, e2⟩ | ⟨e1, e2⟩
        · repeat (first | refine br_t (by assumption) ?_ | refine br_f (by assumption) ?_ | refine br_t (by decide) ?_ | refine br_f (by decide) ?_ | refine nm_e ?_ | refine And.intro (by assumption) ?_)
          first | exact q | exact ⟨e2, q⟩
        · repeat (first | refine br_t (by assumption) ?_ | refine br_f (by assumption) ?_ | refine br_t (by decide) ?_ | refine br_f (by decide) ?_ | refine nm_e ?_ | refine And.intro (by assumption) ?_)
          first | exact q | exact ⟨e2, q⟩
      by_cases h8 : v2 = 8
      · subst h8
        repeat (first | refine br_t (by assumption) ?_ | refine br_f (by assumption) ?_ | refine br_t (by decide) ?_ | refine br_f (by decide) ?_ | refine nm_e ?_ | refine And.intro (by assumption) ?_)
        first | exact q | exact ⟨d4, q⟩
      by_cases h9 : v2 = 9
      · subst h9
        repeat (first | refine br_t (by assumption) ?_ | refine br_f (by assumption) ?_ | refine br_t (by decide) ?_ | refine br_f (by decide) ?_ | refine nm_e ?_ | refine And.intro (by assumption) ?_)
        first | exact q | exact ⟨d5, q⟩
      repeat (first | refine br_t (by assumption) ?_ | refine br_f (by assumption) ?_ | refine br_t (by decide) ?_ | refine br_f (by decide) ?_ | refine nm_e ?_ | refine And.intro (by assumption) ?_)
      first | trivial | exact q | exact ⟨rfl, q⟩
end
end
section
section
/-! P: the getters' statements -/
theorem lk_asc (a b c : Int32) : a + b - c = a + (b - c) := by
  rw [Int32.sub_eq_add_neg, Int32.sub_eq_add_neg, Int32.add_assoc]
theorem lk_S_of {ns no ng : Nat} {op sa sb ox oy rg ld gp : Nat → Int32} {oo xg yg : Int32} (h : lk_S ns no ng op sa sb ox oy rg ld gp oo xg yg) : ∀ k, k < no → lk_of ng rg ld gp k := by
  obtain ⟨_, _, _, c4, c5, _, _, _, c9⟩ := h
  intro k hk
  rw [c5]
  exact lk_S_o c9 ns (Nat.le_refl ns) k (by omega)
theorem lk_romByte {Q : Prop} (q : Q) {ns no ng ni nb nr R0 R1 : Nat} {xphase xopenOut xopenGroup yinGroup yfinalC0 yfinalC1 : Int32} {xregionSize xcounter xmemory xstmtOp xstmtA xstmtB xstmtOwner xoutRegion xoutLoaded xoutGroup xoutAlign xoutVma xoutLma xoutDot xgroupStart xgroupEnd xgroupResident xinKind xinId xinAlign xinSize xinFirstByte xinStmt xinLive xinVma xfedBytes xrelocOwner xrelocOffset xrelocType xrelocTarget xrelocAddend ystOut youtSize youtRes ygStart ygEnd yinBss yinLen yinVma yinLma yrom yram : Nat → Int32} {v1 : Int32} (h : xphase = 0 ∨ (¬ xphase = 0 ∧ v1 < 0) ∨ (¬ xphase = 0 ∧ ¬ v1 < 0 ∧ 0 + xregionSize (0 : Int32).toNatClampNeg ≤ v1 ∧ ¬ v1 < 0 + nI R0) ∨ (¬ xphase = 0 ∧ ¬ v1 < 0 ∧ ¬ 0 + xregionSize (0 : Int32).toNatClampNeg ≤ v1 ∧ v1 < 0 + nI R0 ∧ vp_in v1 384 ∧ vp_in (v1 - 0) 128 ∧ yrom (v1 - 0).toNatClampNeg = xmemory v1.toNatClampNeg)) : wpX_romByte (fun r => wpY_romByte (fun r' => r' = r ∧ Q) ((nI R0), (nI R1), xphase, (nI ns), (nI no), (nI ng), (nI ni), (nI nb), (nI nr), xopenOut, yinGroup, (nI ni - 1), yfinalC0, yfinalC1, xstmtOp, xstmtA, xstmtB, ystOut, xoutRegion, xoutLoaded, xoutGroup, xoutVma, xoutLma, youtSize, xoutAlign, youtRes, ygStart, ygEnd, xinKind, xinId, xinAlign, yinBss, xinFirstByte, yinLen, xinStmt, xinLive, yinVma, yinLma, xfedBytes, xrelocOwner, xrelocOffset, xrelocType, xrelocTarget, xrelocAddend, yrom, yram) v1) (xphase, (nI ns), xopenOut, xopenGroup, (nI no), (nI ng), (nI ni), (nI nb), (nI nr), xregionSize, xcounter, xmemory, xstmtOp, xstmtA, xstmtB, xstmtOwner, xoutRegion, xoutLoaded, xoutGroup, xoutAlign, xoutVma, xoutLma, xoutDot, xgroupStart, xgroupEnd, xgroupResident, xinKind, xinId, xinAlign, xinSize, xinFirstByte, xinStmt, xinLive, xinVma, xfedBytes, xrelocOwner, xrelocOffset, xrelocType, xrelocTarget, xrelocAddend) v1 := by
  have v02 : vp_in (0 : Int32) 2 := vp_in_iff.mpr (by decide)
  rcases h with a0 | ⟨a0, a1⟩ | ⟨a0, a1, a2, a3⟩ | ⟨a0, a1, a2, a3, a4, a5, a6⟩
  · repeat (first | refine br_t (by assumption) ?_ | refine br_f (by assumption) ?_ | refine br_t (by decide) ?_ | refine br_f (by decide) ?_ | refine nm_e ?_ | refine And.intro (by assumption) ?_)
    first | exact q | exact ⟨rfl, q⟩
  · repeat (first | refine br_t (by assumption) ?_ | refine br_f (by assumption) ?_ | refine br_t (by decide) ?_ | refine br_f (by decide) ?_ | refine nm_e ?_ | refine And.intro (by assumption) ?_)
    first | exact q | exact ⟨rfl, q⟩
  · repeat (first | refine br_t (by assumption) ?_ | refine br_f (by assumption) ?_ | refine br_t (by decide) ?_ | refine br_f (by decide) ?_ | refine nm_e ?_ | refine And.intro (by assumption) ?_)
    first | exact q | exact ⟨rfl, q⟩
  · repeat (first | refine br_t (by assumption) ?_ | refine br_f (by assumption) ?_ | refine br_t (by decide) ?_ | refine br_f (by decide) ?_ | refine nm_e ?_ | refine And.intro (by assumption) ?_)
    first | exact q | exact ⟨a6, q⟩
theorem lk_ramByte {Q : Prop} (q : Q) {ns no ng ni nb nr R0 R1 : Nat} {xphase xopenOut xopenGroup yinGroup yfinalC0 yfinalC1 : Int32} {xregionSize xcounter xmemory xstmtOp xstmtA xstmtB xstmtOwner xoutRegion xoutLoaded xoutGroup xoutAlign xoutVma xoutLma xoutDot xgroupStart xgroupEnd xgroupResident xinKind xinId xinAlign xinSize xinFirstByte xinStmt xinLive xinVma xfedBytes xrelocOwner xrelocOffset xrelocType xrelocTarget xrelocAddend ystOut youtSize youtRes ygStart ygEnd yinBss yinLen yinVma yinLma yrom yram : Nat → Int32} {v1 : Int32} (h : v1 < 256 ∨ (¬ v1 < 256 ∧ 256 + xregionSize (1 : Int32).toNatClampNeg ≤ v1 ∧ ¬ v1 < 256 + nI R1) ∨ (¬ v1 < 256 ∧ ¬ 256 + xregionSize (1 : Int32).toNatClampNeg ≤ v1 ∧ v1 < 256 + nI R1 ∧ vp_in v1 384 ∧ vp_in (v1 - 256) 128 ∧ yram (v1 - 256).toNatClampNeg = xmemory v1.toNatClampNeg)) : wpX_ramByte (fun r => wpY_ramByte (fun r' => r' = r ∧ Q) ((nI R0), (nI R1), xphase, (nI ns), (nI no), (nI ng), (nI ni), (nI nb), (nI nr), xopenOut, yinGroup, (nI ni - 1), yfinalC0, yfinalC1, xstmtOp, xstmtA, xstmtB, ystOut, xoutRegion, xoutLoaded, xoutGroup, xoutVma, xoutLma, youtSize, xoutAlign, youtRes, ygStart, ygEnd, xinKind, xinId, xinAlign, yinBss, xinFirstByte, yinLen, xinStmt, xinLive, yinVma, yinLma, xfedBytes, xrelocOwner, xrelocOffset, xrelocType, xrelocTarget, xrelocAddend, yrom, yram) v1) (xphase, (nI ns), xopenOut, xopenGroup, (nI no), (nI ng), (nI ni), (nI nb), (nI nr), xregionSize, xcounter, xmemory, xstmtOp, xstmtA, xstmtB, xstmtOwner, xoutRegion, xoutLoaded, xoutGroup, xoutAlign, xoutVma, xoutLma, xoutDot, xgroupStart, xgroupEnd, xgroupResident, xinKind, xinId, xinAlign, xinSize, xinFirstByte, xinStmt, xinLive, xinVma, xfedBytes, xrelocOwner, xrelocOffset, xrelocType, xrelocTarget, xrelocAddend) v1 := by
  have v12 : vp_in (1 : Int32) 2 := vp_in_iff.mpr (by decide)
  rcases h with a1 | ⟨a1, a2, a3⟩ | ⟨a1, a2, a3, a4, a5, a6⟩
  · repeat (first | refine br_t (by assumption) ?_ | refine br_f (by assumption) ?_ | refine br_t (by decide) ?_ | refine br_f (by decide) ?_ | refine nm_e ?_ | refine And.intro (by assumption) ?_)
    first | exact q | exact ⟨rfl, q⟩
  · repeat (first | refine br_t (by assumption) ?_ | refine br_f (by assumption) ?_ | refine br_t (by decide) ?_ | refine br_f (by decide) ?_ | refine nm_e ?_ | refine And.intro (by assumption) ?_)
    first | exact q | exact ⟨rfl, q⟩
  · repeat (first | refine br_t (by assumption) ?_ | refine br_f (by assumption) ?_ | refine br_t (by decide) ?_ | refine br_f (by decide) ?_ | refine nm_e ?_ | refine And.intro (by assumption) ?_)
    first | exact q | exact ⟨a6, q⟩
theorem lk_e0 : (0 : Int32).toNatClampNeg = 0 := by decide
theorem lk_e1 : (1 : Int32).toNatClampNeg = 1 := by decide
theorem lk_256 (n : Nat) : (256 : Int32) + nI n = nI (256 + n) := nI_add 256 n
theorem i_vc_info {k : Nat} {u : SX} {v : SY} (I : i_Rel k u v) (hk : k + 5 ≤ 2562) (v1 : Int32) : wpX_info (fun r => wpY_info (fun r' => r' = r ∧ i_Rel (k + 5) u v) v v1) u v1 := by
  have J := i_up I
  obtain ⟨ns, no, ng, ni, nb, nr, R0, R1, xphase, xopenOut, xopenGroup, yinGroup, yfinalC0, yfinalC1, xregionSize, xcounter, xmemory, xstmtOp, xstmtA, xstmtB, xstmtOwner, xoutRegion, xoutLoaded, xoutGroup, xoutAlign, xoutVma, xoutLma, xoutDot, xgroupStart, xgroupEnd, xgroupResident, xinKind, xinId, xinAlign, xinSize, xinFirstByte, xinStmt, xinLive, xinVma, xfedBytes, xrelocOwner, xrelocOffset, xrelocType, xrelocTarget, xrelocAddend, ystOut, youtSize, youtRes, ygStart, ygEnd, yinBss, yinLen, yinVma, yinLma, yrom, yram, rfl, rfl, hS, hN, hQ, hZ, hM, hP⟩ := I
  refine lk_info J hZ.1.symm hZ.2.1.symm (fun hp => ?_) (fun hp => ?_)
  · rcases hP with ⟨h0, _⟩ | ⟨_, _, _, _, _, h1, _⟩
    · exact absurd h0 hp
    · exact h1.1.symm
  · rcases hP with ⟨h0, _⟩ | ⟨_, _, _, _, _, h1, _⟩
    · exact absurd h0 hp
    · exact h1.2.symm
theorem i_vc_inInfo {k : Nat} {u : SX} {v : SY} (I : i_Rel k u v) (hk : k + 5 ≤ 2562) (v1 : Int32) (v2 : Int32) : wpX_inInfo (fun r => wpY_inInfo (fun r' => r' = r ∧ i_Rel (k + 5) u v) v v1 v2) u v1 v2 := by
  have J := i_up I
  obtain ⟨ns, no, ng, ni, nb, nr, R0, R1, xphase, xopenOut, xopenGroup, yinGroup, yfinalC0, yfinalC1, xregionSize, xcounter, xmemory, xstmtOp, xstmtA, xstmtB, xstmtOwner, xoutRegion, xoutLoaded, xoutGroup, xoutAlign, xoutVma, xoutLma, xoutDot, xgroupStart, xgroupEnd, xgroupResident, xinKind, xinId, xinAlign, xinSize, xinFirstByte, xinStmt, xinLive, xinVma, xfedBytes, xrelocOwner, xrelocOffset, xrelocType, xrelocTarget, xrelocAddend, ystOut, youtSize, youtRes, ygStart, ygEnd, yinBss, yinLen, yinVma, yinLma, yrom, yram, rfl, rfl, hS, hN, hQ, hZ, hM, hP⟩ := I
  obtain ⟨n1, n2, n3⟩ := hN
  refine lk_inInfo J ?_
  rcases pk_ix v1 (n := ni) (by omega) with h | h | ⟨s, hs, rfl⟩
  · exact Or.inl h
  · exact Or.inr (Or.inl ⟨Int32.not_lt.mpr (Int32.le_trans (nI_pos' (by omega)) h), h, Int32.not_lt.mpr h⟩)
  · obtain ⟨A, T, Z, Qn, _, _, _, d4, _, d6, d7⟩ := n3 s hs
    rw [nI_clamp (show s < 2 ^ 31 by omega)]
    refine Or.inr (Or.inr ⟨nI_pos (by omega), nI_ge hs (by omega), nI_lt hs (by omega), vp_in_nI (by omega) (by omega), fun hk3 => ?_, fun hk3 => ?_, fun hp hl => ?_⟩)
    · rcases d7 with ⟨_, _, _, e⟩ | ⟨e, _⟩
      · rw [e, d6]
      · exact absurd hk3 e
    · rcases d7 with ⟨e, _⟩ | ⟨_, e⟩
      · exact absurd e hk3
      · rw [d4, d6, e]
    · rcases hP with ⟨h0, _⟩ | ⟨_, V, L, D, IV, h1, h2, h3, h4, _⟩
      · exact absurd h0 hp
      · obtain ⟨q, o, hq, e1, e2, e3, ho, e4, e5, _, e6⟩ := h4 s hs hl
        obtain ⟨c1, c2, _⟩ := hS
        rw [e1, nI_clamp (show q < 2 ^ 31 by omega), e2, e3, nI_clamp (show o < 2 ^ 31 by omega), e4, e5, e6]
        exact ⟨vp_in_nI (by omega) (by omega), vp_in_nI (by omega) (by omega), rfl, rfl, (lk_asc _ _ _).symm⟩
theorem i_vc_outInfo {k : Nat} {u : SX} {v : SY} (I : i_Rel k u v) (hk : k + 5 ≤ 2562) (v1 : Int32) (v2 : Int32) : wpX_outInfo (fun r => wpY_outInfo (fun r' => r' = r ∧ i_Rel (k + 5) u v) v v1 v2) u v1 v2 := by
  have J := i_up I
  obtain ⟨ns, no, ng, ni, nb, nr, R0, R1, xphase, xopenOut, xopenGroup, yinGroup, yfinalC0, yfinalC1, xregionSize, xcounter, xmemory, xstmtOp, xstmtA, xstmtB, xstmtOwner, xoutRegion, xoutLoaded, xoutGroup, xoutAlign, xoutVma, xoutLma, xoutDot, xgroupStart, xgroupEnd, xgroupResident, xinKind, xinId, xinAlign, xinSize, xinFirstByte, xinStmt, xinLive, xinVma, xfedBytes, xrelocOwner, xrelocOffset, xrelocType, xrelocTarget, xrelocAddend, ystOut, youtSize, youtRes, ygStart, ygEnd, yinBss, yinLen, yinVma, yinLma, yrom, yram, rfl, rfl, hS, hN, hQ, hZ, hM, hP⟩ := I
  have hof := lk_S_of hS
  obtain ⟨c1, c2, c3, _⟩ := hS
  refine lk_outInfo J ?_
  by_cases hp : xphase = 0
  · exact Or.inl hp
  rcases pk_ix v1 (n := no) (by omega) with h | h | ⟨s, hs, rfl⟩
  · exact Or.inr (Or.inl ⟨hp, h⟩)
  · exact Or.inr (Or.inr (Or.inl ⟨hp, Int32.not_lt.mpr (Int32.le_trans (nI_pos' (by omega)) h), h, Int32.not_lt.mpr h⟩))
  · rcases hP with ⟨h0, _⟩ | ⟨_, V, L, D, IV, h1, h2, h3, h4, h5, h6, h7, _⟩
    · exact absurd h0 hp
    · obtain ⟨e1, e2, e3, e4, e5, _⟩ := h2 s hs
      have e6 := h7 s hs
      have hg : xoutGroup s = -1 ∨ ∃ g, g < ng ∧ xoutGroup s = nI g := by
        rcases hof s hs with ⟨_, _, z⟩ | ⟨_, _, z⟩
        · exact Or.inl z
        · exact z
      rw [nI_clamp (show s < 2 ^ 31 by omega)]
      refine Or.inr (Or.inr (Or.inr ⟨hp, nI_pos (by omega), nI_ge hs (by omega), nI_lt hs (by omega), vp_in_nI (by omega) (by omega), by rw [e4, e3, e1, pk_sub e5], ?_⟩))
      rcases hg with z | ⟨g, hg, z⟩
      · refine Or.inl ⟨z, by rw [z]; decide, ?_⟩
        rw [e6, if_neg (fun y => y.1 z)]
      · obtain ⟨a, b, f1, f2, f3, f4, _⟩ := h3 g hg
        have nz : ¬ nI g = -1 := lk_nn1 (by omega)
        rw [z] at e6
        rw [nI_clamp (show g < 2 ^ 31 by omega)] at e6
        rw [z, nI_clamp (show g < 2 ^ 31 by omega)]
        refine Or.inr ⟨nz, nI_pos' (by omega), vp_in_nI (by omega) (by omega), by rw [f1, f2], by rw [f3, f4], ?_⟩
        by_cases y : xgroupResident g = nI s
        · exact Or.inl ⟨y, by rw [e6, if_pos ⟨nz, y⟩]⟩
        · exact Or.inr ⟨y, by rw [e6, if_neg (fun w => y w.2)]⟩
theorem i_vc_romByte {k : Nat} {u : SX} {v : SY} (I : i_Rel k u v) (hk : k + 5 ≤ 2562) (v1 : Int32) : wpX_romByte (fun r => wpY_romByte (fun r' => r' = r ∧ i_Rel (k + 5) u v) v v1) u v1 := by
  have J := i_up I
  obtain ⟨ns, no, ng, ni, nb, nr, R0, R1, xphase, xopenOut, xopenGroup, yinGroup, yfinalC0, yfinalC1, xregionSize, xcounter, xmemory, xstmtOp, xstmtA, xstmtB, xstmtOwner, xoutRegion, xoutLoaded, xoutGroup, xoutAlign, xoutVma, xoutLma, xoutDot, xgroupStart, xgroupEnd, xgroupResident, xinKind, xinId, xinAlign, xinSize, xinFirstByte, xinStmt, xinLive, xinVma, xfedBytes, xrelocOwner, xrelocOffset, xrelocType, xrelocTarget, xrelocAddend, ystOut, youtSize, youtRes, ygStart, ygEnd, yinBss, yinLen, yinVma, yinLma, yrom, yram, rfl, rfl, hS, hN, hQ, hZ, hM, hP⟩ := I
  obtain ⟨z0, z1, z2, z3, z4, z5⟩ := hZ
  refine lk_romByte J ?_
  by_cases hp : xphase = 0
  · exact Or.inl hp
  rw [lk_e0, z0, Int32.zero_add, Int32.sub_zero]
  rcases pk_ix v1 (n := R0) (by omega) with h | h | ⟨s, hs, rfl⟩
  · exact Or.inr (Or.inl ⟨hp, h⟩)
  · exact Or.inr (Or.inr (Or.inl ⟨hp, Int32.not_lt.mpr (Int32.le_trans (nI_pos' (by omega)) h), h, Int32.not_lt.mpr h⟩))
  · refine Or.inr (Or.inr (Or.inr ⟨hp, nI_pos (by omega), nI_ge hs (by omega), nI_lt hs (by omega), vp_in_nI (by omega) (by omega), vp_in_nI (by omega) (by omega), ?_⟩))
    rw [nI_clamp (show s < 2 ^ 31 by omega)]
    exact (hM.1 s (by omega)).symm
theorem lk_ix2 (x : Int32) {a n : Nat} (ha : a < 2 ^ 30) (hn : n < 2 ^ 30) : x < nI a ∨ nI (a + n) ≤ x ∨ ∃ j : Nat, j < n ∧ x = nI (a + j) := by
  rcases pk_ix x (n := a) (by omega) with h | h | ⟨j, hj, e⟩
  · exact Or.inl (Int32.lt_of_lt_of_le h (nI_pos' (by omega)))
  · rcases pk_ix x (n := a + n) (by omega) with h2 | h2 | ⟨j, hj, e⟩
    · exact absurd (Int32.lt_of_lt_of_le h2 (nI_pos' (by omega))) (Int32.not_lt.mpr h)
    · exact Or.inr (Or.inl h2)
    · subst e
      rw [nI_leI (by omega) (by omega)] at h
      exact Or.inr (Or.inr ⟨j - a, by omega, by rw [show a + (j - a) = j by omega]⟩)
  · subst e
    exact Or.inl (nI_lt hj (by omega))
theorem i_vc_ramByte {k : Nat} {u : SX} {v : SY} (I : i_Rel k u v) (hk : k + 5 ≤ 2562) (v1 : Int32) : wpX_ramByte (fun r => wpY_ramByte (fun r' => r' = r ∧ i_Rel (k + 5) u v) v v1) u v1 := by
  have J := i_up I
  obtain ⟨ns, no, ng, ni, nb, nr, R0, R1, xphase, xopenOut, xopenGroup, yinGroup, yfinalC0, yfinalC1, xregionSize, xcounter, xmemory, xstmtOp, xstmtA, xstmtB, xstmtOwner, xoutRegion, xoutLoaded, xoutGroup, xoutAlign, xoutVma, xoutLma, xoutDot, xgroupStart, xgroupEnd, xgroupResident, xinKind, xinId, xinAlign, xinSize, xinFirstByte, xinStmt, xinLive, xinVma, xfedBytes, xrelocOwner, xrelocOffset, xrelocType, xrelocTarget, xrelocAddend, ystOut, youtSize, youtRes, ygStart, ygEnd, yinBss, yinLen, yinVma, yinLma, yrom, yram, rfl, rfl, hS, hN, hQ, hZ, hM, hP⟩ := I
  obtain ⟨z0, z1, z2, z3, z4, z5⟩ := hZ
  refine lk_ramByte J ?_
  rw [lk_e1, z1, lk_256]
  rcases lk_ix2 v1 (a := 256) (n := R1) (by omega) (by omega) with h | h | ⟨s, hs, rfl⟩
  · exact Or.inl h
  · refine Or.inr (Or.inl ⟨Int32.not_lt.mpr (Int32.le_trans (nI_le (a := 256) (b := 256 + R1) (by omega) (by omega)) h), h, Int32.not_lt.mpr h⟩)
  · have e : nI (256 + s) - 256 = nI s := by
      have := pk_sub (a := 256 + s) (b := 256) (by omega)
      rw [Nat.add_sub_cancel_left] at this
      exact this
    rw [e, nI_clamp (show s < 2 ^ 31 by omega), nI_clamp (show 256 + s < 2 ^ 31 by omega)]
    refine Or.inr (Or.inr ⟨nI_nlt (b := 256) (by omega) (by omega), nI_ge (by omega) (by omega), nI_lt (by omega) (by omega), vp_in_nI (by omega) (by omega), vp_in_nI (by omega) (by omega), (hM.2 s (by omega)).symm⟩)
end
end
section
section
/-! Q: the constructor -/
theorem lx_fill {post : SX → Prop} {xphase xstmtCount xopenOut xopenGroup xoutCount xgroupCount xinCount xbyteCount xrelocCount : Int32} {xregionSize xcounter xmemory xstmtOp xstmtA xstmtB xstmtOwner xoutRegion xoutLoaded xoutGroup xoutAlign xoutVma xoutLma xoutDot xgroupStart xgroupEnd xgroupResident xinKind xinId xinAlign xinSize xinFirstByte xinStmt xinLive xinVma xfedBytes xrelocOwner xrelocOffset xrelocType xrelocTarget xrelocAddend : Nat → Int32} {s e : Nat} {v : Int32} (he : e ≤ 384) (hs : s < 2 ^ 31) (h : post (xphase, xstmtCount, xopenOut, xopenGroup, xoutCount, xgroupCount, xinCount, xbyteCount, xrelocCount, xregionSize, xcounter, (lk_wr xmemory s e (fun _ => v)), xstmtOp, xstmtA, xstmtB, xstmtOwner, xoutRegion, xoutLoaded, xoutGroup, xoutAlign, xoutVma, xoutLma, xoutDot, xgroupStart, xgroupEnd, xgroupResident, xinKind, xinId, xinAlign, xinSize, xinFirstByte, xinStmt, xinLive, xinVma, xfedBytes, xrelocOwner, xrelocOffset, xrelocType, xrelocTarget, xrelocAddend)) : wpX_fill post (xphase, xstmtCount, xopenOut, xopenGroup, xoutCount, xgroupCount, xinCount, xbyteCount, xrelocCount, xregionSize, xcounter, xmemory, xstmtOp, xstmtA, xstmtB, xstmtOwner, xoutRegion, xoutLoaded, xoutGroup, xoutAlign, xoutVma, xoutLma, xoutDot, xgroupStart, xgroupEnd, xgroupResident, xinKind, xinId, xinAlign, xinSize, xinFirstByte, xinStmt, xinLive, xinVma, xfedBytes, xrelocOwner, xrelocOffset, xrelocType, xrelocTarget, xrelocAddend) (nI s) (nI e) v := by
  by_cases c : e ≤ s
  · rw [lk_wr_e c] at h
    exact ⟨1, br_t (nI_le c hs) h⟩
  · have H : ∀ d x, x + d = e → s ≤ x → wX_fill_3 post (nI e) v xphase xstmtCount xopenOut xopenGroup xoutCount xgroupCount xinCount xbyteCount xrelocCount (d + 1) (nI x) xregionSize xcounter (lk_wr xmemory s x (fun _ => v)) xstmtOp xstmtA xstmtB xstmtOwner xoutRegion xoutLoaded xoutGroup xoutAlign xoutVma xoutLma xoutDot xgroupStart xgroupEnd xgroupResident xinKind xinId xinAlign xinSize xinFirstByte xinStmt xinLive xinVma xfedBytes xrelocOwner xrelocOffset xrelocType xrelocTarget xrelocAddend := by
      intro d
      induction d with
      | zero =>
        intro x hx _
        have e1 : x = e := hx
        subst e1
        exact br_t (nI_le (Nat.le_refl x) (by omega)) h
      | succ d ih =>
        intro x hx hsx
        exact br_f (nI_ge (by omega) (by omega)) ⟨vp_in_nI (by omega) (by omega), nm_r (by rw [nI_clamp (by omega)]; exact lk_wr_s hsx rfl) (nm_r (nI_1 x) (ih (x + 1) (by omega) (by omega)))⟩
    have H2 := H (e - s) s (by omega) (Nat.le_refl s)
    rw [lk_wr_0] at H2
    exact ⟨_, H2⟩
theorem lk_cl (x : Int32) : ∃ n : Nat, 16 ≤ n ∧ n ≤ 128 ∧ ((16 ≤ x ∧ x ≤ 128 ∧ x = nI n) ∨ (16 ≤ x ∧ ¬ x ≤ 128 ∧ n = 128) ∨ (¬ 16 ≤ x ∧ n = 16)) := by
  by_cases h1 : 16 ≤ x
  · by_cases h2 : x ≤ 128
    · have h0 : ¬ x < 0 := Int32.not_lt.mpr (Int32.le_trans (by decide) h1)
      obtain ⟨q, hq, e⟩ := nI_of2 (M := 128) (n := 128) (by decide) h0 h2
      refine ⟨q, ?_, hq, Or.inl ⟨h1, h2, e⟩⟩
      rw [e, show (16 : Int32) = nI 16 from rfl, nI_leI (by omega) (by omega)] at h1
      exact h1
    · exact ⟨128, by omega, by omega, Or.inr (Or.inl ⟨h1, h2, rfl⟩)⟩
  · exact ⟨16, by omega, by omega, Or.inr (Or.inr ⟨h1, rfl⟩)⟩
theorem lx_cl {post : Int32 → Prop} {x : Int32} {n : Nat} (h : (16 ≤ x ∧ x ≤ 128 ∧ x = nI n) ∨ (16 ≤ x ∧ ¬ x ≤ 128 ∧ n = 128) ∨ (¬ 16 ≤ x ∧ n = 16)) (p : post (nI n)) : wpX_clampedSize post x := by
  rcases h with ⟨h1, h2, e⟩ | ⟨h1, h2, e⟩ | ⟨h1, e⟩
  · rw [← e] at p
    exact br_t h1 (br_t h2 p)
  · rw [e] at p
    exact br_t h1 (br_f h2 p)
  · rw [e] at p
    exact br_f h1 p
theorem ly_loop {post : SY → Prop} {yromSize yramSize yphase ynStmts ynOuts ynGroups ynIns ynBytes ynRelocs yopenOut yinGroup ycur yfinalC0 yfinalC1 : Int32} {ystOp ystA ystB ystOut youtReg youtLoaded youtGroup youtVma youtLma youtSize youtAlign youtRes ygStart ygEnd yinKind yinId yinAlign yinBss yinStart yinLen yinStmt yinLive yinVma yinLma ybytes yrSec yrOff yrType yrTgt yrAdd yrom yram : Nat → Int32} (h : post (yromSize, yramSize, yphase, ynStmts, ynOuts, ynGroups, ynIns, ynBytes, ynRelocs, yopenOut, yinGroup, ycur, yfinalC0, yfinalC1, ystOp, ystA, ystB, ystOut, youtReg, youtLoaded, youtGroup, youtVma, youtLma, youtSize, youtAlign, youtRes, ygStart, ygEnd, yinKind, yinId, yinAlign, yinBss, yinStart, yinLen, yinStmt, yinLive, yinVma, yinLma, ybytes, yrSec, yrOff, yrType, yrTgt, yrAdd, (lk_wr yrom 0 128 (fun _ => 255)), (lk_wr yram 0 128 (fun _ => 255)))) : ∃ n, wY_init_336 post yromSize yramSize yphase ynStmts ynOuts ynGroups ynIns ynBytes ynRelocs yopenOut yinGroup ycur yfinalC0 yfinalC1 n 0 ystOp ystA ystB ystOut youtReg youtLoaded youtGroup youtVma youtLma youtSize youtAlign youtRes ygStart ygEnd yinKind yinId yinAlign yinBss yinStart yinLen yinStmt yinLive yinVma yinLma ybytes yrSec yrOff yrType yrTgt yrAdd yrom yram := by
  have H : ∀ d x, x + d = 128 → wY_init_336 post yromSize yramSize yphase ynStmts ynOuts ynGroups ynIns ynBytes ynRelocs yopenOut yinGroup ycur yfinalC0 yfinalC1 (d + 1) (nI x) ystOp ystA ystB ystOut youtReg youtLoaded youtGroup youtVma youtLma youtSize youtAlign youtRes ygStart ygEnd yinKind yinId yinAlign yinBss yinStart yinLen yinStmt yinLive yinVma yinLma ybytes yrSec yrOff yrType yrTgt yrAdd (lk_wr yrom 0 x (fun _ => 255)) (lk_wr yram 0 x (fun _ => 255)) := by
    intro d
    induction d with
    | zero =>
      intro x hx
      have e1 : x = 128 := hx
      subst e1
      exact br_t (nI_le (a := 128) (b := 128) (by omega) (by omega)) h
    | succ d ih =>
      intro x hx
      exact br_f (nI_ge (b := 128) (by omega) (by omega)) ⟨vp_in_nI (by omega) (by omega), nm_r (by rw [nI_clamp (by omega)]; exact lk_wr_s (Nat.zero_le x) rfl) ⟨vp_in_nI (by omega) (by omega), nm_r (by rw [nI_clamp (by omega)]; exact lk_wr_s (Nat.zero_le x) rfl) (nm_r (nI_1 x) (ih (x + 1) (by omega)))⟩⟩
  have H2 := H 128 0 rfl
  rw [lk_wr_0, lk_wr_0, nI_0] at H2
  exact ⟨_, H2⟩
theorem ly_297 {post : SY → Prop} {z0 x : Int32} {n : Nat} {yromSize yramSize yphase ynStmts ynOuts ynGroups ynIns ynBytes ynRelocs yopenOut yinGroup ycur yfinalC0 yfinalC1 : Int32} {ystOp ystA ystB ystOut youtReg youtLoaded youtGroup youtVma youtLma youtSize youtAlign youtRes ygStart ygEnd yinKind yinId yinAlign yinBss yinStart yinLen yinStmt yinLive yinVma yinLma ybytes yrSec yrOff yrType yrTgt yrAdd yrom yram : Nat → Int32} (h : (16 ≤ x ∧ x ≤ 128 ∧ x = nI n) ∨ (16 ≤ x ∧ ¬ x ≤ 128 ∧ n = 128) ∨ (¬ 16 ≤ x ∧ n = 16)) (p : post (z0, (nI n), 0, ynStmts, ynOuts, ynGroups, ynIns, ynBytes, ynRelocs, yopenOut, yinGroup, ycur, yfinalC0, yfinalC1, ystOp, ystA, ystB, ystOut, youtReg, youtLoaded, youtGroup, youtVma, youtLma, youtSize, youtAlign, youtRes, ygStart, ygEnd, yinKind, yinId, yinAlign, yinBss, yinStart, yinLen, yinStmt, yinLive, yinVma, yinLma, ybytes, yrSec, yrOff, yrType, yrTgt, yrAdd, (lk_wr yrom 0 128 (fun _ => 255)), (lk_wr yram 0 128 (fun _ => 255)))) : wY_init_297 post x z0 yromSize yramSize yphase ynStmts ynOuts ynGroups ynIns ynBytes ynRelocs yopenOut yinGroup ycur yfinalC0 yfinalC1 ystOp ystA ystB ystOut youtReg youtLoaded youtGroup youtVma youtLma youtSize youtAlign youtRes ygStart ygEnd yinKind yinId yinAlign yinBss yinStart yinLen yinStmt yinLive yinVma yinLma ybytes yrSec yrOff yrType yrTgt yrAdd yrom yram := by
  rcases h with ⟨h1, h2, e⟩ | ⟨h1, h2, e⟩ | ⟨h1, e⟩
  · rw [← e] at p
    exact br_t h1 (br_t h2 (ly_loop p))
  · rw [e] at p
    exact br_t h1 (br_f h2 (ly_loop p))
  · rw [e] at p
    exact br_f h1 (ly_loop p)
theorem i_vc0 (k0 : Int32) (k1 : Int32) : wpX_init (fun u => wpY_init (fun v => i_Rel 2 u v) k0 k1) k0 k1 := by
  obtain ⟨R0, a1, a2, a3⟩ := lk_cl k0
  obtain ⟨R1, b1, b2, b3⟩ := lk_cl k1
  have em : nI 0 - 1 = -1 := by decide
  have hw : ∀ j, j < 128 → lk_wr (fun _ => (0 : Int32)) 0 128 (fun _ => 255) j = 255 := fun j hj => lk_wr_t (Nat.zero_le j) hj
  have hx : ∀ j, j < 384 → lk_wr (fun _ => (0 : Int32)) 0 384 (fun _ => 255) j = 255 := fun j hj => lk_wr_t (Nat.zero_le j) hj
  have K : i_Rel 2 (0, 0, -1, -1, 0, 0, 0, 0, 0, upd (upd (fun _ => 0) 0 (nI R0)) 1 (nI R1), fun _ => 0, lk_wr (fun _ => 0) 0 384 (fun _ => 255), fun _ => 0, fun _ => 0, fun _ => 0, fun _ => 0, fun _ => 0, fun _ => 0, fun _ => 0, fun _ => 0, fun _ => 0, fun _ => 0, fun _ => 0, fun _ => 0, fun _ => 0, fun _ => 0, fun _ => 0, fun _ => 0, fun _ => 0, fun _ => 0, fun _ => 0, fun _ => 0, fun _ => 0, fun _ => 0, fun _ => 0, fun _ => 0, fun _ => 0, fun _ => 0, fun _ => 0, fun _ => 0) (nI R0, nI R1, 0, 0, 0, 0, 0, 0, 0, -1, 0, nI 0 - 1, 0, 0, fun _ => 0, fun _ => 0, fun _ => 0, fun _ => 0, fun _ => 0, fun _ => 0, fun _ => 0, fun _ => 0, fun _ => 0, fun _ => 0, fun _ => 0, fun _ => 0, fun _ => 0, fun _ => 0, fun _ => 0, fun _ => 0, fun _ => 0, fun _ => 0, fun _ => 0, fun _ => 0, fun _ => 0, fun _ => 0, fun _ => 0, fun _ => 0, fun _ => 0, fun _ => 0, fun _ => 0, fun _ => 0, fun _ => 0, fun _ => 0, lk_wr (fun _ => 0) 0 128 (fun _ => 255), lk_wr (fun _ => 0) 0 128 (fun _ => 255)) := by
    refine ⟨0, 0, 0, 0, 0, 0, R0, R1, 0, -1, -1, 0, 0, 0, _, _, _, _, _, _, _, _, _, _, _, _, _, _, _, _, _, _, _, _, _, _, _, _, _, _, _, _, _, _, _, _, _, _, _, _, _, _, _, _, _, _, rfl, rfl, ⟨by omega, by omega, by omega, rfl, rfl, rfl, rfl, rfl, fun i h => absurd h (Nat.not_lt_zero i)⟩, ⟨by omega, by omega, fun i h => absurd h (Nat.not_lt_zero i)⟩, ⟨by omega, fun i h => absurd h (Nat.not_lt_zero i)⟩, ⟨?_, pk_us, a1, a2, b1, b2⟩, ⟨fun j hj => ?_, fun j hj => ?_⟩, Or.inl ⟨rfl, hw⟩⟩
    · rw [pk_un (by decide), pk_us]
    · rw [hw j hj, hx j (by omega)]
    · rw [hw j hj, hx (256 + j) (by omega)]
  rw [em] at K
  refine lx_cl a3 (nm_e (lx_cl b3 (nm_e ?_)))
  refine lx_fill (s := 0) (e := 384) (by omega) (by omega) ?_
  rcases a3 with ⟨h1, h2, e⟩ | ⟨h1, h2, e⟩ | ⟨h1, e⟩
  · rw [← e] at K ⊢
    exact br_t h1 (br_t h2 (ly_297 b3 K))
  · rw [e] at K ⊢
    exact br_t h1 (br_f h2 (ly_297 b3 K))
  · rw [e] at K ⊢
    exact br_f h1 (ly_297 b3 K)
end
end
section
section
/-! R: feeding sections, bytes, relocations -/
def lk_Ai (m : Int32) : Prop := m = 1 ∨ m = 2 ∨ m = 4 ∨ m = 8 ∨ m = 16
theorem lk_Ai_A {m : Int32} (h : lk_Ai m) : ∃ A, lk_A A ∧ m = nI A := by
  rcases h with h | h | h | h | h
  · exact ⟨1, Or.inl rfl, h⟩
  · exact ⟨2, Or.inr (Or.inl rfl), h⟩
  · exact ⟨4, Or.inr (Or.inr (Or.inl rfl)), h⟩
  · exact ⟨8, Or.inr (Or.inr (Or.inr (Or.inl rfl))), h⟩
  · exact ⟨16, Or.inr (Or.inr (Or.inr (Or.inr rfl))), h⟩
theorem lx_isA {post : Int32 → Prop} {m : Int32} (h : lk_Ai m) (p : post 1) : wpX_isAlignment post m := by
  by_cases h1 : m = 1
  · exact br_t h1 p
  · by_cases h2 : m = 2
    · exact br_f h1 (br_t h2 p)
    · by_cases h3 : m = 4
      · exact br_f h1 (br_f h2 (br_t h3 p))
      · by_cases h4 : m = 8
        · exact br_f h1 (br_f h2 (br_f h3 (br_t h4 p)))
        · have h5 : m = 16 := by
            rcases h with h | h | h | h | h
            · exact absurd h h1
            · exact absurd h h2
            · exact absurd h h3
            · exact absurd h h4
            · exact h
          exact br_f h1 (br_f h2 (br_f h3 (br_f h4 (br_t h5 p))))
theorem lx_nA {post : Int32 → Prop} {m : Int32} (h : ¬ lk_Ai m) (p : post 0) : wpX_isAlignment post m :=
  br_f (fun z => h (Or.inl z)) (br_f (fun z => h (Or.inr (Or.inl z))) (br_f (fun z => h (Or.inr (Or.inr (Or.inl z)))) (br_f (fun z => h (Or.inr (Or.inr (Or.inr (Or.inl z))))) (br_f (fun z => h (Or.inr (Or.inr (Or.inr (Or.inr z))))) p))))
theorem ly_isA {post : Int32 → Prop} {yromSize yramSize yphase ynStmts ynOuts ynGroups ynIns ynBytes ynRelocs yopenOut yinGroup ycur yfinalC0 yfinalC1 : Int32} {ystOp ystA ystB ystOut youtReg youtLoaded youtGroup youtVma youtLma youtSize youtAlign youtRes ygStart ygEnd yinKind yinId yinAlign yinBss yinStart yinLen yinStmt yinLive yinVma yinLma ybytes yrSec yrOff yrType yrTgt yrAdd yrom yram : Nat → Int32} {m : Int32} (h : lk_Ai m) (p : post 1) : wpY_isAlign post (yromSize, yramSize, yphase, ynStmts, ynOuts, ynGroups, ynIns, ynBytes, ynRelocs, yopenOut, yinGroup, ycur, yfinalC0, yfinalC1, ystOp, ystA, ystB, ystOut, youtReg, youtLoaded, youtGroup, youtVma, youtLma, youtSize, youtAlign, youtRes, ygStart, ygEnd, yinKind, yinId, yinAlign, yinBss, yinStart, yinLen, yinStmt, yinLive, yinVma, yinLma, ybytes, yrSec, yrOff, yrType, yrTgt, yrAdd, yrom, yram) m := lx_isA (post := post) h p
theorem ly_nA {post : Int32 → Prop} {yromSize yramSize yphase ynStmts ynOuts ynGroups ynIns ynBytes ynRelocs yopenOut yinGroup ycur yfinalC0 yfinalC1 : Int32} {ystOp ystA ystB ystOut youtReg youtLoaded youtGroup youtVma youtLma youtSize youtAlign youtRes ygStart ygEnd yinKind yinId yinAlign yinBss yinStart yinLen yinStmt yinLive yinVma yinLma ybytes yrSec yrOff yrType yrTgt yrAdd yrom yram : Nat → Int32} {m : Int32} (h : ¬ lk_Ai m) (p : post 0) : wpY_isAlign post (yromSize, yramSize, yphase, ynStmts, ynOuts, ynGroups, ynIns, ynBytes, ynRelocs, yopenOut, yinGroup, ycur, yfinalC0, yfinalC1, ystOp, ystA, ystB, ystOut, youtReg, youtLoaded, youtGroup, youtVma, youtLma, youtSize, youtAlign, youtRes, ygStart, ygEnd, yinKind, yinId, yinAlign, yinBss, yinStart, yinLen, yinStmt, yinLive, yinVma, yinLma, ybytes, yrSec, yrOff, yrType, yrTgt, yrAdd, yrom, yram) m := lx_nA (post := post) h p
theorem i_vc_addByte {k : Nat} {u : SX} {v : SY} (I : i_Rel k u v) (hk : k + 5 ≤ 2562) (v1 : Int32) : wpX_addByte (fun r u' => wpY_addByte (fun r' v' => r' = r ∧ i_Rel (k + 5) u' v') v v1) u v1 := by
  have J := i_up I
  obtain ⟨ns, no, ng, ni, nb, nr, R0, R1, xphase, xopenOut, xopenGroup, yinGroup, yfinalC0, yfinalC1, xregionSize, xcounter, xmemory, xstmtOp, xstmtA, xstmtB, xstmtOwner, xoutRegion, xoutLoaded, xoutGroup, xoutAlign, xoutVma, xoutLma, xoutDot, xgroupStart, xgroupEnd, xgroupResident, xinKind, xinId, xinAlign, xinSize, xinFirstByte, xinStmt, xinLive, xinVma, xfedBytes, xrelocOwner, xrelocOffset, xrelocType, xrelocTarget, xrelocAddend, ystOut, youtSize, youtRes, ygStart, ygEnd, yinBss, yinLen, yinVma, yinLma, yrom, yram, rfl, rfl, hS, hN, hQ, hZ, hM, hP⟩ := I
  rcases Decidable.em (xphase = 0) with hp | hp
  · have hP0 : ∀ j, j < 128 → yrom j = 255 := by
      rcases hP with ⟨_, h⟩ | ⟨h, _⟩
      · exact h
      · rw [hp] at h; exact absurd h (by decide)
    rcases Nat.eq_zero_or_pos ni with h0 | h0
    · subst h0
      have a1 : nI 0 ≤ 0 := by decide
      have a2 : nI 0 - 1 < 0 := by decide
      repeat (first | refine br_t (by assumption) ?_ | refine br_f (by assumption) ?_ | refine br_t (by decide) ?_ | refine br_f (by decide) ?_ | refine nm_e ?_ | refine And.intro (by assumption) ?_ | refine And.intro rfl ?_ | refine lx_isA (by assumption) ?_ | refine lx_nA (by assumption) ?_ | refine ly_isA (by assumption) ?_ | refine ly_nA (by assumption) ?_)
      exact J
    · obtain ⟨m, rfl⟩ : ∃ m, ni = m + 1 := ⟨ni - 1, by omega⟩
      have n16 := hN.1
      have e : (nI (m + 1) - 1).toNatClampNeg = m := by rw [nI_pred, nI_clamp (by omega)]
      have a1 : ¬ nI (m + 1) ≤ 0 := nI_nle (by omega) (by omega)
      have a2 : ¬ nI (m + 1) - 1 < 0 := by rw [nI_pred]; exact nI_pos (by omega)
      have a3 : vp_in (nI (m + 1) - 1) 16 := by rw [nI_pred]; exact vp_in_nI (by omega) (by omega)
      by_cases hk3 : xinKind (nI (m + 1) - 1).toNatClampNeg = 3
      · repeat (first | refine br_t (by assumption) ?_ | refine br_f (by assumption) ?_ | refine br_t (by decide) ?_ | refine br_f (by decide) ?_ | refine nm_e ?_ | refine And.intro (by assumption) ?_ | refine And.intro rfl ?_ | refine lx_isA (by assumption) ?_ | refine lx_nA (by assumption) ?_ | refine ly_isA (by assumption) ?_ | refine ly_nA (by assumption) ?_)
        exact J
      · by_cases hb : nb < 256
        · have b1 : nI nb < 256 := nI_lt (b := 256) hb (by omega)
          have b2 : vp_in (nI nb) 256 := vp_in_nI hb (by omega)
          repeat (first | refine br_t (by assumption) ?_ | refine br_f (by assumption) ?_ | refine br_t (by decide) ?_ | refine br_f (by decide) ?_ | refine nm_e ?_ | refine And.intro (by assumption) ?_ | refine And.intro rfl ?_ | refine lx_isA (by assumption) ?_ | refine lx_nA (by assumption) ?_ | refine ly_isA (by assumption) ?_ | refine ly_nA (by assumption) ?_)
          rw [e, nI_clamp (show nb < 2 ^ 31 by omega), nI_1 nb]
          rw [e] at hk3
          refine ⟨ns, no, ng, (m + 1), (nb + 1), nr, R0, R1, xphase, xopenOut, xopenGroup, yinGroup, yfinalC0, yfinalC1, xregionSize, xcounter, xmemory, xstmtOp, xstmtA, xstmtB, xstmtOwner, xoutRegion, xoutLoaded, xoutGroup, xoutAlign, xoutVma, xoutLma, xoutDot, xgroupStart, xgroupEnd, xgroupResident, xinKind, xinId, xinAlign, _, xinFirstByte, xinStmt, xinLive, xinVma, _, xrelocOwner, xrelocOffset, xrelocType, xrelocTarget, xrelocAddend, ystOut, youtSize, youtRes, ygStart, ygEnd, yinBss, _, yinVma, yinLma, yrom, yram, rfl, rfl, hS, lk_N_byte hN hb hk3, lk_Q_byte hQ ?_, hZ, hM, Or.inl ⟨hp, hP0⟩⟩
          intro Z hz hz2
          obtain ⟨A, T, Z', Q', d1, d2, d3, d4, d5, d6, d7⟩ := hN.2.2 m (by omega)
          have : Z = Z' := (nI_eq (by omega) (by omega)).mp (hz.symm.trans d4)
          omega
        · have b1 : ¬ nI nb < 256 := nI_nlt (b := 256) (by omega) (by have := hN.2.1; omega)
          repeat (first | refine br_t (by assumption) ?_ | refine br_f (by assumption) ?_ | refine br_t (by decide) ?_ | refine br_f (by decide) ?_ | refine nm_e ?_ | refine And.intro (by assumption) ?_ | refine And.intro rfl ?_ | refine lx_isA (by assumption) ?_ | refine lx_nA (by assumption) ?_ | refine ly_isA (by assumption) ?_ | refine ly_nA (by assumption) ?_)
          exact J
  · repeat (first | refine br_t (by assumption) ?_ | refine br_f (by assumption) ?_ | refine br_t (by decide) ?_ | refine br_f (by decide) ?_ | refine nm_e ?_ | refine And.intro (by assumption) ?_ | refine And.intro rfl ?_ | refine lx_isA (by assumption) ?_ | refine lx_nA (by assumption) ?_ | refine ly_isA (by assumption) ?_ | refine ly_nA (by assumption) ?_)
    exact J
theorem lk_le2 {x y : Int32} {Z : Nat} (hZ : Z ≤ 256) (hy : y = nI Z) (h0 : ¬ x < 0) (h : x ≤ y - 2) : ∃ f, f + 2 ≤ Z ∧ x = nI f := by
  obtain ⟨f, hf, e⟩ := nI_of h0
  refine ⟨f, ?_, e⟩
  rw [hy, e] at h
  by_cases c : 2 ≤ Z
  · have e2 : nI Z - 2 = nI (Z - 2) := pk_sub (b := 2) c
    rw [e2, nI_leI hf (by omega)] at h
    omega
  · have e2 : nI Z - 2 < 0 := pk_sneg (b := 2) (by omega) (by omega)
    exact absurd (Int32.lt_of_le_of_lt h e2) (nI_pos hf)
theorem i_vc_addReloc {k : Nat} {u : SX} {v : SY} (I : i_Rel k u v) (hk : k + 5 ≤ 2562) (v1 : Int32) (v2 : Int32) (v3 : Int32) (v4 : Int32) : wpX_addReloc (fun r u' => wpY_addReloc (fun r' v' => r' = r ∧ i_Rel (k + 5) u' v') v v1 v2 v3 v4) u v1 v2 v3 v4 := by
  have J := i_up I
  obtain ⟨ns, no, ng, ni, nb, nr, R0, R1, xphase, xopenOut, xopenGroup, yinGroup, yfinalC0, yfinalC1, xregionSize, xcounter, xmemory, xstmtOp, xstmtA, xstmtB, xstmtOwner, xoutRegion, xoutLoaded, xoutGroup, xoutAlign, xoutVma, xoutLma, xoutDot, xgroupStart, xgroupEnd, xgroupResident, xinKind, xinId, xinAlign, xinSize, xinFirstByte, xinStmt, xinLive, xinVma, xfedBytes, xrelocOwner, xrelocOffset, xrelocType, xrelocTarget, xrelocAddend, ystOut, youtSize, youtRes, ygStart, ygEnd, yinBss, yinLen, yinVma, yinLma, yrom, yram, rfl, rfl, hS, hN, hQ, hZ, hM, hP⟩ := I
  rcases Decidable.em (xphase = 0) with hp | hp
  · have hP0 : ∀ j, j < 128 → yrom j = 255 := by
      rcases hP with ⟨_, h⟩ | ⟨h, _⟩
      · exact h
      · rw [hp] at h; exact absurd h (by decide)
    rcases Nat.eq_zero_or_pos ni with h0 | h0
    · subst h0
      have a1 : nI 0 ≤ 0 := by decide
      have a2 : nI 0 - 1 < 0 := by decide
      repeat (first | refine br_t (by assumption) ?_ | refine br_f (by assumption) ?_ | refine br_t (by decide) ?_ | refine br_f (by decide) ?_ | refine nm_e ?_ | refine And.intro (by assumption) ?_ | refine And.intro rfl ?_ | refine lx_isA (by assumption) ?_ | refine lx_nA (by assumption) ?_ | refine ly_isA (by assumption) ?_ | refine ly_nA (by assumption) ?_)
      exact J
    · obtain ⟨m, rfl⟩ : ∃ m, ni = m + 1 := ⟨ni - 1, by omega⟩
      have n16 := hN.1
      have r32 := hQ.1
      have e : (nI (m + 1) - 1).toNatClampNeg = m := by rw [nI_pred, nI_clamp (by omega)]
      have a1 : ¬ nI (m + 1) ≤ 0 := nI_nle (by omega) (by omega)
      have a2 : ¬ nI (m + 1) - 1 < 0 := by rw [nI_pred]; exact nI_pos (by omega)
      have a3 : vp_in (nI (m + 1) - 1) 16 := by rw [nI_pred]; exact vp_in_nI (by omega) (by omega)
      by_cases hk3 : xinKind (nI (m + 1) - 1).toNatClampNeg = 3
      · repeat (first | refine br_t (by assumption) ?_ | refine br_f (by assumption) ?_ | refine br_t (by decide) ?_ | refine br_f (by decide) ?_ | refine nm_e ?_ | refine And.intro (by assumption) ?_ | refine And.intro rfl ?_ | refine lx_isA (by assumption) ?_ | refine lx_nA (by assumption) ?_ | refine ly_isA (by assumption) ?_ | refine ly_nA (by assumption) ?_)
        exact J
      obtain ⟨A, T, Z, Q', d1, d2, d3, d4, d5, d6, d7⟩ := hN.2.2 m (by omega)
      have hb := hN.2.1
      have hZQ : Q' = Z := by
        rw [e] at hk3
        rcases d7 with ⟨z, _⟩ | ⟨_, z⟩
        · exact absurd z hk3
        · exact z
      by_cases b1 : v2 < 1
      · repeat (first | refine br_t (by assumption) ?_ | refine br_f (by assumption) ?_ | refine br_t (by decide) ?_ | refine br_f (by decide) ?_ | refine nm_e ?_ | refine And.intro (by assumption) ?_ | refine And.intro rfl ?_ | refine lx_isA (by assumption) ?_ | refine lx_nA (by assumption) ?_ | refine ly_isA (by assumption) ?_ | refine ly_nA (by assumption) ?_)
        exact J
      by_cases b2 : 3 < v2
      · repeat (first | refine br_t (by assumption) ?_ | refine br_f (by assumption) ?_ | refine br_t (by decide) ?_ | refine br_f (by decide) ?_ | refine nm_e ?_ | refine And.intro (by assumption) ?_ | refine And.intro rfl ?_ | refine lx_isA (by assumption) ?_ | refine lx_nA (by assumption) ?_ | refine ly_isA (by assumption) ?_ | refine ly_nA (by assumption) ?_)
        exact J
      by_cases b3 : v1 < 0
      · repeat (first | refine br_t (by assumption) ?_ | refine br_f (by assumption) ?_ | refine br_t (by decide) ?_ | refine br_f (by decide) ?_ | refine nm_e ?_ | refine And.intro (by assumption) ?_ | refine And.intro rfl ?_ | refine lx_isA (by assumption) ?_ | refine lx_nA (by assumption) ?_ | refine ly_isA (by assumption) ?_ | refine ly_nA (by assumption) ?_)
        exact J
      by_cases b4 : v1 ≤ xinSize (nI (m + 1) - 1).toNatClampNeg - 2
      · have b5 : v1 ≤ yinLen (nI (m + 1) - 1).toNatClampNeg - 2 := by
          rw [e, d6, hZQ] at b4
          rw [e, d4]
          exact b4
        by_cases b6 : v3 < 0
        · repeat (first | refine br_t (by assumption) ?_ | refine br_f (by assumption) ?_ | refine br_t (by decide) ?_ | refine br_f (by decide) ?_ | refine nm_e ?_ | refine And.intro (by assumption) ?_ | refine And.intro rfl ?_ | refine lx_isA (by assumption) ?_ | refine lx_nA (by assumption) ?_ | refine ly_isA (by assumption) ?_ | refine ly_nA (by assumption) ?_)
          exact J
        by_cases b7 : 15 < v3
        · repeat (first | refine br_t (by assumption) ?_ | refine br_f (by assumption) ?_ | refine br_t (by decide) ?_ | refine br_f (by decide) ?_ | refine nm_e ?_ | refine And.intro (by assumption) ?_ | refine And.intro rfl ?_ | refine lx_isA (by assumption) ?_ | refine lx_nA (by assumption) ?_ | refine ly_isA (by assumption) ?_ | refine ly_nA (by assumption) ?_)
          exact J
        by_cases b8 : v4 < -256
        · repeat (first | refine br_t (by assumption) ?_ | refine br_f (by assumption) ?_ | refine br_t (by decide) ?_ | refine br_f (by decide) ?_ | refine nm_e ?_ | refine And.intro (by assumption) ?_ | refine And.intro rfl ?_ | refine lx_isA (by assumption) ?_ | refine lx_nA (by assumption) ?_ | refine ly_isA (by assumption) ?_ | refine ly_nA (by assumption) ?_)
          exact J
        by_cases b9 : v4 ≤ 255
        · by_cases hr : nr < 32
          · have r1 : nI nr < 32 := nI_lt (b := 32) hr (by omega)
            have r2 : vp_in (nI nr) 32 := vp_in_nI hr (by omega)
            repeat (first | refine br_t (by assumption) ?_ | refine br_f (by assumption) ?_ | refine br_t (by decide) ?_ | refine br_f (by decide) ?_ | refine nm_e ?_ | refine And.intro (by assumption) ?_ | refine And.intro rfl ?_ | refine lx_isA (by assumption) ?_ | refine lx_nA (by assumption) ?_ | refine ly_isA (by assumption) ?_ | refine ly_nA (by assumption) ?_)
            rw [nI_clamp (show nr < 2 ^ 31 by omega), nI_1 nr]
            rw [e] at hk3
            rw [e, d4] at b5
            obtain ⟨f, hf, ef⟩ := lk_le2 (by omega) rfl b3 b5
            obtain ⟨t, ht, et⟩ := nI_of2 (M := 15) (n := 15) (by decide) b6 (Int32.not_lt.mp b7)
            have hQ' : lk_Q (nr + 1) (m + 1) xinKind yinLen (upd xrelocOwner nr (nI (m + 1) - 1)) (upd xrelocOffset nr v1) (upd xrelocTarget nr v3) := by
              rw [nI_pred, ef, et]
              exact lk_Q_rel hQ hr (by omega) hk3 d4 (by omega) hf (by omega)
            exact ⟨ns, no, ng, (m + 1), nb, (nr + 1), R0, R1, xphase, xopenOut, xopenGroup, yinGroup, yfinalC0, yfinalC1, xregionSize, xcounter, xmemory, xstmtOp, xstmtA, xstmtB, xstmtOwner, xoutRegion, xoutLoaded, xoutGroup, xoutAlign, xoutVma, xoutLma, xoutDot, xgroupStart, xgroupEnd, xgroupResident, xinKind, xinId, xinAlign, xinSize, xinFirstByte, xinStmt, xinLive, xinVma, xfedBytes, _, _, _, _, _, ystOut, youtSize, youtRes, ygStart, ygEnd, yinBss, yinLen, yinVma, yinLma, yrom, yram, rfl, rfl, hS, hN, hQ', hZ, hM, Or.inl ⟨hp, hP0⟩⟩
          · have r1 : ¬ nI nr < 32 := nI_nlt (b := 32) (by omega) (by omega)
            repeat (first | refine br_t (by assumption) ?_ | refine br_f (by assumption) ?_ | refine br_t (by decide) ?_ | refine br_f (by decide) ?_ | refine nm_e ?_ | refine And.intro (by assumption) ?_ | refine And.intro rfl ?_ | refine lx_isA (by assumption) ?_ | refine lx_nA (by assumption) ?_ | refine ly_isA (by assumption) ?_ | refine ly_nA (by assumption) ?_)
            exact J
        · repeat (first | refine br_t (by assumption) ?_ | refine br_f (by assumption) ?_ | refine br_t (by decide) ?_ | refine br_f (by decide) ?_ | refine nm_e ?_ | refine And.intro (by assumption) ?_ | refine And.intro rfl ?_ | refine lx_isA (by assumption) ?_ | refine lx_nA (by assumption) ?_ | refine ly_isA (by assumption) ?_ | refine ly_nA (by assumption) ?_)
          exact J
      · have b5 : ¬ v1 ≤ yinLen (nI (m + 1) - 1).toNatClampNeg - 2 := by
          rw [e, d6, hZQ] at b4
          rw [e, d4]
          exact b4
        repeat (first | refine br_t (by assumption) ?_ | refine br_f (by assumption) ?_ | refine br_t (by decide) ?_ | refine br_f (by decide) ?_ | refine nm_e ?_ | refine And.intro (by assumption) ?_ | refine And.intro rfl ?_ | refine lx_isA (by assumption) ?_ | refine lx_nA (by assumption) ?_ | refine ly_isA (by assumption) ?_ | refine ly_nA (by assumption) ?_)
        exact J
  · repeat (first | refine br_t (by assumption) ?_ | refine br_f (by assumption) ?_ | refine br_t (by decide) ?_ | refine br_f (by decide) ?_ | refine nm_e ?_ | refine And.intro (by assumption) ?_ | refine And.intro rfl ?_ | refine lx_isA (by assumption) ?_ | refine lx_nA (by assumption) ?_ | refine ly_isA (by assumption) ?_ | refine ly_nA (by assumption) ?_)
    exact J
theorem i_vc_beginSection {k : Nat} {u : SX} {v : SY} (I : i_Rel k u v) (hk : k + 5 ≤ 2562) (v1 : Int32) (v2 : Int32) (v3 : Int32) (v4 : Int32) : wpX_beginSection (fun r u' => wpY_beginSection (fun r' v' => r' = r ∧ i_Rel (k + 5) u' v') v v1 v2 v3 v4) u v1 v2 v3 v4 := by
  have J := i_up I
  obtain ⟨ns, no, ng, ni, nb, nr, R0, R1, xphase, xopenOut, xopenGroup, yinGroup, yfinalC0, yfinalC1, xregionSize, xcounter, xmemory, xstmtOp, xstmtA, xstmtB, xstmtOwner, xoutRegion, xoutLoaded, xoutGroup, xoutAlign, xoutVma, xoutLma, xoutDot, xgroupStart, xgroupEnd, xgroupResident, xinKind, xinId, xinAlign, xinSize, xinFirstByte, xinStmt, xinLive, xinVma, xfedBytes, xrelocOwner, xrelocOffset, xrelocType, xrelocTarget, xrelocAddend, ystOut, youtSize, youtRes, ygStart, ygEnd, yinBss, yinLen, yinVma, yinLma, yrom, yram, rfl, rfl, hS, hN, hQ, hZ, hM, hP⟩ := I
  rcases Decidable.em (xphase = 0) with hp | hp
  · have hP0 : ∀ j, j < 128 → yrom j = 255 := by
      rcases hP with ⟨_, h⟩ | ⟨h, _⟩
      · exact h
      · rw [hp] at h; exact absurd h (by decide)
    have n16 := hN.1
    by_cases b1 : v1 < 1
    · repeat (first | refine br_t (by assumption) ?_ | refine br_f (by assumption) ?_ | refine br_t (by decide) ?_ | refine br_f (by decide) ?_ | refine nm_e ?_ | refine And.intro (by assumption) ?_ | refine And.intro rfl ?_ | refine lx_isA (by assumption) ?_ | refine lx_nA (by assumption) ?_ | refine ly_isA (by assumption) ?_ | refine ly_nA (by assumption) ?_)
      exact J
    by_cases b2 : 3 < v1
    · repeat (first | refine br_t (by assumption) ?_ | refine br_f (by assumption) ?_ | refine br_t (by decide) ?_ | refine br_f (by decide) ?_ | refine nm_e ?_ | refine And.intro (by assumption) ?_ | refine And.intro rfl ?_ | refine lx_isA (by assumption) ?_ | refine lx_nA (by assumption) ?_ | refine ly_isA (by assumption) ?_ | refine ly_nA (by assumption) ?_)
      exact J
    by_cases b3 : v2 < 0
    · repeat (first | refine br_t (by assumption) ?_ | refine br_f (by assumption) ?_ | refine br_t (by decide) ?_ | refine br_f (by decide) ?_ | refine nm_e ?_ | refine And.intro (by assumption) ?_ | refine And.intro rfl ?_ | refine lx_isA (by assumption) ?_ | refine lx_nA (by assumption) ?_ | refine ly_isA (by assumption) ?_ | refine ly_nA (by assumption) ?_)
      exact J
    by_cases b4 : 15 < v2
    · repeat (first | refine br_t (by assumption) ?_ | refine br_f (by assumption) ?_ | refine br_t (by decide) ?_ | refine br_f (by decide) ?_ | refine nm_e ?_ | refine And.intro (by assumption) ?_ | refine And.intro rfl ?_ | refine lx_isA (by assumption) ?_ | refine lx_nA (by assumption) ?_ | refine ly_isA (by assumption) ?_ | refine ly_nA (by assumption) ?_)
      exact J
    rcases Classical.em (lk_Ai v3) with b5 | b5
    · by_cases hn : ni < 16
      · have r1 : nI ni < 16 := nI_lt (b := 16) hn (by omega)
        have r2 : vp_in (nI ni) 16 := vp_in_nI hn (by omega)
        obtain ⟨A, hA, eA⟩ := lk_Ai_A b5
        have r3 : nI ni = nI ni + 1 - 1 := by rw [nI_1, nI_pred]
        by_cases b6 : v1 = 3
        · by_cases b7 : v4 < 0
          · repeat (first | refine br_t (by assumption) ?_ | refine br_f (by assumption) ?_ | refine br_t (by decide) ?_ | refine br_f (by decide) ?_ | refine nm_e ?_ | refine And.intro (by assumption) ?_ | refine And.intro rfl ?_ | refine lx_isA (by assumption) ?_ | refine lx_nA (by assumption) ?_ | refine ly_isA (by assumption) ?_ | refine ly_nA (by assumption) ?_)
            exact J
          by_cases b8 : v4 ≤ 128
          · repeat (first | refine br_t (by assumption) ?_ | refine br_f (by assumption) ?_ | refine br_t (by decide) ?_ | refine br_f (by decide) ?_ | refine nm_e ?_ | refine And.intro (by assumption) ?_ | refine And.intro rfl ?_ | refine lx_isA (by assumption) ?_ | refine lx_nA (by assumption) ?_ | refine ly_isA (by assumption) ?_ | refine ly_nA (by assumption) ?_)
            obtain ⟨Qn, hq, eq⟩ := nI_of2 (M := 128) (n := 128) (by decide) b7 b8
            rw [nI_clamp (show ni < 2 ^ 31 by omega)]
            have K : i_Rel (k + 5) (xphase, (nI ns), xopenOut, xopenGroup, (nI no), (nI ng), (nI (ni + 1)), (nI nb), (nI nr), xregionSize, xcounter, xmemory, xstmtOp, xstmtA, xstmtB, xstmtOwner, xoutRegion, xoutLoaded, xoutGroup, xoutAlign, xoutVma, xoutLma, xoutDot, xgroupStart, xgroupEnd, xgroupResident, (upd xinKind ni v1), (upd xinId ni v2), (upd xinAlign ni v3), (upd xinSize ni v4), (upd xinFirstByte ni (nI nb)), xinStmt, xinLive, xinVma, xfedBytes, xrelocOwner, xrelocOffset, xrelocType, xrelocTarget, xrelocAddend) ((nI R0), (nI R1), xphase, (nI ns), (nI no), (nI ng), (nI (ni + 1)), (nI nb), (nI nr), xopenOut, yinGroup, (nI (ni + 1) - 1), yfinalC0, yfinalC1, xstmtOp, xstmtA, xstmtB, ystOut, xoutRegion, xoutLoaded, xoutGroup, xoutVma, xoutLma, youtSize, xoutAlign, youtRes, ygStart, ygEnd, (upd xinKind ni v1), (upd xinId ni v2), (upd xinAlign ni v3), (upd yinBss ni v4), (upd xinFirstByte ni (nI nb)), (upd yinLen ni 0), xinStmt, xinLive, yinVma, yinLma, xfedBytes, xrelocOwner, xrelocOffset, xrelocType, xrelocTarget, xrelocAddend, yrom, yram) := ⟨ns, no, ng, (ni + 1), nb, nr, R0, R1, xphase, xopenOut, xopenGroup, yinGroup, yfinalC0, yfinalC1, xregionSize, xcounter, xmemory, xstmtOp, xstmtA, xstmtB, xstmtOwner, xoutRegion, xoutLoaded, xoutGroup, xoutAlign, xoutVma, xoutLma, xoutDot, xgroupStart, xgroupEnd, xgroupResident, _, _, _, _, _, xinStmt, xinLive, xinVma, xfedBytes, xrelocOwner, xrelocOffset, xrelocType, xrelocTarget, xrelocAddend, ystOut, youtSize, youtRes, ygStart, ygEnd, _, _, yinVma, yinLma, yrom, yram, rfl, rfl, hS, by rw [eA, eq]; exact lk_N_sec hN hn hA (Or.inl ⟨b6, hq⟩), lk_Q_sec hQ, hZ, hM, Or.inl ⟨hp, hP0⟩⟩
            rw [nI_pred, ← nI_1] at K
            exact K
          · repeat (first | refine br_t (by assumption) ?_ | refine br_f (by assumption) ?_ | refine br_t (by decide) ?_ | refine br_f (by decide) ?_ | refine nm_e ?_ | refine And.intro (by assumption) ?_ | refine And.intro rfl ?_ | refine lx_isA (by assumption) ?_ | refine lx_nA (by assumption) ?_ | refine ly_isA (by assumption) ?_ | refine ly_nA (by assumption) ?_)
            exact J
        · repeat (first | refine br_t (by assumption) ?_ | refine br_f (by assumption) ?_ | refine br_t (by decide) ?_ | refine br_f (by decide) ?_ | refine nm_e ?_ | refine And.intro (by assumption) ?_ | refine And.intro rfl ?_ | refine lx_isA (by assumption) ?_ | refine lx_nA (by assumption) ?_ | refine ly_isA (by assumption) ?_ | refine ly_nA (by assumption) ?_)
          rw [nI_clamp (show ni < 2 ^ 31 by omega)]
          have K : i_Rel (k + 5) (xphase, (nI ns), xopenOut, xopenGroup, (nI no), (nI ng), (nI (ni + 1)), (nI nb), (nI nr), xregionSize, xcounter, xmemory, xstmtOp, xstmtA, xstmtB, xstmtOwner, xoutRegion, xoutLoaded, xoutGroup, xoutAlign, xoutVma, xoutLma, xoutDot, xgroupStart, xgroupEnd, xgroupResident, (upd xinKind ni v1), (upd xinId ni v2), (upd xinAlign ni v3), (upd xinSize ni 0), (upd xinFirstByte ni (nI nb)), xinStmt, xinLive, xinVma, xfedBytes, xrelocOwner, xrelocOffset, xrelocType, xrelocTarget, xrelocAddend) ((nI R0), (nI R1), xphase, (nI ns), (nI no), (nI ng), (nI (ni + 1)), (nI nb), (nI nr), xopenOut, yinGroup, (nI (ni + 1) - 1), yfinalC0, yfinalC1, xstmtOp, xstmtA, xstmtB, ystOut, xoutRegion, xoutLoaded, xoutGroup, xoutVma, xoutLma, youtSize, xoutAlign, youtRes, ygStart, ygEnd, (upd xinKind ni v1), (upd xinId ni v2), (upd xinAlign ni v3), (upd yinBss ni 0), (upd xinFirstByte ni (nI nb)), (upd yinLen ni 0), xinStmt, xinLive, yinVma, yinLma, xfedBytes, xrelocOwner, xrelocOffset, xrelocType, xrelocTarget, xrelocAddend, yrom, yram) := ⟨ns, no, ng, (ni + 1), nb, nr, R0, R1, xphase, xopenOut, xopenGroup, yinGroup, yfinalC0, yfinalC1, xregionSize, xcounter, xmemory, xstmtOp, xstmtA, xstmtB, xstmtOwner, xoutRegion, xoutLoaded, xoutGroup, xoutAlign, xoutVma, xoutLma, xoutDot, xgroupStart, xgroupEnd, xgroupResident, _, _, _, _, _, xinStmt, xinLive, xinVma, xfedBytes, xrelocOwner, xrelocOffset, xrelocType, xrelocTarget, xrelocAddend, ystOut, youtSize, youtRes, ygStart, ygEnd, _, _, yinVma, yinLma, yrom, yram, rfl, rfl, hS, by rw [eA]; exact lk_N_sec (Q := 0) hN hn hA (Or.inr ⟨b6, rfl⟩), lk_Q_sec hQ, hZ, hM, Or.inl ⟨hp, hP0⟩⟩
          rw [nI_pred, ← nI_1] at K
          exact K
      · have r1 : ¬ nI ni < 16 := nI_nlt (b := 16) (by omega) (by omega)
        by_cases b6 : v1 = 3
        · by_cases b7 : v4 < 0
          · repeat (first | refine br_t (by assumption) ?_ | refine br_f (by assumption) ?_ | refine br_t (by decide) ?_ | refine br_f (by decide) ?_ | refine nm_e ?_ | refine And.intro (by assumption) ?_ | refine And.intro rfl ?_ | refine lx_isA (by assumption) ?_ | refine lx_nA (by assumption) ?_ | refine ly_isA (by assumption) ?_ | refine ly_nA (by assumption) ?_)
            exact J
          by_cases b8 : v4 ≤ 128
          · repeat (first | refine br_t (by assumption) ?_ | refine br_f (by assumption) ?_ | refine br_t (by decide) ?_ | refine br_f (by decide) ?_ | refine nm_e ?_ | refine And.intro (by assumption) ?_ | refine And.intro rfl ?_ | refine lx_isA (by assumption) ?_ | refine lx_nA (by assumption) ?_ | refine ly_isA (by assumption) ?_ | refine ly_nA (by assumption) ?_)
            exact J
          · repeat (first | refine br_t (by assumption) ?_ | refine br_f (by assumption) ?_ | refine br_t (by decide) ?_ | refine br_f (by decide) ?_ | refine nm_e ?_ | refine And.intro (by assumption) ?_ | refine And.intro rfl ?_ | refine lx_isA (by assumption) ?_ | refine lx_nA (by assumption) ?_ | refine ly_isA (by assumption) ?_ | refine ly_nA (by assumption) ?_)
            exact J
        · repeat (first | refine br_t (by assumption) ?_ | refine br_f (by assumption) ?_ | refine br_t (by decide) ?_ | refine br_f (by decide) ?_ | refine nm_e ?_ | refine And.intro (by assumption) ?_ | refine And.intro rfl ?_ | refine lx_isA (by assumption) ?_ | refine lx_nA (by assumption) ?_ | refine ly_isA (by assumption) ?_ | refine ly_nA (by assumption) ?_)
          exact J
    · repeat (first | refine br_t (by assumption) ?_ | refine br_f (by assumption) ?_ | refine br_t (by decide) ?_ | refine br_f (by decide) ?_ | refine nm_e ?_ | refine And.intro (by assumption) ?_ | refine And.intro rfl ?_ | refine lx_isA (by assumption) ?_ | refine lx_nA (by assumption) ?_ | refine ly_isA (by assumption) ?_ | refine ly_nA (by assumption) ?_)
      exact J
  · repeat (first | refine br_t (by assumption) ?_ | refine br_f (by assumption) ?_ | refine br_t (by decide) ?_ | refine br_f (by decide) ?_ | refine nm_e ?_ | refine And.intro (by assumption) ?_ | refine And.intro rfl ?_ | refine lx_isA (by assumption) ?_ | refine lx_nA (by assumption) ?_ | refine ly_isA (by assumption) ?_ | refine ly_nA (by assumption) ?_)
    exact J
end
end
section
section
theorem lk_01 (x : Int32) : x = 0 ∨ x = 1 ∨ (¬ x = 0 ∧ ¬ x = 1 ∧ x < 0) ∨ (¬ x = 0 ∧ ¬ x = 1 ∧ ¬ x < 0 ∧ 1 < x ∧ ¬ x ≤ 1) := by
  by_cases h0 : x = 0
  · exact Or.inl h0
  by_cases h1 : x = 1
  · exact Or.inr (Or.inl h1)
  by_cases h2 : x < 0
  · exact Or.inr (Or.inr (Or.inl ⟨h0, h1, h2⟩))
  have h3 : ¬ x ≤ 1 := by
    intro h
    obtain ⟨j, hj, e⟩ := nI_of2 (M := 1) (n := 1) (by decide) h2 h
    rcases Nat.le_one_iff_eq_zero_or_eq_one.mp hj with z | z
    · exact h0 (by rw [e, z]; rfl)
    · exact h1 (by rw [e, z]; rfl)
  exact Or.inr (Or.inr (Or.inr ⟨h0, h1, h2, Int32.not_le.mp h3, h3⟩))
theorem lk_scr1 {k : Nat} {ns no ng ni nb nr R0 R1 : Nat} {xphase xopenOut xopenGroup yinGroup yfinalC0 yfinalC1 : Int32} {xregionSize xcounter xmemory xstmtOp xstmtA xstmtB xstmtOwner xoutRegion xoutLoaded xoutGroup xoutAlign xoutVma xoutLma xoutDot xgroupStart xgroupEnd xgroupResident xinKind xinId xinAlign xinSize xinFirstByte xinStmt xinLive xinVma xfedBytes xrelocOwner xrelocOffset xrelocType xrelocTarget xrelocAddend ystOut youtSize youtRes ygStart ygEnd yinBss yinLen yinVma yinLma yrom yram : Nat → Int32} {v2 v3 : Int32} (J : i_Rel (k + 5) (xphase, (nI ns), xopenOut, xopenGroup, (nI no), (nI ng), (nI ni), (nI nb), (nI nr), xregionSize, xcounter, xmemory, xstmtOp, xstmtA, xstmtB, xstmtOwner, xoutRegion, xoutLoaded, xoutGroup, xoutAlign, xoutVma, xoutLma, xoutDot, xgroupStart, xgroupEnd, xgroupResident, xinKind, xinId, xinAlign, xinSize, xinFirstByte, xinStmt, xinLive, xinVma, xfedBytes, xrelocOwner, xrelocOffset, xrelocType, xrelocTarget, xrelocAddend) ((nI R0), (nI R1), xphase, (nI ns), (nI no), (nI ng), (nI ni), (nI nb), (nI nr), xopenOut, yinGroup, (nI ni - 1), yfinalC0, yfinalC1, xstmtOp, xstmtA, xstmtB, ystOut, xoutRegion, xoutLoaded, xoutGroup, xoutVma, xoutLma, youtSize, xoutAlign, youtRes, ygStart, ygEnd, xinKind, xinId, xinAlign, yinBss, xinFirstByte, yinLen, xinStmt, xinLive, yinVma, yinLma, xfedBytes, xrelocOwner, xrelocOffset, xrelocType, xrelocTarget, xrelocAddend, yrom, yram)) (hS : lk_S ns no ng xstmtOp xstmtA xstmtB xstmtOwner ystOut xoutRegion xoutLoaded xoutGroup xopenOut xopenGroup yinGroup) (K : ∀ {ns no ng : Nat} {xopenOut xopenGroup yinGroup : Int32} {xstmtOp xstmtA xstmtB xstmtOwner xoutRegion xoutLoaded xoutGroup ystOut : Nat → Int32}, lk_S ns no ng xstmtOp xstmtA xstmtB xstmtOwner ystOut xoutRegion xoutLoaded xoutGroup xopenOut xopenGroup yinGroup → i_Rel (k + 5) (xphase, (nI ns), xopenOut, xopenGroup, (nI no), (nI ng), (nI ni), (nI nb), (nI nr), xregionSize, xcounter, xmemory, xstmtOp, xstmtA, xstmtB, xstmtOwner, xoutRegion, xoutLoaded, xoutGroup, xoutAlign, xoutVma, xoutLma, xoutDot, xgroupStart, xgroupEnd, xgroupResident, xinKind, xinId, xinAlign, xinSize, xinFirstByte, xinStmt, xinLive, xinVma, xfedBytes, xrelocOwner, xrelocOffset, xrelocType, xrelocTarget, xrelocAddend) ((nI R0), (nI R1), xphase, (nI ns), (nI no), (nI ng), (nI ni), (nI nb), (nI nr), xopenOut, yinGroup, (nI ni - 1), yfinalC0, yfinalC1, xstmtOp, xstmtA, xstmtB, ystOut, xoutRegion, xoutLoaded, xoutGroup, xoutVma, xoutLma, youtSize, xoutAlign, youtRes, ygStart, ygEnd, xinKind, xinId, xinAlign, yinBss, xinFirstByte, yinLen, xinStmt, xinLive, yinVma, yinLma, xfedBytes, xrelocOwner, xrelocOffset, xrelocType, xrelocTarget, xrelocAddend, yrom, yram)) (hp : xphase = 0) : wpX_script (fun r u' => wpY_script (fun r' v' => r' = r ∧ i_Rel (k + 5) u' v') ((nI R0), (nI R1), xphase, (nI ns), (nI no), (nI ng), (nI ni), (nI nb), (nI nr), xopenOut, yinGroup, (nI ni - 1), yfinalC0, yfinalC1, xstmtOp, xstmtA, xstmtB, ystOut, xoutRegion, xoutLoaded, xoutGroup, xoutVma, xoutLma, youtSize, xoutAlign, youtRes, ygStart, ygEnd, xinKind, xinId, xinAlign, yinBss, xinFirstByte, yinLen, xinStmt, xinLive, yinVma, yinLma, xfedBytes, xrelocOwner, xrelocOffset, xrelocType, xrelocTarget, xrelocAddend, yrom, yram) 1 v2 v3) (xphase, (nI ns), xopenOut, xopenGroup, (nI no), (nI ng), (nI ni), (nI nb), (nI nr), xregionSize, xcounter, xmemory, xstmtOp, xstmtA, xstmtB, xstmtOwner, xoutRegion, xoutLoaded, xoutGroup, xoutAlign, xoutVma, xoutLma, xoutDot, xgroupStart, xgroupEnd, xgroupResident, xinKind, xinId, xinAlign, xinSize, xinFirstByte, xinStmt, xinLive, xinVma, xfedBytes, xrelocOwner, xrelocOffset, xrelocType, xrelocTarget, xrelocAddend) 1 v2 v3 := by
  obtain ⟨c1, c2, c3, c4, c5, c6, c7, c8, c9⟩ := id hS
  rcases Bool.eq_false_or_eq_true (lk_is xstmtOp ns) with his | his
  · have hno := lk_is_p ns his
    rw [← c4] at hno
    rw [his, if_pos rfl] at c6
    subst c6
    have o1 : ¬ nI (no - 1) = -1 := lk_nn1 (by omega)
    have o2 : ¬ nI (no - 1) < 0 := nI_pos (by omega)
    rcases Bool.eq_false_or_eq_true (lk_ig xstmtOp ns) with hig | hig
    · have hng := lk_ig_p ns hig
      rw [← c5] at hng
      rw [hig, if_pos rfl] at c7 c8
      subst c7
      subst c8
      have g1 : ¬ nI (ng - 1) = -1 := lk_nn1 (by omega)
      repeat (first | refine br_t (by assumption) ?_ | refine br_f (by assumption) ?_ | refine br_t (by decide) ?_ | refine br_f (by decide) ?_ | refine nm_e ?_ | refine And.intro (by assumption) ?_ | refine And.intro rfl ?_ | refine lx_isA (by assumption) ?_ | refine lx_nA (by assumption) ?_ | refine ly_isA (by assumption) ?_ | refine ly_nA (by assumption) ?_)
      exact J
    · rw [hig, if_neg (by decide)] at c7 c8
      subst c7
      subst c8
      repeat (first | refine br_t (by assumption) ?_ | refine br_f (by assumption) ?_ | refine br_t (by decide) ?_ | refine br_f (by decide) ?_ | refine nm_e ?_ | refine And.intro (by assumption) ?_ | refine And.intro rfl ?_ | refine lx_isA (by assumption) ?_ | refine lx_nA (by assumption) ?_ | refine ly_isA (by assumption) ?_ | refine ly_nA (by assumption) ?_)
      exact J
  · rw [his, if_neg (by decide)] at c6
    subst c6
    rcases Bool.eq_false_or_eq_true (lk_ig xstmtOp ns) with hig | hig
    · have hng := lk_ig_p ns hig
      rw [← c5] at hng
      rw [hig, if_pos rfl] at c7 c8
      subst c7
      subst c8
      have g1 : ¬ nI (ng - 1) = -1 := lk_nn1 (by omega)
      rcases lk_01 v2 with rfl | rfl | ⟨a1, a2, a3⟩ | ⟨a1, a2, a3, a4, a5⟩
      · rcases lk_01 v3 with rfl | rfl | ⟨b1, b2, b3⟩ | ⟨b1, b2, b3, b4, b5⟩
        · repeat (first | refine br_t (by assumption) ?_ | refine br_f (by assumption) ?_ | refine br_t (by decide) ?_ | refine br_f (by decide) ?_ | refine nm_e ?_ | refine And.intro (by assumption) ?_ | refine And.intro rfl ?_ | refine lx_isA (by assumption) ?_ | refine lx_nA (by assumption) ?_ | refine ly_isA (by assumption) ?_ | refine ly_nA (by assumption) ?_)
          exact J
        · repeat (first | refine br_t (by assumption) ?_ | refine br_f (by assumption) ?_ | refine br_t (by decide) ?_ | refine br_f (by decide) ?_ | refine nm_e ?_ | refine And.intro (by assumption) ?_ | refine And.intro rfl ?_ | refine lx_isA (by assumption) ?_ | refine lx_nA (by assumption) ?_ | refine ly_isA (by assumption) ?_ | refine ly_nA (by assumption) ?_)
          exact J
        · repeat (first | refine br_t (by assumption) ?_ | refine br_f (by assumption) ?_ | refine br_t (by decide) ?_ | refine br_f (by decide) ?_ | refine nm_e ?_ | refine And.intro (by assumption) ?_ | refine And.intro rfl ?_ | refine lx_isA (by assumption) ?_ | refine lx_nA (by assumption) ?_ | refine ly_isA (by assumption) ?_ | refine ly_nA (by assumption) ?_)
          exact J
        · repeat (first | refine br_t (by assumption) ?_ | refine br_f (by assumption) ?_ | refine br_t (by decide) ?_ | refine br_f (by decide) ?_ | refine nm_e ?_ | refine And.intro (by assumption) ?_ | refine And.intro rfl ?_ | refine lx_isA (by assumption) ?_ | refine lx_nA (by assumption) ?_ | refine ly_isA (by assumption) ?_ | refine ly_nA (by assumption) ?_)
          exact J
      · rcases lk_01 v3 with rfl | rfl | ⟨b1, b2, b3⟩ | ⟨b1, b2, b3, b4, b5⟩
        · by_cases hn : ns < 32
          · have n1 : nI ns < 32 := nI_lt (b := 32) hn (by omega)
            have n2 : vp_in (nI ns) 32 := vp_in_nI hn (by omega)
            by_cases ho : no < 8
            · have n3 : nI no < 8 := nI_lt (b := 8) ho (by omega)
              have n4 : ¬ 8 ≤ nI no := nI_ge (b := 8) ho (by omega)
              have n5 : vp_in (nI no) 8 := vp_in_nI ho (by omega)
              repeat (first | refine br_t (by assumption) ?_ | refine br_f (by assumption) ?_ | refine br_t (by decide) ?_ | refine br_f (by decide) ?_ | refine nm_e ?_ | refine And.intro (by assumption) ?_ | refine And.intro rfl ?_ | refine lx_isA (by assumption) ?_ | refine lx_nA (by assumption) ?_ | refine ly_isA (by assumption) ?_ | refine ly_nA (by assumption) ?_)
              have eg : nI ng - 1 = nI (ng - 1) := pk_sub (b := 1) hng
              rw [eg, nI_clamp (show ns < 2 ^ 31 by omega), nI_1 ns, nI_clamp (show no < 2 ^ 31 by omega), nI_1 no]
              exact K (lk_S_sec hS hn ho his (Or.inr ⟨rfl, Or.inl rfl⟩))
            · have n3 : ¬ nI no < 8 := nI_nlt (b := 8) (by omega) (by omega)
              have n4 : 8 ≤ nI no := nI_le (a := 8) (by omega) (by omega)
              repeat (first | refine br_t (by assumption) ?_ | refine br_f (by assumption) ?_ | refine br_t (by decide) ?_ | refine br_f (by decide) ?_ | refine nm_e ?_ | refine And.intro (by assumption) ?_ | refine And.intro rfl ?_ | refine lx_isA (by assumption) ?_ | refine lx_nA (by assumption) ?_ | refine ly_isA (by assumption) ?_ | refine ly_nA (by assumption) ?_)
              exact J
          · have n1 : ¬ nI ns < 32 := nI_nlt (b := 32) (by omega) (by omega)
            repeat (first | refine br_t (by assumption) ?_ | refine br_f (by assumption) ?_ | refine br_t (by decide) ?_ | refine br_f (by decide) ?_ | refine nm_e ?_ | refine And.intro (by assumption) ?_ | refine And.intro rfl ?_ | refine lx_isA (by assumption) ?_ | refine lx_nA (by assumption) ?_ | refine ly_isA (by assumption) ?_ | refine ly_nA (by assumption) ?_)
            exact J
        · by_cases hn : ns < 32
          · have n1 : nI ns < 32 := nI_lt (b := 32) hn (by omega)
            have n2 : vp_in (nI ns) 32 := vp_in_nI hn (by omega)
            by_cases ho : no < 8
            · have n3 : nI no < 8 := nI_lt (b := 8) ho (by omega)
              have n4 : ¬ 8 ≤ nI no := nI_ge (b := 8) ho (by omega)
              have n5 : vp_in (nI no) 8 := vp_in_nI ho (by omega)
              repeat (first | refine br_t (by assumption) ?_ | refine br_f (by assumption) ?_ | refine br_t (by decide) ?_ | refine br_f (by decide) ?_ | refine nm_e ?_ | refine And.intro (by assumption) ?_ | refine And.intro rfl ?_ | refine lx_isA (by assumption) ?_ | refine lx_nA (by assumption) ?_ | refine ly_isA (by assumption) ?_ | refine ly_nA (by assumption) ?_)
              have eg : nI ng - 1 = nI (ng - 1) := pk_sub (b := 1) hng
              rw [eg, nI_clamp (show ns < 2 ^ 31 by omega), nI_1 ns, nI_clamp (show no < 2 ^ 31 by omega), nI_1 no]
              exact K (lk_S_sec hS hn ho his (Or.inr ⟨rfl, Or.inr rfl⟩))
            · have n3 : ¬ nI no < 8 := nI_nlt (b := 8) (by omega) (by omega)
              have n4 : 8 ≤ nI no := nI_le (a := 8) (by omega) (by omega)
              repeat (first | refine br_t (by assumption) ?_ | refine br_f (by assumption) ?_ | refine br_t (by decide) ?_ | refine br_f (by decide) ?_ | refine nm_e ?_ | refine And.intro (by assumption) ?_ | refine And.intro rfl ?_ | refine lx_isA (by assumption) ?_ | refine lx_nA (by assumption) ?_ | refine ly_isA (by assumption) ?_ | refine ly_nA (by assumption) ?_)
              exact J
          · have n1 : ¬ nI ns < 32 := nI_nlt (b := 32) (by omega) (by omega)
            repeat (first | refine br_t (by assumption) ?_ | refine br_f (by assumption) ?_ | refine br_t (by decide) ?_ | refine br_f (by decide) ?_ | refine nm_e ?_ | refine And.intro (by assumption) ?_ | refine And.intro rfl ?_ | refine lx_isA (by assumption) ?_ | refine lx_nA (by assumption) ?_ | refine ly_isA (by assumption) ?_ | refine ly_nA (by assumption) ?_)
            exact J
        · repeat (first | refine br_t (by assumption) ?_ | refine br_f (by assumption) ?_ | refine br_t (by decide) ?_ | refine br_f (by decide) ?_ | refine nm_e ?_ | refine And.intro (by assumption) ?_ | refine And.intro rfl ?_ | refine lx_isA (by assumption) ?_ | refine lx_nA (by assumption) ?_ | refine ly_isA (by assumption) ?_ | refine ly_nA (by assumption) ?_)
          exact J
        · repeat (first | refine br_t (by assumption) ?_ | refine br_f (by assumption) ?_ | refine br_t (by decide) ?_ | refine br_f (by decide) ?_ | refine nm_e ?_ | refine And.intro (by assumption) ?_ | refine And.intro rfl ?_ | refine lx_isA (by assumption) ?_ | refine lx_nA (by assumption) ?_ | refine ly_isA (by assumption) ?_ | refine ly_nA (by assumption) ?_)
          exact J
      · repeat (first | refine br_t (by assumption) ?_ | refine br_f (by assumption) ?_ | refine br_t (by decide) ?_ | refine br_f (by decide) ?_ | refine nm_e ?_ | refine And.intro (by assumption) ?_ | refine And.intro rfl ?_ | refine lx_isA (by assumption) ?_ | refine lx_nA (by assumption) ?_ | refine ly_isA (by assumption) ?_ | refine ly_nA (by assumption) ?_)
        exact J
      · repeat (first | refine br_t (by assumption) ?_ | refine br_f (by assumption) ?_ | refine br_t (by decide) ?_ | refine br_f (by decide) ?_ | refine nm_e ?_ | refine And.intro (by assumption) ?_ | refine And.intro rfl ?_ | refine lx_isA (by assumption) ?_ | refine lx_nA (by assumption) ?_ | refine ly_isA (by assumption) ?_ | refine ly_nA (by assumption) ?_)
        exact J
    · rw [hig, if_neg (by decide)] at c7 c8
      subst c7
      subst c8
      rcases lk_01 v2 with rfl | rfl | ⟨a1, a2, a3⟩ | ⟨a1, a2, a3, a4, a5⟩
      · rcases lk_01 v3 with rfl | rfl | ⟨b1, b2, b3⟩ | ⟨b1, b2, b3, b4, b5⟩
        · repeat (first | refine br_t (by assumption) ?_ | refine br_f (by assumption) ?_ | refine br_t (by decide) ?_ | refine br_f (by decide) ?_ | refine nm_e ?_ | refine And.intro (by assumption) ?_ | refine And.intro rfl ?_ | refine lx_isA (by assumption) ?_ | refine lx_nA (by assumption) ?_ | refine ly_isA (by assumption) ?_ | refine ly_nA (by assumption) ?_)
          exact J
        · by_cases hn : ns < 32
          · have n1 : nI ns < 32 := nI_lt (b := 32) hn (by omega)
            have n2 : vp_in (nI ns) 32 := vp_in_nI hn (by omega)
            by_cases ho : no < 8
            · have n3 : nI no < 8 := nI_lt (b := 8) ho (by omega)
              have n4 : ¬ 8 ≤ nI no := nI_ge (b := 8) ho (by omega)
              have n5 : vp_in (nI no) 8 := vp_in_nI ho (by omega)
              repeat (first | refine br_t (by assumption) ?_ | refine br_f (by assumption) ?_ | refine br_t (by decide) ?_ | refine br_f (by decide) ?_ | refine nm_e ?_ | refine And.intro (by assumption) ?_ | refine And.intro rfl ?_ | refine lx_isA (by assumption) ?_ | refine lx_nA (by assumption) ?_ | refine ly_isA (by assumption) ?_ | refine ly_nA (by assumption) ?_)
              rw [nI_clamp (show ns < 2 ^ 31 by omega), nI_1 ns, nI_clamp (show no < 2 ^ 31 by omega), nI_1 no]
              exact K (lk_S_sec hS hn ho his (Or.inl ⟨rfl, rfl, hig⟩))
            · have n3 : ¬ nI no < 8 := nI_nlt (b := 8) (by omega) (by omega)
              have n4 : 8 ≤ nI no := nI_le (a := 8) (by omega) (by omega)
              repeat (first | refine br_t (by assumption) ?_ | refine br_f (by assumption) ?_ | refine br_t (by decide) ?_ | refine br_f (by decide) ?_ | refine nm_e ?_ | refine And.intro (by assumption) ?_ | refine And.intro rfl ?_ | refine lx_isA (by assumption) ?_ | refine lx_nA (by assumption) ?_ | refine ly_isA (by assumption) ?_ | refine ly_nA (by assumption) ?_)
              exact J
          · have n1 : ¬ nI ns < 32 := nI_nlt (b := 32) (by omega) (by omega)
            repeat (first | refine br_t (by assumption) ?_ | refine br_f (by assumption) ?_ | refine br_t (by decide) ?_ | refine br_f (by decide) ?_ | refine nm_e ?_ | refine And.intro (by assumption) ?_ | refine And.intro rfl ?_ | refine lx_isA (by assumption) ?_ | refine lx_nA (by assumption) ?_ | refine ly_isA (by assumption) ?_ | refine ly_nA (by assumption) ?_)
            exact J
        · repeat (first | refine br_t (by assumption) ?_ | refine br_f (by assumption) ?_ | refine br_t (by decide) ?_ | refine br_f (by decide) ?_ | refine nm_e ?_ | refine And.intro (by assumption) ?_ | refine And.intro rfl ?_ | refine lx_isA (by assumption) ?_ | refine lx_nA (by assumption) ?_ | refine ly_isA (by assumption) ?_ | refine ly_nA (by assumption) ?_)
          exact J
        · repeat (first | refine br_t (by assumption) ?_ | refine br_f (by assumption) ?_ | refine br_t (by decide) ?_ | refine br_f (by decide) ?_ | refine nm_e ?_ | refine And.intro (by assumption) ?_ | refine And.intro rfl ?_ | refine lx_isA (by assumption) ?_ | refine lx_nA (by assumption) ?_ | refine ly_isA (by assumption) ?_ | refine ly_nA (by assumption) ?_)
          exact J
      · rcases lk_01 v3 with rfl | rfl | ⟨b1, b2, b3⟩ | ⟨b1, b2, b3, b4, b5⟩
        · by_cases hn : ns < 32
          · have n1 : nI ns < 32 := nI_lt (b := 32) hn (by omega)
            have n2 : vp_in (nI ns) 32 := vp_in_nI hn (by omega)
            by_cases ho : no < 8
            · have n3 : nI no < 8 := nI_lt (b := 8) ho (by omega)
              have n4 : ¬ 8 ≤ nI no := nI_ge (b := 8) ho (by omega)
              have n5 : vp_in (nI no) 8 := vp_in_nI ho (by omega)
              repeat (first | refine br_t (by assumption) ?_ | refine br_f (by assumption) ?_ | refine br_t (by decide) ?_ | refine br_f (by decide) ?_ | refine nm_e ?_ | refine And.intro (by assumption) ?_ | refine And.intro rfl ?_ | refine lx_isA (by assumption) ?_ | refine lx_nA (by assumption) ?_ | refine ly_isA (by assumption) ?_ | refine ly_nA (by assumption) ?_)
              rw [nI_clamp (show ns < 2 ^ 31 by omega), nI_1 ns, nI_clamp (show no < 2 ^ 31 by omega), nI_1 no]
              exact K (lk_S_sec hS hn ho his (Or.inr ⟨rfl, Or.inl rfl⟩))
            · have n3 : ¬ nI no < 8 := nI_nlt (b := 8) (by omega) (by omega)
              have n4 : 8 ≤ nI no := nI_le (a := 8) (by omega) (by omega)
              repeat (first | refine br_t (by assumption) ?_ | refine br_f (by assumption) ?_ | refine br_t (by decide) ?_ | refine br_f (by decide) ?_ | refine nm_e ?_ | refine And.intro (by assumption) ?_ | refine And.intro rfl ?_ | refine lx_isA (by assumption) ?_ | refine lx_nA (by assumption) ?_ | refine ly_isA (by assumption) ?_ | refine ly_nA (by assumption) ?_)
              exact J
          · have n1 : ¬ nI ns < 32 := nI_nlt (b := 32) (by omega) (by omega)
            repeat (first | refine br_t (by assumption) ?_ | refine br_f (by assumption) ?_ | refine br_t (by decide) ?_ | refine br_f (by decide) ?_ | refine nm_e ?_ | refine And.intro (by assumption) ?_ | refine And.intro rfl ?_ | refine lx_isA (by assumption) ?_ | refine lx_nA (by assumption) ?_ | refine ly_isA (by assumption) ?_ | refine ly_nA (by assumption) ?_)
            exact J
        · by_cases hn : ns < 32
          · have n1 : nI ns < 32 := nI_lt (b := 32) hn (by omega)
            have n2 : vp_in (nI ns) 32 := vp_in_nI hn (by omega)
            by_cases ho : no < 8
            · have n3 : nI no < 8 := nI_lt (b := 8) ho (by omega)
              have n4 : ¬ 8 ≤ nI no := nI_ge (b := 8) ho (by omega)
              have n5 : vp_in (nI no) 8 := vp_in_nI ho (by omega)
              repeat (first | refine br_t (by assumption) ?_ | refine br_f (by assumption) ?_ | refine br_t (by decide) ?_ | refine br_f (by decide) ?_ | refine nm_e ?_ | refine And.intro (by assumption) ?_ | refine And.intro rfl ?_ | refine lx_isA (by assumption) ?_ | refine lx_nA (by assumption) ?_ | refine ly_isA (by assumption) ?_ | refine ly_nA (by assumption) ?_)
              rw [nI_clamp (show ns < 2 ^ 31 by omega), nI_1 ns, nI_clamp (show no < 2 ^ 31 by omega), nI_1 no]
              exact K (lk_S_sec hS hn ho his (Or.inr ⟨rfl, Or.inr rfl⟩))
            · have n3 : ¬ nI no < 8 := nI_nlt (b := 8) (by omega) (by omega)
              have n4 : 8 ≤ nI no := nI_le (a := 8) (by omega) (by omega)
              repeat (first | refine br_t (by assumption) ?_ | refine br_f (by assumption) ?_ | refine br_t (by decide) ?_ | refine br_f (by decide) ?_ | refine nm_e ?_ | refine And.intro (by assumption) ?_ | refine And.intro rfl ?_ | refine lx_isA (by assumption) ?_ | refine lx_nA (by assumption) ?_ | refine ly_isA (by assumption) ?_ | refine ly_nA (by assumption) ?_)
              exact J
          · have n1 : ¬ nI ns < 32 := nI_nlt (b := 32) (by omega) (by omega)
            repeat (first | refine br_t (by assumption) ?_ | refine br_f (by assumption) ?_ | refine br_t (by decide) ?_ | refine br_f (by decide) ?_ | refine nm_e ?_ | refine And.intro (by assumption) ?_ | refine And.intro rfl ?_ | refine lx_isA (by assumption) ?_ | refine lx_nA (by assumption) ?_ | refine ly_isA (by assumption) ?_ | refine ly_nA (by assumption) ?_)
            exact J
        · repeat (first | refine br_t (by assumption) ?_ | refine br_f (by assumption) ?_ | refine br_t (by decide) ?_ | refine br_f (by decide) ?_ | refine nm_e ?_ | refine And.intro (by assumption) ?_ | refine And.intro rfl ?_ | refine lx_isA (by assumption) ?_ | refine lx_nA (by assumption) ?_ | refine ly_isA (by assumption) ?_ | refine ly_nA (by assumption) ?_)
          exact J
        · repeat (first | refine br_t (by assumption) ?_ | refine br_f (by assumption) ?_ | refine br_t (by decide) ?_ | refine br_f (by decide) ?_ | refine nm_e ?_ | refine And.intro (by assumption) ?_ | refine And.intro rfl ?_ | refine lx_isA (by assumption) ?_ | refine lx_nA (by assumption) ?_ | refine ly_isA (by assumption) ?_ | refine ly_nA (by assumption) ?_)
          exact J
      · repeat (first | refine br_t (by assumption) ?_ | refine br_f (by assumption) ?_ | refine br_t (by decide) ?_ | refine br_f (by decide) ?_ | refine nm_e ?_ | refine And.intro (by assumption) ?_ | refine And.intro rfl ?_ | refine lx_isA (by assumption) ?_ | refine lx_nA (by assumption) ?_ | refine ly_isA (by assumption) ?_ | refine ly_nA (by assumption) ?_)
        exact J
      · repeat (first | refine br_t (by assumption) ?_ | refine br_f (by assumption) ?_ | refine br_t (by decide) ?_ | refine br_f (by decide) ?_ | refine nm_e ?_ | refine And.intro (by assumption) ?_ | refine And.intro rfl ?_ | refine lx_isA (by assumption) ?_ | refine lx_nA (by assumption) ?_ | refine ly_isA (by assumption) ?_ | refine ly_nA (by assumption) ?_)
        exact J
end
end
section
section
theorem lk_scr2 {k : Nat} {ns no ng ni nb nr R0 R1 : Nat} {xphase xopenOut xopenGroup yinGroup yfinalC0 yfinalC1 : Int32} {xregionSize xcounter xmemory xstmtOp xstmtA xstmtB xstmtOwner xoutRegion xoutLoaded xoutGroup xoutAlign xoutVma xoutLma xoutDot xgroupStart xgroupEnd xgroupResident xinKind xinId xinAlign xinSize xinFirstByte xinStmt xinLive xinVma xfedBytes xrelocOwner xrelocOffset xrelocType xrelocTarget xrelocAddend ystOut youtSize youtRes ygStart ygEnd yinBss yinLen yinVma yinLma yrom yram : Nat → Int32} {v2 v3 : Int32} (J : i_Rel (k + 5) (xphase, (nI ns), xopenOut, xopenGroup, (nI no), (nI ng), (nI ni), (nI nb), (nI nr), xregionSize, xcounter, xmemory, xstmtOp, xstmtA, xstmtB, xstmtOwner, xoutRegion, xoutLoaded, xoutGroup, xoutAlign, xoutVma, xoutLma, xoutDot, xgroupStart, xgroupEnd, xgroupResident, xinKind, xinId, xinAlign, xinSize, xinFirstByte, xinStmt, xinLive, xinVma, xfedBytes, xrelocOwner, xrelocOffset, xrelocType, xrelocTarget, xrelocAddend) ((nI R0), (nI R1), xphase, (nI ns), (nI no), (nI ng), (nI ni), (nI nb), (nI nr), xopenOut, yinGroup, (nI ni - 1), yfinalC0, yfinalC1, xstmtOp, xstmtA, xstmtB, ystOut, xoutRegion, xoutLoaded, xoutGroup, xoutVma, xoutLma, youtSize, xoutAlign, youtRes, ygStart, ygEnd, xinKind, xinId, xinAlign, yinBss, xinFirstByte, yinLen, xinStmt, xinLive, yinVma, yinLma, xfedBytes, xrelocOwner, xrelocOffset, xrelocType, xrelocTarget, xrelocAddend, yrom, yram)) (hS : lk_S ns no ng xstmtOp xstmtA xstmtB xstmtOwner ystOut xoutRegion xoutLoaded xoutGroup xopenOut xopenGroup yinGroup) (K : ∀ {ns no ng : Nat} {xopenOut xopenGroup yinGroup : Int32} {xstmtOp xstmtA xstmtB xstmtOwner xoutRegion xoutLoaded xoutGroup ystOut : Nat → Int32}, lk_S ns no ng xstmtOp xstmtA xstmtB xstmtOwner ystOut xoutRegion xoutLoaded xoutGroup xopenOut xopenGroup yinGroup → i_Rel (k + 5) (xphase, (nI ns), xopenOut, xopenGroup, (nI no), (nI ng), (nI ni), (nI nb), (nI nr), xregionSize, xcounter, xmemory, xstmtOp, xstmtA, xstmtB, xstmtOwner, xoutRegion, xoutLoaded, xoutGroup, xoutAlign, xoutVma, xoutLma, xoutDot, xgroupStart, xgroupEnd, xgroupResident, xinKind, xinId, xinAlign, xinSize, xinFirstByte, xinStmt, xinLive, xinVma, xfedBytes, xrelocOwner, xrelocOffset, xrelocType, xrelocTarget, xrelocAddend) ((nI R0), (nI R1), xphase, (nI ns), (nI no), (nI ng), (nI ni), (nI nb), (nI nr), xopenOut, yinGroup, (nI ni - 1), yfinalC0, yfinalC1, xstmtOp, xstmtA, xstmtB, ystOut, xoutRegion, xoutLoaded, xoutGroup, xoutVma, xoutLma, youtSize, xoutAlign, youtRes, ygStart, ygEnd, xinKind, xinId, xinAlign, yinBss, xinFirstByte, yinLen, xinStmt, xinLive, yinVma, yinLma, xfedBytes, xrelocOwner, xrelocOffset, xrelocType, xrelocTarget, xrelocAddend, yrom, yram)) (hp : xphase = 0) : wpX_script (fun r u' => wpY_script (fun r' v' => r' = r ∧ i_Rel (k + 5) u' v') ((nI R0), (nI R1), xphase, (nI ns), (nI no), (nI ng), (nI ni), (nI nb), (nI nr), xopenOut, yinGroup, (nI ni - 1), yfinalC0, yfinalC1, xstmtOp, xstmtA, xstmtB, ystOut, xoutRegion, xoutLoaded, xoutGroup, xoutVma, xoutLma, youtSize, xoutAlign, youtRes, ygStart, ygEnd, xinKind, xinId, xinAlign, yinBss, xinFirstByte, yinLen, xinStmt, xinLive, yinVma, yinLma, xfedBytes, xrelocOwner, xrelocOffset, xrelocType, xrelocTarget, xrelocAddend, yrom, yram) 2 v2 v3) (xphase, (nI ns), xopenOut, xopenGroup, (nI no), (nI ng), (nI ni), (nI nb), (nI nr), xregionSize, xcounter, xmemory, xstmtOp, xstmtA, xstmtB, xstmtOwner, xoutRegion, xoutLoaded, xoutGroup, xoutAlign, xoutVma, xoutLma, xoutDot, xgroupStart, xgroupEnd, xgroupResident, xinKind, xinId, xinAlign, xinSize, xinFirstByte, xinStmt, xinLive, xinVma, xfedBytes, xrelocOwner, xrelocOffset, xrelocType, xrelocTarget, xrelocAddend) 2 v2 v3 := by
  obtain ⟨c1, c2, c3, c4, c5, c6, c7, c8, c9⟩ := id hS
  rcases Bool.eq_false_or_eq_true (lk_is xstmtOp ns) with his | his
  · have hno := lk_is_p ns his
    rw [← c4] at hno
    rw [his, if_pos rfl] at c6
    subst c6
    have o1 : ¬ nI (no - 1) = -1 := lk_nn1 (by omega)
    have o2 : ¬ nI (no - 1) < 0 := nI_pos (by omega)
    rcases Bool.eq_false_or_eq_true (lk_ig xstmtOp ns) with hig | hig
    · have hng := lk_ig_p ns hig
      rw [← c5] at hng
      rw [hig, if_pos rfl] at c7 c8
      subst c7
      subst c8
      have g1 : ¬ nI (ng - 1) = -1 := lk_nn1 (by omega)
      by_cases hn : ns < 32
      · have n1 : nI ns < 32 := nI_lt (b := 32) hn (by omega)
        have n2 : vp_in (nI ns) 32 := vp_in_nI hn (by omega)
        repeat (first | refine br_t (by assumption) ?_ | refine br_f (by assumption) ?_ | refine br_t (by decide) ?_ | refine br_f (by decide) ?_ | refine nm_e ?_ | refine And.intro (by assumption) ?_ | refine And.intro rfl ?_ | refine lx_isA (by assumption) ?_ | refine lx_nA (by assumption) ?_ | refine ly_isA (by assumption) ?_ | refine ly_nA (by assumption) ?_)
        rw [nI_clamp (show ns < 2 ^ 31 by omega), nI_1 ns]
        refine K (lk_S_st (x := 2) hS hn (by decide) (by decide) rfl rfl rfl ?_)
        unfold lk_sc
        simp only [lk_is_u ns (Nat.le_refl ns), lk_ig_u ns (Nat.le_refl ns), lk_no_u ns (Nat.le_refl ns), lk_ng_u ns (Nat.le_refl ns), pk_us, ← c4, ← c5]
        exact Or.inr (Or.inl ⟨Or.inl (by trivial), his, (by trivial), (by trivial)⟩)
      · have n1 : ¬ nI ns < 32 := nI_nlt (b := 32) (by omega) (by omega)
        repeat (first | refine br_t (by assumption) ?_ | refine br_f (by assumption) ?_ | refine br_t (by decide) ?_ | refine br_f (by decide) ?_ | refine nm_e ?_ | refine And.intro (by assumption) ?_ | refine And.intro rfl ?_ | refine lx_isA (by assumption) ?_ | refine lx_nA (by assumption) ?_ | refine ly_isA (by assumption) ?_ | refine ly_nA (by assumption) ?_)
        exact J
    · rw [hig, if_neg (by decide)] at c7 c8
      subst c7
      subst c8
      by_cases hn : ns < 32
      · have n1 : nI ns < 32 := nI_lt (b := 32) hn (by omega)
        have n2 : vp_in (nI ns) 32 := vp_in_nI hn (by omega)
        repeat (first | refine br_t (by assumption) ?_ | refine br_f (by assumption) ?_ | refine br_t (by decide) ?_ | refine br_f (by decide) ?_ | refine nm_e ?_ | refine And.intro (by assumption) ?_ | refine And.intro rfl ?_ | refine lx_isA (by assumption) ?_ | refine lx_nA (by assumption) ?_ | refine ly_isA (by assumption) ?_ | refine ly_nA (by assumption) ?_)
        rw [nI_clamp (show ns < 2 ^ 31 by omega), nI_1 ns]
        refine K (lk_S_st (x := 2) hS hn (by decide) (by decide) rfl rfl rfl ?_)
        unfold lk_sc
        simp only [lk_is_u ns (Nat.le_refl ns), lk_ig_u ns (Nat.le_refl ns), lk_no_u ns (Nat.le_refl ns), lk_ng_u ns (Nat.le_refl ns), pk_us, ← c4, ← c5]
        exact Or.inr (Or.inl ⟨Or.inl (by trivial), his, (by trivial), (by trivial)⟩)
      · have n1 : ¬ nI ns < 32 := nI_nlt (b := 32) (by omega) (by omega)
        repeat (first | refine br_t (by assumption) ?_ | refine br_f (by assumption) ?_ | refine br_t (by decide) ?_ | refine br_f (by decide) ?_ | refine nm_e ?_ | refine And.intro (by assumption) ?_ | refine And.intro rfl ?_ | refine lx_isA (by assumption) ?_ | refine lx_nA (by assumption) ?_ | refine ly_isA (by assumption) ?_ | refine ly_nA (by assumption) ?_)
        exact J
  · rw [his, if_neg (by decide)] at c6
    subst c6
    rcases Bool.eq_false_or_eq_true (lk_ig xstmtOp ns) with hig | hig
    · have hng := lk_ig_p ns hig
      rw [← c5] at hng
      rw [hig, if_pos rfl] at c7 c8
      subst c7
      subst c8
      have g1 : ¬ nI (ng - 1) = -1 := lk_nn1 (by omega)
      repeat (first | refine br_t (by assumption) ?_ | refine br_f (by assumption) ?_ | refine br_t (by decide) ?_ | refine br_f (by decide) ?_ | refine nm_e ?_ | refine And.intro (by assumption) ?_ | refine And.intro rfl ?_ | refine lx_isA (by assumption) ?_ | refine lx_nA (by assumption) ?_ | refine ly_isA (by assumption) ?_ | refine ly_nA (by assumption) ?_)
      exact J
    · rw [hig, if_neg (by decide)] at c7 c8
      subst c7
      subst c8
      repeat (first | refine br_t (by assumption) ?_ | refine br_f (by assumption) ?_ | refine br_t (by decide) ?_ | refine br_f (by decide) ?_ | refine nm_e ?_ | refine And.intro (by assumption) ?_ | refine And.intro rfl ?_ | refine lx_isA (by assumption) ?_ | refine lx_nA (by assumption) ?_ | refine ly_isA (by assumption) ?_ | refine ly_nA (by assumption) ?_)
      exact J
theorem lk_scr3 {k : Nat} {ns no ng ni nb nr R0 R1 : Nat} {xphase xopenOut xopenGroup yinGroup yfinalC0 yfinalC1 : Int32} {xregionSize xcounter xmemory xstmtOp xstmtA xstmtB xstmtOwner xoutRegion xoutLoaded xoutGroup xoutAlign xoutVma xoutLma xoutDot xgroupStart xgroupEnd xgroupResident xinKind xinId xinAlign xinSize xinFirstByte xinStmt xinLive xinVma xfedBytes xrelocOwner xrelocOffset xrelocType xrelocTarget xrelocAddend ystOut youtSize youtRes ygStart ygEnd yinBss yinLen yinVma yinLma yrom yram : Nat → Int32} {v2 v3 : Int32} (J : i_Rel (k + 5) (xphase, (nI ns), xopenOut, xopenGroup, (nI no), (nI ng), (nI ni), (nI nb), (nI nr), xregionSize, xcounter, xmemory, xstmtOp, xstmtA, xstmtB, xstmtOwner, xoutRegion, xoutLoaded, xoutGroup, xoutAlign, xoutVma, xoutLma, xoutDot, xgroupStart, xgroupEnd, xgroupResident, xinKind, xinId, xinAlign, xinSize, xinFirstByte, xinStmt, xinLive, xinVma, xfedBytes, xrelocOwner, xrelocOffset, xrelocType, xrelocTarget, xrelocAddend) ((nI R0), (nI R1), xphase, (nI ns), (nI no), (nI ng), (nI ni), (nI nb), (nI nr), xopenOut, yinGroup, (nI ni - 1), yfinalC0, yfinalC1, xstmtOp, xstmtA, xstmtB, ystOut, xoutRegion, xoutLoaded, xoutGroup, xoutVma, xoutLma, youtSize, xoutAlign, youtRes, ygStart, ygEnd, xinKind, xinId, xinAlign, yinBss, xinFirstByte, yinLen, xinStmt, xinLive, yinVma, yinLma, xfedBytes, xrelocOwner, xrelocOffset, xrelocType, xrelocTarget, xrelocAddend, yrom, yram)) (hS : lk_S ns no ng xstmtOp xstmtA xstmtB xstmtOwner ystOut xoutRegion xoutLoaded xoutGroup xopenOut xopenGroup yinGroup) (K : ∀ {ns no ng : Nat} {xopenOut xopenGroup yinGroup : Int32} {xstmtOp xstmtA xstmtB xstmtOwner xoutRegion xoutLoaded xoutGroup ystOut : Nat → Int32}, lk_S ns no ng xstmtOp xstmtA xstmtB xstmtOwner ystOut xoutRegion xoutLoaded xoutGroup xopenOut xopenGroup yinGroup → i_Rel (k + 5) (xphase, (nI ns), xopenOut, xopenGroup, (nI no), (nI ng), (nI ni), (nI nb), (nI nr), xregionSize, xcounter, xmemory, xstmtOp, xstmtA, xstmtB, xstmtOwner, xoutRegion, xoutLoaded, xoutGroup, xoutAlign, xoutVma, xoutLma, xoutDot, xgroupStart, xgroupEnd, xgroupResident, xinKind, xinId, xinAlign, xinSize, xinFirstByte, xinStmt, xinLive, xinVma, xfedBytes, xrelocOwner, xrelocOffset, xrelocType, xrelocTarget, xrelocAddend) ((nI R0), (nI R1), xphase, (nI ns), (nI no), (nI ng), (nI ni), (nI nb), (nI nr), xopenOut, yinGroup, (nI ni - 1), yfinalC0, yfinalC1, xstmtOp, xstmtA, xstmtB, ystOut, xoutRegion, xoutLoaded, xoutGroup, xoutVma, xoutLma, youtSize, xoutAlign, youtRes, ygStart, ygEnd, xinKind, xinId, xinAlign, yinBss, xinFirstByte, yinLen, xinStmt, xinLive, yinVma, yinLma, xfedBytes, xrelocOwner, xrelocOffset, xrelocType, xrelocTarget, xrelocAddend, yrom, yram)) (hp : xphase = 0) : wpX_script (fun r u' => wpY_script (fun r' v' => r' = r ∧ i_Rel (k + 5) u' v') ((nI R0), (nI R1), xphase, (nI ns), (nI no), (nI ng), (nI ni), (nI nb), (nI nr), xopenOut, yinGroup, (nI ni - 1), yfinalC0, yfinalC1, xstmtOp, xstmtA, xstmtB, ystOut, xoutRegion, xoutLoaded, xoutGroup, xoutVma, xoutLma, youtSize, xoutAlign, youtRes, ygStart, ygEnd, xinKind, xinId, xinAlign, yinBss, xinFirstByte, yinLen, xinStmt, xinLive, yinVma, yinLma, xfedBytes, xrelocOwner, xrelocOffset, xrelocType, xrelocTarget, xrelocAddend, yrom, yram) 3 v2 v3) (xphase, (nI ns), xopenOut, xopenGroup, (nI no), (nI ng), (nI ni), (nI nb), (nI nr), xregionSize, xcounter, xmemory, xstmtOp, xstmtA, xstmtB, xstmtOwner, xoutRegion, xoutLoaded, xoutGroup, xoutAlign, xoutVma, xoutLma, xoutDot, xgroupStart, xgroupEnd, xgroupResident, xinKind, xinId, xinAlign, xinSize, xinFirstByte, xinStmt, xinLive, xinVma, xfedBytes, xrelocOwner, xrelocOffset, xrelocType, xrelocTarget, xrelocAddend) 3 v2 v3 := by
  obtain ⟨c1, c2, c3, c4, c5, c6, c7, c8, c9⟩ := id hS
  rcases Bool.eq_false_or_eq_true (lk_is xstmtOp ns) with his | his
  · have hno := lk_is_p ns his
    rw [← c4] at hno
    rw [his, if_pos rfl] at c6
    subst c6
    have o1 : ¬ nI (no - 1) = -1 := lk_nn1 (by omega)
    have o2 : ¬ nI (no - 1) < 0 := nI_pos (by omega)
    rcases Bool.eq_false_or_eq_true (lk_ig xstmtOp ns) with hig | hig
    · have hng := lk_ig_p ns hig
      rw [← c5] at hng
      rw [hig, if_pos rfl] at c7 c8
      subst c7
      subst c8
      have g1 : ¬ nI (ng - 1) = -1 := lk_nn1 (by omega)
      by_cases a1 : v2 < -1
      · repeat (first | refine br_t (by assumption) ?_ | refine br_f (by assumption) ?_ | refine br_t (by decide) ?_ | refine br_f (by decide) ?_ | refine nm_e ?_ | refine And.intro (by assumption) ?_ | refine And.intro rfl ?_ | refine lx_isA (by assumption) ?_ | refine lx_nA (by assumption) ?_ | refine ly_isA (by assumption) ?_ | refine ly_nA (by assumption) ?_)
        exact J
      by_cases a2 : 15 < v2
      · repeat (first | refine br_t (by assumption) ?_ | refine br_f (by assumption) ?_ | refine br_t (by decide) ?_ | refine br_f (by decide) ?_ | refine nm_e ?_ | refine And.intro (by assumption) ?_ | refine And.intro rfl ?_ | refine lx_isA (by assumption) ?_ | refine lx_nA (by assumption) ?_ | refine ly_isA (by assumption) ?_ | refine ly_nA (by assumption) ?_)
        exact J
      by_cases a3 : v3 < 0
      · repeat (first | refine br_t (by assumption) ?_ | refine br_f (by assumption) ?_ | refine br_t (by decide) ?_ | refine br_f (by decide) ?_ | refine nm_e ?_ | refine And.intro (by assumption) ?_ | refine And.intro rfl ?_ | refine lx_isA (by assumption) ?_ | refine lx_nA (by assumption) ?_ | refine ly_isA (by assumption) ?_ | refine ly_nA (by assumption) ?_)
        exact J
      by_cases a4 : 3 < v3
      · have a5 : ¬ v3 ≤ 3 := Int32.not_le.mpr a4
        repeat (first | refine br_t (by assumption) ?_ | refine br_f (by assumption) ?_ | refine br_t (by decide) ?_ | refine br_f (by decide) ?_ | refine nm_e ?_ | refine And.intro (by assumption) ?_ | refine And.intro rfl ?_ | refine lx_isA (by assumption) ?_ | refine lx_nA (by assumption) ?_ | refine ly_isA (by assumption) ?_ | refine ly_nA (by assumption) ?_)
        exact J
      have a5 : v3 ≤ 3 := Int32.not_lt.mp a4
      by_cases hn : ns < 32
      · have n1 : nI ns < 32 := nI_lt (b := 32) hn (by omega)
        have n2 : vp_in (nI ns) 32 := vp_in_nI hn (by omega)
        repeat (first | refine br_t (by assumption) ?_ | refine br_f (by assumption) ?_ | refine br_t (by decide) ?_ | refine br_f (by decide) ?_ | refine nm_e ?_ | refine And.intro (by assumption) ?_ | refine And.intro rfl ?_ | refine lx_isA (by assumption) ?_ | refine lx_nA (by assumption) ?_ | refine ly_isA (by assumption) ?_ | refine ly_nA (by assumption) ?_)
        rw [nI_clamp (show ns < 2 ^ 31 by omega), nI_1 ns]
        refine K (lk_S_st (x := 3) hS hn (by decide) (by decide) rfl rfl rfl ?_)
        unfold lk_sc
        simp only [lk_is_u ns (Nat.le_refl ns), lk_ig_u ns (Nat.le_refl ns), lk_no_u ns (Nat.le_refl ns), lk_ng_u ns (Nat.le_refl ns), pk_us, ← c4, ← c5]
        exact Or.inr (Or.inl ⟨Or.inr (Or.inl (by trivial)), his, (by trivial), (by trivial)⟩)
      · have n1 : ¬ nI ns < 32 := nI_nlt (b := 32) (by omega) (by omega)
        repeat (first | refine br_t (by assumption) ?_ | refine br_f (by assumption) ?_ | refine br_t (by decide) ?_ | refine br_f (by decide) ?_ | refine nm_e ?_ | refine And.intro (by assumption) ?_ | refine And.intro rfl ?_ | refine lx_isA (by assumption) ?_ | refine lx_nA (by assumption) ?_ | refine ly_isA (by assumption) ?_ | refine ly_nA (by assumption) ?_)
        exact J
    · rw [hig, if_neg (by decide)] at c7 c8
      subst c7
      subst c8
      by_cases a1 : v2 < -1
      · repeat (first | refine br_t (by assumption) ?_ | refine br_f (by assumption) ?_ | refine br_t (by decide) ?_ | refine br_f (by decide) ?_ | refine nm_e ?_ | refine And.intro (by assumption) ?_ | refine And.intro rfl ?_ | refine lx_isA (by assumption) ?_ | refine lx_nA (by assumption) ?_ | refine ly_isA (by assumption) ?_ | refine ly_nA (by assumption) ?_)
        exact J
      by_cases a2 : 15 < v2
      · repeat (first | refine br_t (by assumption) ?_ | refine br_f (by assumption) ?_ | refine br_t (by decide) ?_ | refine br_f (by decide) ?_ | refine nm_e ?_ | refine And.intro (by assumption) ?_ | refine And.intro rfl ?_ | refine lx_isA (by assumption) ?_ | refine lx_nA (by assumption) ?_ | refine ly_isA (by assumption) ?_ | refine ly_nA (by assumption) ?_)
        exact J
      by_cases a3 : v3 < 0
      · repeat (first | refine br_t (by assumption) ?_ | refine br_f (by assumption) ?_ | refine br_t (by decide) ?_ | refine br_f (by decide) ?_ | refine nm_e ?_ | refine And.intro (by assumption) ?_ | refine And.intro rfl ?_ | refine lx_isA (by assumption) ?_ | refine lx_nA (by assumption) ?_ | refine ly_isA (by assumption) ?_ | refine ly_nA (by assumption) ?_)
        exact J
      by_cases a4 : 3 < v3
      · have a5 : ¬ v3 ≤ 3 := Int32.not_le.mpr a4
        repeat (first | refine br_t (by assumption) ?_ | refine br_f (by assumption) ?_ | refine br_t (by decide) ?_ | refine br_f (by decide) ?_ | refine nm_e ?_ | refine And.intro (by assumption) ?_ | refine And.intro rfl ?_ | refine lx_isA (by assumption) ?_ | refine lx_nA (by assumption) ?_ | refine ly_isA (by assumption) ?_ | refine ly_nA (by assumption) ?_)
        exact J
      have a5 : v3 ≤ 3 := Int32.not_lt.mp a4
      by_cases hn : ns < 32
      · have n1 : nI ns < 32 := nI_lt (b := 32) hn (by omega)
        have n2 : vp_in (nI ns) 32 := vp_in_nI hn (by omega)
        repeat (first | refine br_t (by assumption) ?_ | refine br_f (by assumption) ?_ | refine br_t (by decide) ?_ | refine br_f (by decide) ?_ | refine nm_e ?_ | refine And.intro (by assumption) ?_ | refine And.intro rfl ?_ | refine lx_isA (by assumption) ?_ | refine lx_nA (by assumption) ?_ | refine ly_isA (by assumption) ?_ | refine ly_nA (by assumption) ?_)
        rw [nI_clamp (show ns < 2 ^ 31 by omega), nI_1 ns]
        refine K (lk_S_st (x := 3) hS hn (by decide) (by decide) rfl rfl rfl ?_)
        unfold lk_sc
        simp only [lk_is_u ns (Nat.le_refl ns), lk_ig_u ns (Nat.le_refl ns), lk_no_u ns (Nat.le_refl ns), lk_ng_u ns (Nat.le_refl ns), pk_us, ← c4, ← c5]
        exact Or.inr (Or.inl ⟨Or.inr (Or.inl (by trivial)), his, (by trivial), (by trivial)⟩)
      · have n1 : ¬ nI ns < 32 := nI_nlt (b := 32) (by omega) (by omega)
        repeat (first | refine br_t (by assumption) ?_ | refine br_f (by assumption) ?_ | refine br_t (by decide) ?_ | refine br_f (by decide) ?_ | refine nm_e ?_ | refine And.intro (by assumption) ?_ | refine And.intro rfl ?_ | refine lx_isA (by assumption) ?_ | refine lx_nA (by assumption) ?_ | refine ly_isA (by assumption) ?_ | refine ly_nA (by assumption) ?_)
        exact J
  · rw [his, if_neg (by decide)] at c6
    subst c6
    rcases Bool.eq_false_or_eq_true (lk_ig xstmtOp ns) with hig | hig
    · have hng := lk_ig_p ns hig
      rw [← c5] at hng
      rw [hig, if_pos rfl] at c7 c8
      subst c7
      subst c8
      have g1 : ¬ nI (ng - 1) = -1 := lk_nn1 (by omega)
      repeat (first | refine br_t (by assumption) ?_ | refine br_f (by assumption) ?_ | refine br_t (by decide) ?_ | refine br_f (by decide) ?_ | refine nm_e ?_ | refine And.intro (by assumption) ?_ | refine And.intro rfl ?_ | refine lx_isA (by assumption) ?_ | refine lx_nA (by assumption) ?_ | refine ly_isA (by assumption) ?_ | refine ly_nA (by assumption) ?_)
      exact J
    · rw [hig, if_neg (by decide)] at c7 c8
      subst c7
      subst c8
      repeat (first | refine br_t (by assumption) ?_ | refine br_f (by assumption) ?_ | refine br_t (by decide) ?_ | refine br_f (by decide) ?_ | refine nm_e ?_ | refine And.intro (by assumption) ?_ | refine And.intro rfl ?_ | refine lx_isA (by assumption) ?_ | refine lx_nA (by assumption) ?_ | refine ly_isA (by assumption) ?_ | refine ly_nA (by assumption) ?_)
      exact J
theorem lk_scr4 {k : Nat} {ns no ng ni nb nr R0 R1 : Nat} {xphase xopenOut xopenGroup yinGroup yfinalC0 yfinalC1 : Int32} {xregionSize xcounter xmemory xstmtOp xstmtA xstmtB xstmtOwner xoutRegion xoutLoaded xoutGroup xoutAlign xoutVma xoutLma xoutDot xgroupStart xgroupEnd xgroupResident xinKind xinId xinAlign xinSize xinFirstByte xinStmt xinLive xinVma xfedBytes xrelocOwner xrelocOffset xrelocType xrelocTarget xrelocAddend ystOut youtSize youtRes ygStart ygEnd yinBss yinLen yinVma yinLma yrom yram : Nat → Int32} {v2 v3 : Int32} (J : i_Rel (k + 5) (xphase, (nI ns), xopenOut, xopenGroup, (nI no), (nI ng), (nI ni), (nI nb), (nI nr), xregionSize, xcounter, xmemory, xstmtOp, xstmtA, xstmtB, xstmtOwner, xoutRegion, xoutLoaded, xoutGroup, xoutAlign, xoutVma, xoutLma, xoutDot, xgroupStart, xgroupEnd, xgroupResident, xinKind, xinId, xinAlign, xinSize, xinFirstByte, xinStmt, xinLive, xinVma, xfedBytes, xrelocOwner, xrelocOffset, xrelocType, xrelocTarget, xrelocAddend) ((nI R0), (nI R1), xphase, (nI ns), (nI no), (nI ng), (nI ni), (nI nb), (nI nr), xopenOut, yinGroup, (nI ni - 1), yfinalC0, yfinalC1, xstmtOp, xstmtA, xstmtB, ystOut, xoutRegion, xoutLoaded, xoutGroup, xoutVma, xoutLma, youtSize, xoutAlign, youtRes, ygStart, ygEnd, xinKind, xinId, xinAlign, yinBss, xinFirstByte, yinLen, xinStmt, xinLive, yinVma, yinLma, xfedBytes, xrelocOwner, xrelocOffset, xrelocType, xrelocTarget, xrelocAddend, yrom, yram)) (hS : lk_S ns no ng xstmtOp xstmtA xstmtB xstmtOwner ystOut xoutRegion xoutLoaded xoutGroup xopenOut xopenGroup yinGroup) (K : ∀ {ns no ng : Nat} {xopenOut xopenGroup yinGroup : Int32} {xstmtOp xstmtA xstmtB xstmtOwner xoutRegion xoutLoaded xoutGroup ystOut : Nat → Int32}, lk_S ns no ng xstmtOp xstmtA xstmtB xstmtOwner ystOut xoutRegion xoutLoaded xoutGroup xopenOut xopenGroup yinGroup → i_Rel (k + 5) (xphase, (nI ns), xopenOut, xopenGroup, (nI no), (nI ng), (nI ni), (nI nb), (nI nr), xregionSize, xcounter, xmemory, xstmtOp, xstmtA, xstmtB, xstmtOwner, xoutRegion, xoutLoaded, xoutGroup, xoutAlign, xoutVma, xoutLma, xoutDot, xgroupStart, xgroupEnd, xgroupResident, xinKind, xinId, xinAlign, xinSize, xinFirstByte, xinStmt, xinLive, xinVma, xfedBytes, xrelocOwner, xrelocOffset, xrelocType, xrelocTarget, xrelocAddend) ((nI R0), (nI R1), xphase, (nI ns), (nI no), (nI ng), (nI ni), (nI nb), (nI nr), xopenOut, yinGroup, (nI ni - 1), yfinalC0, yfinalC1, xstmtOp, xstmtA, xstmtB, ystOut, xoutRegion, xoutLoaded, xoutGroup, xoutVma, xoutLma, youtSize, xoutAlign, youtRes, ygStart, ygEnd, xinKind, xinId, xinAlign, yinBss, xinFirstByte, yinLen, xinStmt, xinLive, yinVma, yinLma, xfedBytes, xrelocOwner, xrelocOffset, xrelocType, xrelocTarget, xrelocAddend, yrom, yram)) (hp : xphase = 0) : wpX_script (fun r u' => wpY_script (fun r' v' => r' = r ∧ i_Rel (k + 5) u' v') ((nI R0), (nI R1), xphase, (nI ns), (nI no), (nI ng), (nI ni), (nI nb), (nI nr), xopenOut, yinGroup, (nI ni - 1), yfinalC0, yfinalC1, xstmtOp, xstmtA, xstmtB, ystOut, xoutRegion, xoutLoaded, xoutGroup, xoutVma, xoutLma, youtSize, xoutAlign, youtRes, ygStart, ygEnd, xinKind, xinId, xinAlign, yinBss, xinFirstByte, yinLen, xinStmt, xinLive, yinVma, yinLma, xfedBytes, xrelocOwner, xrelocOffset, xrelocType, xrelocTarget, xrelocAddend, yrom, yram) 4 v2 v3) (xphase, (nI ns), xopenOut, xopenGroup, (nI no), (nI ng), (nI ni), (nI nb), (nI nr), xregionSize, xcounter, xmemory, xstmtOp, xstmtA, xstmtB, xstmtOwner, xoutRegion, xoutLoaded, xoutGroup, xoutAlign, xoutVma, xoutLma, xoutDot, xgroupStart, xgroupEnd, xgroupResident, xinKind, xinId, xinAlign, xinSize, xinFirstByte, xinStmt, xinLive, xinVma, xfedBytes, xrelocOwner, xrelocOffset, xrelocType, xrelocTarget, xrelocAddend) 4 v2 v3 := by
  obtain ⟨c1, c2, c3, c4, c5, c6, c7, c8, c9⟩ := id hS
  rcases Bool.eq_false_or_eq_true (lk_is xstmtOp ns) with his | his
  · have hno := lk_is_p ns his
    rw [← c4] at hno
    rw [his, if_pos rfl] at c6
    subst c6
    have o1 : ¬ nI (no - 1) = -1 := lk_nn1 (by omega)
    have o2 : ¬ nI (no - 1) < 0 := nI_pos (by omega)
    rcases Bool.eq_false_or_eq_true (lk_ig xstmtOp ns) with hig | hig
    · have hng := lk_ig_p ns hig
      rw [← c5] at hng
      rw [hig, if_pos rfl] at c7 c8
      subst c7
      subst c8
      have g1 : ¬ nI (ng - 1) = -1 := lk_nn1 (by omega)
      by_cases a1 : v2 < -1
      · repeat (first | refine br_t (by assumption) ?_ | refine br_f (by assumption) ?_ | refine br_t (by decide) ?_ | refine br_f (by decide) ?_ | refine nm_e ?_ | refine And.intro (by assumption) ?_ | refine And.intro rfl ?_ | refine lx_isA (by assumption) ?_ | refine lx_nA (by assumption) ?_ | refine ly_isA (by assumption) ?_ | refine ly_nA (by assumption) ?_)
        exact J
      by_cases a2 : 15 < v2
      · repeat (first | refine br_t (by assumption) ?_ | refine br_f (by assumption) ?_ | refine br_t (by decide) ?_ | refine br_f (by decide) ?_ | refine nm_e ?_ | refine And.intro (by assumption) ?_ | refine And.intro rfl ?_ | refine lx_isA (by assumption) ?_ | refine lx_nA (by assumption) ?_ | refine ly_isA (by assumption) ?_ | refine ly_nA (by assumption) ?_)
        exact J
      by_cases a3 : v3 < 0
      · repeat (first | refine br_t (by assumption) ?_ | refine br_f (by assumption) ?_ | refine br_t (by decide) ?_ | refine br_f (by decide) ?_ | refine nm_e ?_ | refine And.intro (by assumption) ?_ | refine And.intro rfl ?_ | refine lx_isA (by assumption) ?_ | refine lx_nA (by assumption) ?_ | refine ly_isA (by assumption) ?_ | refine ly_nA (by assumption) ?_)
        exact J
      by_cases a4 : 3 < v3
      · have a5 : ¬ v3 ≤ 3 := Int32.not_le.mpr a4
        repeat (first | refine br_t (by assumption) ?_ | refine br_f (by assumption) ?_ | refine br_t (by decide) ?_ | refine br_f (by decide) ?_ | refine nm_e ?_ | refine And.intro (by assumption) ?_ | refine And.intro rfl ?_ | refine lx_isA (by assumption) ?_ | refine lx_nA (by assumption) ?_ | refine ly_isA (by assumption) ?_ | refine ly_nA (by assumption) ?_)
        exact J
      have a5 : v3 ≤ 3 := Int32.not_lt.mp a4
      by_cases hn : ns < 32
      · have n1 : nI ns < 32 := nI_lt (b := 32) hn (by omega)
        have n2 : vp_in (nI ns) 32 := vp_in_nI hn (by omega)
        repeat (first | refine br_t (by assumption) ?_ | refine br_f (by assumption) ?_ | refine br_t (by decide) ?_ | refine br_f (by decide) ?_ | refine nm_e ?_ | refine And.intro (by assumption) ?_ | refine And.intro rfl ?_ | refine lx_isA (by assumption) ?_ | refine lx_nA (by assumption) ?_ | refine ly_isA (by assumption) ?_ | refine ly_nA (by assumption) ?_)
        rw [nI_clamp (show ns < 2 ^ 31 by omega), nI_1 ns]
        refine K (lk_S_st (x := 4) hS hn (by decide) (by decide) rfl rfl rfl ?_)
        unfold lk_sc
        simp only [lk_is_u ns (Nat.le_refl ns), lk_ig_u ns (Nat.le_refl ns), lk_no_u ns (Nat.le_refl ns), lk_ng_u ns (Nat.le_refl ns), pk_us, ← c4, ← c5]
        exact Or.inr (Or.inl ⟨Or.inr (Or.inr (by trivial)), his, (by trivial), (by trivial)⟩)
      · have n1 : ¬ nI ns < 32 := nI_nlt (b := 32) (by omega) (by omega)
        repeat (first | refine br_t (by assumption) ?_ | refine br_f (by assumption) ?_ | refine br_t (by decide) ?_ | refine br_f (by decide) ?_ | refine nm_e ?_ | refine And.intro (by assumption) ?_ | refine And.intro rfl ?_ | refine lx_isA (by assumption) ?_ | refine lx_nA (by assumption) ?_ | refine ly_isA (by assumption) ?_ | refine ly_nA (by assumption) ?_)
        exact J
    · rw [hig, if_neg (by decide)] at c7 c8
      subst c7
      subst c8
      by_cases a1 : v2 < -1
      · repeat (first | refine br_t (by assumption) ?_ | refine br_f (by assumption) ?_ | refine br_t (by decide) ?_ | refine br_f (by decide) ?_ | refine nm_e ?_ | refine And.intro (by assumption) ?_ | refine And.intro rfl ?_ | refine lx_isA (by assumption) ?_ | refine lx_nA (by assumption) ?_ | refine ly_isA (by assumption) ?_ | refine ly_nA (by assumption) ?_)
        exact J
      by_cases a2 : 15 < v2
      · repeat (first | refine br_t (by assumption) ?_ | refine br_f (by assumption) ?_ | refine br_t (by decide) ?_ | refine br_f (by decide) ?_ | refine nm_e ?_ | refine And.intro (by assumption) ?_ | refine And.intro rfl ?_ | refine lx_isA (by assumption) ?_ | refine lx_nA (by assumption) ?_ | refine ly_isA (by assumption) ?_ | refine ly_nA (by assumption) ?_)
        exact J
      by_cases a3 : v3 < 0
      · repeat (first | refine br_t (by assumption) ?_ | refine br_f (by assumption) ?_ | refine br_t (by decide) ?_ | refine br_f (by decide) ?_ | refine nm_e ?_ | refine And.intro (by assumption) ?_ | refine And.intro rfl ?_ | refine lx_isA (by assumption) ?_ | refine lx_nA (by assumption) ?_ | refine ly_isA (by assumption) ?_ | refine ly_nA (by assumption) ?_)
        exact J
      by_cases a4 : 3 < v3
      · have a5 : ¬ v3 ≤ 3 := Int32.not_le.mpr a4
        repeat (first | refine br_t (by assumption) ?_ | refine br_f (by assumption) ?_ | refine br_t (by decide) ?_ | refine br_f (by decide) ?_ | refine nm_e ?_ | refine And.intro (by assumption) ?_ | refine And.intro rfl ?_ | refine lx_isA (by assumption) ?_ | refine lx_nA (by assumption) ?_ | refine ly_isA (by assumption) ?_ | refine ly_nA (by assumption) ?_)
        exact J
      have a5 : v3 ≤ 3 := Int32.not_lt.mp a4
      by_cases hn : ns < 32
      · have n1 : nI ns < 32 := nI_lt (b := 32) hn (by omega)
        have n2 : vp_in (nI ns) 32 := vp_in_nI hn (by omega)
        repeat (first | refine br_t (by assumption) ?_ | refine br_f (by assumption) ?_ | refine br_t (by decide) ?_ | refine br_f (by decide) ?_ | refine nm_e ?_ | refine And.intro (by assumption) ?_ | refine And.intro rfl ?_ | refine lx_isA (by assumption) ?_ | refine lx_nA (by assumption) ?_ | refine ly_isA (by assumption) ?_ | refine ly_nA (by assumption) ?_)
        rw [nI_clamp (show ns < 2 ^ 31 by omega), nI_1 ns]
        refine K (lk_S_st (x := 4) hS hn (by decide) (by decide) rfl rfl rfl ?_)
        unfold lk_sc
        simp only [lk_is_u ns (Nat.le_refl ns), lk_ig_u ns (Nat.le_refl ns), lk_no_u ns (Nat.le_refl ns), lk_ng_u ns (Nat.le_refl ns), pk_us, ← c4, ← c5]
        exact Or.inr (Or.inl ⟨Or.inr (Or.inr (by trivial)), his, (by trivial), (by trivial)⟩)
      · have n1 : ¬ nI ns < 32 := nI_nlt (b := 32) (by omega) (by omega)
        repeat (first | refine br_t (by assumption) ?_ | refine br_f (by assumption) ?_ | refine br_t (by decide) ?_ | refine br_f (by decide) ?_ | refine nm_e ?_ | refine And.intro (by assumption) ?_ | refine And.intro rfl ?_ | refine lx_isA (by assumption) ?_ | refine lx_nA (by assumption) ?_ | refine ly_isA (by assumption) ?_ | refine ly_nA (by assumption) ?_)
        exact J
  · rw [his, if_neg (by decide)] at c6
    subst c6
    rcases Bool.eq_false_or_eq_true (lk_ig xstmtOp ns) with hig | hig
    · have hng := lk_ig_p ns hig
      rw [← c5] at hng
      rw [hig, if_pos rfl] at c7 c8
      subst c7
      subst c8
      have g1 : ¬ nI (ng - 1) = -1 := lk_nn1 (by omega)
      repeat (first | refine br_t (by assumption) ?_ | refine br_f (by assumption) ?_ | refine br_t (by decide) ?_ | refine br_f (by decide) ?_ | refine nm_e ?_ | refine And.intro (by assumption) ?_ | refine And.intro rfl ?_ | refine lx_isA (by assumption) ?_ | refine lx_nA (by assumption) ?_ | refine ly_isA (by assumption) ?_ | refine ly_nA (by assumption) ?_)
      exact J
    · rw [hig, if_neg (by decide)] at c7 c8
      subst c7
      subst c8
      repeat (first | refine br_t (by assumption) ?_ | refine br_f (by assumption) ?_ | refine br_t (by decide) ?_ | refine br_f (by decide) ?_ | refine nm_e ?_ | refine And.intro (by assumption) ?_ | refine And.intro rfl ?_ | refine lx_isA (by assumption) ?_ | refine lx_nA (by assumption) ?_ | refine ly_isA (by assumption) ?_ | refine ly_nA (by assumption) ?_)
      exact J
end
end
section
section
theorem lk_scr5 {k : Nat} {ns no ng ni nb nr R0 R1 : Nat} {xphase xopenOut xopenGroup yinGroup yfinalC0 yfinalC1 : Int32} {xregionSize xcounter xmemory xstmtOp xstmtA xstmtB xstmtOwner xoutRegion xoutLoaded xoutGroup xoutAlign xoutVma xoutLma xoutDot xgroupStart xgroupEnd xgroupResident xinKind xinId xinAlign xinSize xinFirstByte xinStmt xinLive xinVma xfedBytes xrelocOwner xrelocOffset xrelocType xrelocTarget xrelocAddend ystOut youtSize youtRes ygStart ygEnd yinBss yinLen yinVma yinLma yrom yram : Nat → Int32} {v2 v3 : Int32} (J : i_Rel (k + 5) (xphase, (nI ns), xopenOut, xopenGroup, (nI no), (nI ng), (nI ni), (nI nb), (nI nr), xregionSize, xcounter, xmemory, xstmtOp, xstmtA, xstmtB, xstmtOwner, xoutRegion, xoutLoaded, xoutGroup, xoutAlign, xoutVma, xoutLma, xoutDot, xgroupStart, xgroupEnd, xgroupResident, xinKind, xinId, xinAlign, xinSize, xinFirstByte, xinStmt, xinLive, xinVma, xfedBytes, xrelocOwner, xrelocOffset, xrelocType, xrelocTarget, xrelocAddend) ((nI R0), (nI R1), xphase, (nI ns), (nI no), (nI ng), (nI ni), (nI nb), (nI nr), xopenOut, yinGroup, (nI ni - 1), yfinalC0, yfinalC1, xstmtOp, xstmtA, xstmtB, ystOut, xoutRegion, xoutLoaded, xoutGroup, xoutVma, xoutLma, youtSize, xoutAlign, youtRes, ygStart, ygEnd, xinKind, xinId, xinAlign, yinBss, xinFirstByte, yinLen, xinStmt, xinLive, yinVma, yinLma, xfedBytes, xrelocOwner, xrelocOffset, xrelocType, xrelocTarget, xrelocAddend, yrom, yram)) (hS : lk_S ns no ng xstmtOp xstmtA xstmtB xstmtOwner ystOut xoutRegion xoutLoaded xoutGroup xopenOut xopenGroup yinGroup) (K : ∀ {ns no ng : Nat} {xopenOut xopenGroup yinGroup : Int32} {xstmtOp xstmtA xstmtB xstmtOwner xoutRegion xoutLoaded xoutGroup ystOut : Nat → Int32}, lk_S ns no ng xstmtOp xstmtA xstmtB xstmtOwner ystOut xoutRegion xoutLoaded xoutGroup xopenOut xopenGroup yinGroup → i_Rel (k + 5) (xphase, (nI ns), xopenOut, xopenGroup, (nI no), (nI ng), (nI ni), (nI nb), (nI nr), xregionSize, xcounter, xmemory, xstmtOp, xstmtA, xstmtB, xstmtOwner, xoutRegion, xoutLoaded, xoutGroup, xoutAlign, xoutVma, xoutLma, xoutDot, xgroupStart, xgroupEnd, xgroupResident, xinKind, xinId, xinAlign, xinSize, xinFirstByte, xinStmt, xinLive, xinVma, xfedBytes, xrelocOwner, xrelocOffset, xrelocType, xrelocTarget, xrelocAddend) ((nI R0), (nI R1), xphase, (nI ns), (nI no), (nI ng), (nI ni), (nI nb), (nI nr), xopenOut, yinGroup, (nI ni - 1), yfinalC0, yfinalC1, xstmtOp, xstmtA, xstmtB, ystOut, xoutRegion, xoutLoaded, xoutGroup, xoutVma, xoutLma, youtSize, xoutAlign, youtRes, ygStart, ygEnd, xinKind, xinId, xinAlign, yinBss, xinFirstByte, yinLen, xinStmt, xinLive, yinVma, yinLma, xfedBytes, xrelocOwner, xrelocOffset, xrelocType, xrelocTarget, xrelocAddend, yrom, yram)) (hp : xphase = 0) : wpX_script (fun r u' => wpY_script (fun r' v' => r' = r ∧ i_Rel (k + 5) u' v') ((nI R0), (nI R1), xphase, (nI ns), (nI no), (nI ng), (nI ni), (nI nb), (nI nr), xopenOut, yinGroup, (nI ni - 1), yfinalC0, yfinalC1, xstmtOp, xstmtA, xstmtB, ystOut, xoutRegion, xoutLoaded, xoutGroup, xoutVma, xoutLma, youtSize, xoutAlign, youtRes, ygStart, ygEnd, xinKind, xinId, xinAlign, yinBss, xinFirstByte, yinLen, xinStmt, xinLive, yinVma, yinLma, xfedBytes, xrelocOwner, xrelocOffset, xrelocType, xrelocTarget, xrelocAddend, yrom, yram) 5 v2 v3) (xphase, (nI ns), xopenOut, xopenGroup, (nI no), (nI ng), (nI ni), (nI nb), (nI nr), xregionSize, xcounter, xmemory, xstmtOp, xstmtA, xstmtB, xstmtOwner, xoutRegion, xoutLoaded, xoutGroup, xoutAlign, xoutVma, xoutLma, xoutDot, xgroupStart, xgroupEnd, xgroupResident, xinKind, xinId, xinAlign, xinSize, xinFirstByte, xinStmt, xinLive, xinVma, xfedBytes, xrelocOwner, xrelocOffset, xrelocType, xrelocTarget, xrelocAddend) 5 v2 v3 := by
  obtain ⟨c1, c2, c3, c4, c5, c6, c7, c8, c9⟩ := id hS
  rcases Bool.eq_false_or_eq_true (lk_is xstmtOp ns) with his | his
  · have hno := lk_is_p ns his
    rw [← c4] at hno
    rw [his, if_pos rfl] at c6
    subst c6
    have o1 : ¬ nI (no - 1) = -1 := lk_nn1 (by omega)
    have o2 : ¬ nI (no - 1) < 0 := nI_pos (by omega)
    rcases Bool.eq_false_or_eq_true (lk_ig xstmtOp ns) with hig | hig
    · have hng := lk_ig_p ns hig
      rw [← c5] at hng
      rw [hig, if_pos rfl] at c7 c8
      subst c7
      subst c8
      have g1 : ¬ nI (ng - 1) = -1 := lk_nn1 (by omega)
      by_cases a1 : v2 < 0
      · repeat (first | refine br_t (by assumption) ?_ | refine br_f (by assumption) ?_ | refine br_t (by decide) ?_ | refine br_f (by decide) ?_ | refine nm_e ?_ | refine And.intro (by assumption) ?_ | refine And.intro rfl ?_ | refine lx_isA (by assumption) ?_ | refine lx_nA (by assumption) ?_ | refine ly_isA (by assumption) ?_ | refine ly_nA (by assumption) ?_)
        exact J
      by_cases a2 : 1023 < v2
      · have a3 : ¬ v2 ≤ 1023 := Int32.not_le.mpr a2
        repeat (first | refine br_t (by assumption) ?_ | refine br_f (by assumption) ?_ | refine br_t (by decide) ?_ | refine br_f (by decide) ?_ | refine nm_e ?_ | refine And.intro (by assumption) ?_ | refine And.intro rfl ?_ | refine lx_isA (by assumption) ?_ | refine lx_nA (by assumption) ?_ | refine ly_isA (by assumption) ?_ | refine ly_nA (by assumption) ?_)
        exact J
      have a3 : v2 ≤ 1023 := Int32.not_lt.mp a2
      obtain ⟨x, hx, ex⟩ := nI_of2 (M := 1023) (n := 1023) (by decide) a1 a3
      by_cases hn : ns < 32
      · have n1 : nI ns < 32 := nI_lt (b := 32) hn (by omega)
        have n2 : vp_in (nI ns) 32 := vp_in_nI hn (by omega)
        repeat (first | refine br_t (by assumption) ?_ | refine br_f (by assumption) ?_ | refine br_t (by decide) ?_ | refine br_f (by decide) ?_ | refine nm_e ?_ | refine And.intro (by assumption) ?_ | refine And.intro rfl ?_ | refine lx_isA (by assumption) ?_ | refine lx_nA (by assumption) ?_ | refine ly_isA (by assumption) ?_ | refine ly_nA (by assumption) ?_)
        rw [nI_clamp (show ns < 2 ^ 31 by omega), nI_1 ns]
        refine K (lk_S_st (x := 5) hS hn (by decide) (by decide) rfl rfl rfl ?_)
        unfold lk_sc
        simp only [lk_is_u ns (Nat.le_refl ns), lk_ig_u ns (Nat.le_refl ns), lk_no_u ns (Nat.le_refl ns), lk_ng_u ns (Nat.le_refl ns), pk_us, ← c4, ← c5]
        exact Or.inr (Or.inr (Or.inl ⟨Or.inl (by trivial), ⟨x, by omega, ex, fun z => absurd z (by decide)⟩, Or.inl ⟨his, (by trivial), (by trivial)⟩⟩))
      · have n1 : ¬ nI ns < 32 := nI_nlt (b := 32) (by omega) (by omega)
        repeat (first | refine br_t (by assumption) ?_ | refine br_f (by assumption) ?_ | refine br_t (by decide) ?_ | refine br_f (by decide) ?_ | refine nm_e ?_ | refine And.intro (by assumption) ?_ | refine And.intro rfl ?_ | refine lx_isA (by assumption) ?_ | refine lx_nA (by assumption) ?_ | refine ly_isA (by assumption) ?_ | refine ly_nA (by assumption) ?_)
        exact J
    · rw [hig, if_neg (by decide)] at c7 c8
      subst c7
      subst c8
      by_cases a1 : v2 < 0
      · repeat (first | refine br_t (by assumption) ?_ | refine br_f (by assumption) ?_ | refine br_t (by decide) ?_ | refine br_f (by decide) ?_ | refine nm_e ?_ | refine And.intro (by assumption) ?_ | refine And.intro rfl ?_ | refine lx_isA (by assumption) ?_ | refine lx_nA (by assumption) ?_ | refine ly_isA (by assumption) ?_ | refine ly_nA (by assumption) ?_)
        exact J
      by_cases a2 : 1023 < v2
      · have a3 : ¬ v2 ≤ 1023 := Int32.not_le.mpr a2
        repeat (first | refine br_t (by assumption) ?_ | refine br_f (by assumption) ?_ | refine br_t (by decide) ?_ | refine br_f (by decide) ?_ | refine nm_e ?_ | refine And.intro (by assumption) ?_ | refine And.intro rfl ?_ | refine lx_isA (by assumption) ?_ | refine lx_nA (by assumption) ?_ | refine ly_isA (by assumption) ?_ | refine ly_nA (by assumption) ?_)
        exact J
      have a3 : v2 ≤ 1023 := Int32.not_lt.mp a2
      obtain ⟨x, hx, ex⟩ := nI_of2 (M := 1023) (n := 1023) (by decide) a1 a3
      by_cases hn : ns < 32
      · have n1 : nI ns < 32 := nI_lt (b := 32) hn (by omega)
        have n2 : vp_in (nI ns) 32 := vp_in_nI hn (by omega)
        repeat (first | refine br_t (by assumption) ?_ | refine br_f (by assumption) ?_ | refine br_t (by decide) ?_ | refine br_f (by decide) ?_ | refine nm_e ?_ | refine And.intro (by assumption) ?_ | refine And.intro rfl ?_ | refine lx_isA (by assumption) ?_ | refine lx_nA (by assumption) ?_ | refine ly_isA (by assumption) ?_ | refine ly_nA (by assumption) ?_)
        rw [nI_clamp (show ns < 2 ^ 31 by omega), nI_1 ns]
        refine K (lk_S_st (x := 5) hS hn (by decide) (by decide) rfl rfl rfl ?_)
        unfold lk_sc
        simp only [lk_is_u ns (Nat.le_refl ns), lk_ig_u ns (Nat.le_refl ns), lk_no_u ns (Nat.le_refl ns), lk_ng_u ns (Nat.le_refl ns), pk_us, ← c4, ← c5]
        exact Or.inr (Or.inr (Or.inl ⟨Or.inl (by trivial), ⟨x, by omega, ex, fun z => absurd z (by decide)⟩, Or.inl ⟨his, (by trivial), (by trivial)⟩⟩))
      · have n1 : ¬ nI ns < 32 := nI_nlt (b := 32) (by omega) (by omega)
        repeat (first | refine br_t (by assumption) ?_ | refine br_f (by assumption) ?_ | refine br_t (by decide) ?_ | refine br_f (by decide) ?_ | refine nm_e ?_ | refine And.intro (by assumption) ?_ | refine And.intro rfl ?_ | refine lx_isA (by assumption) ?_ | refine lx_nA (by assumption) ?_ | refine ly_isA (by assumption) ?_ | refine ly_nA (by assumption) ?_)
        exact J
  · rw [his, if_neg (by decide)] at c6
    subst c6
    rcases Bool.eq_false_or_eq_true (lk_ig xstmtOp ns) with hig | hig
    · have hng := lk_ig_p ns hig
      rw [← c5] at hng
      rw [hig, if_pos rfl] at c7 c8
      subst c7
      subst c8
      have g1 : ¬ nI (ng - 1) = -1 := lk_nn1 (by omega)
      repeat (first | refine br_t (by assumption) ?_ | refine br_f (by assumption) ?_ | refine br_t (by decide) ?_ | refine br_f (by decide) ?_ | refine nm_e ?_ | refine And.intro (by assumption) ?_ | refine And.intro rfl ?_ | refine lx_isA (by assumption) ?_ | refine lx_nA (by assumption) ?_ | refine ly_isA (by assumption) ?_ | refine ly_nA (by assumption) ?_)
      exact J
    · rw [hig, if_neg (by decide)] at c7 c8
      subst c7
      subst c8
      by_cases a1 : v2 < 0
      · repeat (first | refine br_t (by assumption) ?_ | refine br_f (by assumption) ?_ | refine br_t (by decide) ?_ | refine br_f (by decide) ?_ | refine nm_e ?_ | refine And.intro (by assumption) ?_ | refine And.intro rfl ?_ | refine lx_isA (by assumption) ?_ | refine lx_nA (by assumption) ?_ | refine ly_isA (by assumption) ?_ | refine ly_nA (by assumption) ?_)
        exact J
      by_cases a2 : 1023 < v2
      · have a3 : ¬ v2 ≤ 1023 := Int32.not_le.mpr a2
        repeat (first | refine br_t (by assumption) ?_ | refine br_f (by assumption) ?_ | refine br_t (by decide) ?_ | refine br_f (by decide) ?_ | refine nm_e ?_ | refine And.intro (by assumption) ?_ | refine And.intro rfl ?_ | refine lx_isA (by assumption) ?_ | refine lx_nA (by assumption) ?_ | refine ly_isA (by assumption) ?_ | refine ly_nA (by assumption) ?_)
        exact J
      have a3 : v2 ≤ 1023 := Int32.not_lt.mp a2
      obtain ⟨x, hx, ex⟩ := nI_of2 (M := 1023) (n := 1023) (by decide) a1 a3
      rcases lk_01 v3 with b0 | b0 | ⟨b1, b2, b3⟩ | ⟨b1, b2, b3, b4, b5⟩
      · have b1 : ¬ v3 < 0 := by rw [b0]; decide
        have b2 : v3 ≤ 1 := by rw [b0]; decide
        by_cases hn : ns < 32
        · have n1 : nI ns < 32 := nI_lt (b := 32) hn (by omega)
          have n2 : vp_in (nI ns) 32 := vp_in_nI hn (by omega)
          repeat (first | refine br_t (by assumption) ?_ | refine br_f (by assumption) ?_ | refine br_t (by decide) ?_ | refine br_f (by decide) ?_ | refine nm_e ?_ | refine And.intro (by assumption) ?_ | refine And.intro rfl ?_ | refine lx_isA (by assumption) ?_ | refine lx_nA (by assumption) ?_ | refine ly_isA (by assumption) ?_ | refine ly_nA (by assumption) ?_)
          rw [nI_clamp (show ns < 2 ^ 31 by omega), nI_1 ns]
          refine K (lk_S_st (x := 5) hS hn (by decide) (by decide) rfl rfl rfl ?_)
          unfold lk_sc
          simp only [lk_is_u ns (Nat.le_refl ns), lk_ig_u ns (Nat.le_refl ns), lk_no_u ns (Nat.le_refl ns), lk_ng_u ns (Nat.le_refl ns), pk_us, ← c4, ← c5]
          exact Or.inr (Or.inr (Or.inl ⟨Or.inl (by trivial), ⟨x, by omega, ex, fun z => absurd z (by decide)⟩, Or.inr ⟨his, hig, (by trivial), (by trivial), Or.inl b0⟩⟩))
        · have n1 : ¬ nI ns < 32 := nI_nlt (b := 32) (by omega) (by omega)
          repeat (first | refine br_t (by assumption) ?_ | refine br_f (by assumption) ?_ | refine br_t (by decide) ?_ | refine br_f (by decide) ?_ | refine nm_e ?_ | refine And.intro (by assumption) ?_ | refine And.intro rfl ?_ | refine lx_isA (by assumption) ?_ | refine lx_nA (by assumption) ?_ | refine ly_isA (by assumption) ?_ | refine ly_nA (by assumption) ?_)
          exact J
      · have b1 : ¬ v3 < 0 := by rw [b0]; decide
        have b2 : v3 ≤ 1 := by rw [b0]; decide
        have b3 : ¬ v3 = 0 := by rw [b0]; decide
        by_cases hn : ns < 32
        · have n1 : nI ns < 32 := nI_lt (b := 32) hn (by omega)
          have n2 : vp_in (nI ns) 32 := vp_in_nI hn (by omega)
          repeat (first | refine br_t (by assumption) ?_ | refine br_f (by assumption) ?_ | refine br_t (by decide) ?_ | refine br_f (by decide) ?_ | refine nm_e ?_ | refine And.intro (by assumption) ?_ | refine And.intro rfl ?_ | refine lx_isA (by assumption) ?_ | refine lx_nA (by assumption) ?_ | refine ly_isA (by assumption) ?_ | refine ly_nA (by assumption) ?_)
          rw [nI_clamp (show ns < 2 ^ 31 by omega), nI_1 ns]
          refine K (lk_S_st (x := 5) hS hn (by decide) (by decide) rfl rfl rfl ?_)
          unfold lk_sc
          simp only [lk_is_u ns (Nat.le_refl ns), lk_ig_u ns (Nat.le_refl ns), lk_no_u ns (Nat.le_refl ns), lk_ng_u ns (Nat.le_refl ns), pk_us, ← c4, ← c5]
          exact Or.inr (Or.inr (Or.inl ⟨Or.inl (by trivial), ⟨x, by omega, ex, fun z => absurd z (by decide)⟩, Or.inr ⟨his, hig, (by trivial), (by trivial), Or.inr b0⟩⟩))
        · have n1 : ¬ nI ns < 32 := nI_nlt (b := 32) (by omega) (by omega)
          repeat (first | refine br_t (by assumption) ?_ | refine br_f (by assumption) ?_ | refine br_t (by decide) ?_ | refine br_f (by decide) ?_ | refine nm_e ?_ | refine And.intro (by assumption) ?_ | refine And.intro rfl ?_ | refine lx_isA (by assumption) ?_ | refine lx_nA (by assumption) ?_ | refine ly_isA (by assumption) ?_ | refine ly_nA (by assumption) ?_)
          exact J
      · repeat (first | refine br_t (by assumption) ?_ | refine br_f (by assumption) ?_ | refine br_t (by decide) ?_ | refine br_f (by decide) ?_ | refine nm_e ?_ | refine And.intro (by assumption) ?_ | refine And.intro rfl ?_ | refine lx_isA (by assumption) ?_ | refine lx_nA (by assumption) ?_ | refine ly_isA (by assumption) ?_ | refine ly_nA (by assumption) ?_)
        exact J
      · repeat (first | refine br_t (by assumption) ?_ | refine br_f (by assumption) ?_ | refine br_t (by decide) ?_ | refine br_f (by decide) ?_ | refine nm_e ?_ | refine And.intro (by assumption) ?_ | refine And.intro rfl ?_ | refine lx_isA (by assumption) ?_ | refine lx_nA (by assumption) ?_ | refine ly_isA (by assumption) ?_ | refine ly_nA (by assumption) ?_)
        exact J
theorem lk_scr6 {k : Nat} {ns no ng ni nb nr R0 R1 : Nat} {xphase xopenOut xopenGroup yinGroup yfinalC0 yfinalC1 : Int32} {xregionSize xcounter xmemory xstmtOp xstmtA xstmtB xstmtOwner xoutRegion xoutLoaded xoutGroup xoutAlign xoutVma xoutLma xoutDot xgroupStart xgroupEnd xgroupResident xinKind xinId xinAlign xinSize xinFirstByte xinStmt xinLive xinVma xfedBytes xrelocOwner xrelocOffset xrelocType xrelocTarget xrelocAddend ystOut youtSize youtRes ygStart ygEnd yinBss yinLen yinVma yinLma yrom yram : Nat → Int32} {v2 v3 : Int32} (J : i_Rel (k + 5) (xphase, (nI ns), xopenOut, xopenGroup, (nI no), (nI ng), (nI ni), (nI nb), (nI nr), xregionSize, xcounter, xmemory, xstmtOp, xstmtA, xstmtB, xstmtOwner, xoutRegion, xoutLoaded, xoutGroup, xoutAlign, xoutVma, xoutLma, xoutDot, xgroupStart, xgroupEnd, xgroupResident, xinKind, xinId, xinAlign, xinSize, xinFirstByte, xinStmt, xinLive, xinVma, xfedBytes, xrelocOwner, xrelocOffset, xrelocType, xrelocTarget, xrelocAddend) ((nI R0), (nI R1), xphase, (nI ns), (nI no), (nI ng), (nI ni), (nI nb), (nI nr), xopenOut, yinGroup, (nI ni - 1), yfinalC0, yfinalC1, xstmtOp, xstmtA, xstmtB, ystOut, xoutRegion, xoutLoaded, xoutGroup, xoutVma, xoutLma, youtSize, xoutAlign, youtRes, ygStart, ygEnd, xinKind, xinId, xinAlign, yinBss, xinFirstByte, yinLen, xinStmt, xinLive, yinVma, yinLma, xfedBytes, xrelocOwner, xrelocOffset, xrelocType, xrelocTarget, xrelocAddend, yrom, yram)) (hS : lk_S ns no ng xstmtOp xstmtA xstmtB xstmtOwner ystOut xoutRegion xoutLoaded xoutGroup xopenOut xopenGroup yinGroup) (K : ∀ {ns no ng : Nat} {xopenOut xopenGroup yinGroup : Int32} {xstmtOp xstmtA xstmtB xstmtOwner xoutRegion xoutLoaded xoutGroup ystOut : Nat → Int32}, lk_S ns no ng xstmtOp xstmtA xstmtB xstmtOwner ystOut xoutRegion xoutLoaded xoutGroup xopenOut xopenGroup yinGroup → i_Rel (k + 5) (xphase, (nI ns), xopenOut, xopenGroup, (nI no), (nI ng), (nI ni), (nI nb), (nI nr), xregionSize, xcounter, xmemory, xstmtOp, xstmtA, xstmtB, xstmtOwner, xoutRegion, xoutLoaded, xoutGroup, xoutAlign, xoutVma, xoutLma, xoutDot, xgroupStart, xgroupEnd, xgroupResident, xinKind, xinId, xinAlign, xinSize, xinFirstByte, xinStmt, xinLive, xinVma, xfedBytes, xrelocOwner, xrelocOffset, xrelocType, xrelocTarget, xrelocAddend) ((nI R0), (nI R1), xphase, (nI ns), (nI no), (nI ng), (nI ni), (nI nb), (nI nr), xopenOut, yinGroup, (nI ni - 1), yfinalC0, yfinalC1, xstmtOp, xstmtA, xstmtB, ystOut, xoutRegion, xoutLoaded, xoutGroup, xoutVma, xoutLma, youtSize, xoutAlign, youtRes, ygStart, ygEnd, xinKind, xinId, xinAlign, yinBss, xinFirstByte, yinLen, xinStmt, xinLive, yinVma, yinLma, xfedBytes, xrelocOwner, xrelocOffset, xrelocType, xrelocTarget, xrelocAddend, yrom, yram)) (hp : xphase = 0) : wpX_script (fun r u' => wpY_script (fun r' v' => r' = r ∧ i_Rel (k + 5) u' v') ((nI R0), (nI R1), xphase, (nI ns), (nI no), (nI ng), (nI ni), (nI nb), (nI nr), xopenOut, yinGroup, (nI ni - 1), yfinalC0, yfinalC1, xstmtOp, xstmtA, xstmtB, ystOut, xoutRegion, xoutLoaded, xoutGroup, xoutVma, xoutLma, youtSize, xoutAlign, youtRes, ygStart, ygEnd, xinKind, xinId, xinAlign, yinBss, xinFirstByte, yinLen, xinStmt, xinLive, yinVma, yinLma, xfedBytes, xrelocOwner, xrelocOffset, xrelocType, xrelocTarget, xrelocAddend, yrom, yram) 6 v2 v3) (xphase, (nI ns), xopenOut, xopenGroup, (nI no), (nI ng), (nI ni), (nI nb), (nI nr), xregionSize, xcounter, xmemory, xstmtOp, xstmtA, xstmtB, xstmtOwner, xoutRegion, xoutLoaded, xoutGroup, xoutAlign, xoutVma, xoutLma, xoutDot, xgroupStart, xgroupEnd, xgroupResident, xinKind, xinId, xinAlign, xinSize, xinFirstByte, xinStmt, xinLive, xinVma, xfedBytes, xrelocOwner, xrelocOffset, xrelocType, xrelocTarget, xrelocAddend) 6 v2 v3 := by
  obtain ⟨c1, c2, c3, c4, c5, c6, c7, c8, c9⟩ := id hS
  rcases Bool.eq_false_or_eq_true (lk_is xstmtOp ns) with his | his
  · have hno := lk_is_p ns his
    rw [← c4] at hno
    rw [his, if_pos rfl] at c6
    subst c6
    have o1 : ¬ nI (no - 1) = -1 := lk_nn1 (by omega)
    have o2 : ¬ nI (no - 1) < 0 := nI_pos (by omega)
    rcases Bool.eq_false_or_eq_true (lk_ig xstmtOp ns) with hig | hig
    · have hng := lk_ig_p ns hig
      rw [← c5] at hng
      rw [hig, if_pos rfl] at c7 c8
      subst c7
      subst c8
      have g1 : ¬ nI (ng - 1) = -1 := lk_nn1 (by omega)
      by_cases a1 : v2 < 0
      · repeat (first | refine br_t (by assumption) ?_ | refine br_f (by assumption) ?_ | refine br_t (by decide) ?_ | refine br_f (by decide) ?_ | refine nm_e ?_ | refine And.intro (by assumption) ?_ | refine And.intro rfl ?_ | refine lx_isA (by assumption) ?_ | refine lx_nA (by assumption) ?_ | refine ly_isA (by assumption) ?_ | refine ly_nA (by assumption) ?_)
        exact J
      by_cases a2 : 255 < v2
      · have a3 : ¬ v2 ≤ 255 := Int32.not_le.mpr a2
        repeat (first | refine br_t (by assumption) ?_ | refine br_f (by assumption) ?_ | refine br_t (by decide) ?_ | refine br_f (by decide) ?_ | refine nm_e ?_ | refine And.intro (by assumption) ?_ | refine And.intro rfl ?_ | refine lx_isA (by assumption) ?_ | refine lx_nA (by assumption) ?_ | refine ly_isA (by assumption) ?_ | refine ly_nA (by assumption) ?_)
        exact J
      have a3 : v2 ≤ 255 := Int32.not_lt.mp a2
      obtain ⟨x, hx, ex⟩ := nI_of2 (M := 255) (n := 255) (by decide) a1 a3
      by_cases hn : ns < 32
      · have n1 : nI ns < 32 := nI_lt (b := 32) hn (by omega)
        have n2 : vp_in (nI ns) 32 := vp_in_nI hn (by omega)
        repeat (first | refine br_t (by assumption) ?_ | refine br_f (by assumption) ?_ | refine br_t (by decide) ?_ | refine br_f (by decide) ?_ | refine nm_e ?_ | refine And.intro (by assumption) ?_ | refine And.intro rfl ?_ | refine lx_isA (by assumption) ?_ | refine lx_nA (by assumption) ?_ | refine ly_isA (by assumption) ?_ | refine ly_nA (by assumption) ?_)
        rw [nI_clamp (show ns < 2 ^ 31 by omega), nI_1 ns]
        refine K (lk_S_st (x := 6) hS hn (by decide) (by decide) rfl rfl rfl ?_)
        unfold lk_sc
        simp only [lk_is_u ns (Nat.le_refl ns), lk_ig_u ns (Nat.le_refl ns), lk_no_u ns (Nat.le_refl ns), lk_ng_u ns (Nat.le_refl ns), pk_us, ← c4, ← c5]
        exact Or.inr (Or.inr (Or.inl ⟨Or.inr (Or.inl (by trivial)), ⟨x, by omega, ex, fun z => absurd z (by decide)⟩, Or.inl ⟨his, (by trivial), (by trivial)⟩⟩))
      · have n1 : ¬ nI ns < 32 := nI_nlt (b := 32) (by omega) (by omega)
        repeat (first | refine br_t (by assumption) ?_ | refine br_f (by assumption) ?_ | refine br_t (by decide) ?_ | refine br_f (by decide) ?_ | refine nm_e ?_ | refine And.intro (by assumption) ?_ | refine And.intro rfl ?_ | refine lx_isA (by assumption) ?_ | refine lx_nA (by assumption) ?_ | refine ly_isA (by assumption) ?_ | refine ly_nA (by assumption) ?_)
        exact J
    · rw [hig, if_neg (by decide)] at c7 c8
      subst c7
      subst c8
      by_cases a1 : v2 < 0
      · repeat (first | refine br_t (by assumption) ?_ | refine br_f (by assumption) ?_ | refine br_t (by decide) ?_ | refine br_f (by decide) ?_ | refine nm_e ?_ | refine And.intro (by assumption) ?_ | refine And.intro rfl ?_ | refine lx_isA (by assumption) ?_ | refine lx_nA (by assumption) ?_ | refine ly_isA (by assumption) ?_ | refine ly_nA (by assumption) ?_)
        exact J
      by_cases a2 : 255 < v2
      · have a3 : ¬ v2 ≤ 255 := Int32.not_le.mpr a2
        repeat (first | refine br_t (by assumption) ?_ | refine br_f (by assumption) ?_ | refine br_t (by decide) ?_ | refine br_f (by decide) ?_ | refine nm_e ?_ | refine And.intro (by assumption) ?_ | refine And.intro rfl ?_ | refine lx_isA (by assumption) ?_ | refine lx_nA (by assumption) ?_ | refine ly_isA (by assumption) ?_ | refine ly_nA (by assumption) ?_)
        exact J
      have a3 : v2 ≤ 255 := Int32.not_lt.mp a2
      obtain ⟨x, hx, ex⟩ := nI_of2 (M := 255) (n := 255) (by decide) a1 a3
      by_cases hn : ns < 32
      · have n1 : nI ns < 32 := nI_lt (b := 32) hn (by omega)
        have n2 : vp_in (nI ns) 32 := vp_in_nI hn (by omega)
        repeat (first | refine br_t (by assumption) ?_ | refine br_f (by assumption) ?_ | refine br_t (by decide) ?_ | refine br_f (by decide) ?_ | refine nm_e ?_ | refine And.intro (by assumption) ?_ | refine And.intro rfl ?_ | refine lx_isA (by assumption) ?_ | refine lx_nA (by assumption) ?_ | refine ly_isA (by assumption) ?_ | refine ly_nA (by assumption) ?_)
        rw [nI_clamp (show ns < 2 ^ 31 by omega), nI_1 ns]
        refine K (lk_S_st (x := 6) hS hn (by decide) (by decide) rfl rfl rfl ?_)
        unfold lk_sc
        simp only [lk_is_u ns (Nat.le_refl ns), lk_ig_u ns (Nat.le_refl ns), lk_no_u ns (Nat.le_refl ns), lk_ng_u ns (Nat.le_refl ns), pk_us, ← c4, ← c5]
        exact Or.inr (Or.inr (Or.inl ⟨Or.inr (Or.inl (by trivial)), ⟨x, by omega, ex, fun z => absurd z (by decide)⟩, Or.inl ⟨his, (by trivial), (by trivial)⟩⟩))
      · have n1 : ¬ nI ns < 32 := nI_nlt (b := 32) (by omega) (by omega)
        repeat (first | refine br_t (by assumption) ?_ | refine br_f (by assumption) ?_ | refine br_t (by decide) ?_ | refine br_f (by decide) ?_ | refine nm_e ?_ | refine And.intro (by assumption) ?_ | refine And.intro rfl ?_ | refine lx_isA (by assumption) ?_ | refine lx_nA (by assumption) ?_ | refine ly_isA (by assumption) ?_ | refine ly_nA (by assumption) ?_)
        exact J
  · rw [his, if_neg (by decide)] at c6
    subst c6
    rcases Bool.eq_false_or_eq_true (lk_ig xstmtOp ns) with hig | hig
    · have hng := lk_ig_p ns hig
      rw [← c5] at hng
      rw [hig, if_pos rfl] at c7 c8
      subst c7
      subst c8
      have g1 : ¬ nI (ng - 1) = -1 := lk_nn1 (by omega)
      repeat (first | refine br_t (by assumption) ?_ | refine br_f (by assumption) ?_ | refine br_t (by decide) ?_ | refine br_f (by decide) ?_ | refine nm_e ?_ | refine And.intro (by assumption) ?_ | refine And.intro rfl ?_ | refine lx_isA (by assumption) ?_ | refine lx_nA (by assumption) ?_ | refine ly_isA (by assumption) ?_ | refine ly_nA (by assumption) ?_)
      exact J
    · rw [hig, if_neg (by decide)] at c7 c8
      subst c7
      subst c8
      by_cases a1 : v2 < 0
      · repeat (first | refine br_t (by assumption) ?_ | refine br_f (by assumption) ?_ | refine br_t (by decide) ?_ | refine br_f (by decide) ?_ | refine nm_e ?_ | refine And.intro (by assumption) ?_ | refine And.intro rfl ?_ | refine lx_isA (by assumption) ?_ | refine lx_nA (by assumption) ?_ | refine ly_isA (by assumption) ?_ | refine ly_nA (by assumption) ?_)
        exact J
      by_cases a2 : 255 < v2
      · have a3 : ¬ v2 ≤ 255 := Int32.not_le.mpr a2
        repeat (first | refine br_t (by assumption) ?_ | refine br_f (by assumption) ?_ | refine br_t (by decide) ?_ | refine br_f (by decide) ?_ | refine nm_e ?_ | refine And.intro (by assumption) ?_ | refine And.intro rfl ?_ | refine lx_isA (by assumption) ?_ | refine lx_nA (by assumption) ?_ | refine ly_isA (by assumption) ?_ | refine ly_nA (by assumption) ?_)
        exact J
      have a3 : v2 ≤ 255 := Int32.not_lt.mp a2
      obtain ⟨x, hx, ex⟩ := nI_of2 (M := 255) (n := 255) (by decide) a1 a3
      rcases lk_01 v3 with b0 | b0 | ⟨b1, b2, b3⟩ | ⟨b1, b2, b3, b4, b5⟩
      · have b1 : ¬ v3 < 0 := by rw [b0]; decide
        have b2 : v3 ≤ 1 := by rw [b0]; decide
        by_cases hn : ns < 32
        · have n1 : nI ns < 32 := nI_lt (b := 32) hn (by omega)
          have n2 : vp_in (nI ns) 32 := vp_in_nI hn (by omega)
          repeat (first | refine br_t (by assumption) ?_ | refine br_f (by assumption) ?_ | refine br_t (by decide) ?_ | refine br_f (by decide) ?_ | refine nm_e ?_ | refine And.intro (by assumption) ?_ | refine And.intro rfl ?_ | refine lx_isA (by assumption) ?_ | refine lx_nA (by assumption) ?_ | refine ly_isA (by assumption) ?_ | refine ly_nA (by assumption) ?_)
          rw [nI_clamp (show ns < 2 ^ 31 by omega), nI_1 ns]
          refine K (lk_S_st (x := 6) hS hn (by decide) (by decide) rfl rfl rfl ?_)
          unfold lk_sc
          simp only [lk_is_u ns (Nat.le_refl ns), lk_ig_u ns (Nat.le_refl ns), lk_no_u ns (Nat.le_refl ns), lk_ng_u ns (Nat.le_refl ns), pk_us, ← c4, ← c5]
          exact Or.inr (Or.inr (Or.inl ⟨Or.inr (Or.inl (by trivial)), ⟨x, by omega, ex, fun z => absurd z (by decide)⟩, Or.inr ⟨his, hig, (by trivial), (by trivial), Or.inl b0⟩⟩))
        · have n1 : ¬ nI ns < 32 := nI_nlt (b := 32) (by omega) (by omega)
          repeat (first | refine br_t (by assumption) ?_ | refine br_f (by assumption) ?_ | refine br_t (by decide) ?_ | refine br_f (by decide) ?_ | refine nm_e ?_ | refine And.intro (by assumption) ?_ | refine And.intro rfl ?_ | refine lx_isA (by assumption) ?_ | refine lx_nA (by assumption) ?_ | refine ly_isA (by assumption) ?_ | refine ly_nA (by assumption) ?_)
          exact J
      · have b1 : ¬ v3 < 0 := by rw [b0]; decide
        have b2 : v3 ≤ 1 := by rw [b0]; decide
        have b3 : ¬ v3 = 0 := by rw [b0]; decide
        by_cases hn : ns < 32
        · have n1 : nI ns < 32 := nI_lt (b := 32) hn (by omega)
          have n2 : vp_in (nI ns) 32 := vp_in_nI hn (by omega)
          repeat (first | refine br_t (by assumption) ?_ | refine br_f (by assumption) ?_ | refine br_t (by decide) ?_ | refine br_f (by decide) ?_ | refine nm_e ?_ | refine And.intro (by assumption) ?_ | refine And.intro rfl ?_ | refine lx_isA (by assumption) ?_ | refine lx_nA (by assumption) ?_ | refine ly_isA (by assumption) ?_ | refine ly_nA (by assumption) ?_)
          rw [nI_clamp (show ns < 2 ^ 31 by omega), nI_1 ns]
          refine K (lk_S_st (x := 6) hS hn (by decide) (by decide) rfl rfl rfl ?_)
          unfold lk_sc
          simp only [lk_is_u ns (Nat.le_refl ns), lk_ig_u ns (Nat.le_refl ns), lk_no_u ns (Nat.le_refl ns), lk_ng_u ns (Nat.le_refl ns), pk_us, ← c4, ← c5]
          exact Or.inr (Or.inr (Or.inl ⟨Or.inr (Or.inl (by trivial)), ⟨x, by omega, ex, fun z => absurd z (by decide)⟩, Or.inr ⟨his, hig, (by trivial), (by trivial), Or.inr b0⟩⟩))
        · have n1 : ¬ nI ns < 32 := nI_nlt (b := 32) (by omega) (by omega)
          repeat (first | refine br_t (by assumption) ?_ | refine br_f (by assumption) ?_ | refine br_t (by decide) ?_ | refine br_f (by decide) ?_ | refine nm_e ?_ | refine And.intro (by assumption) ?_ | refine And.intro rfl ?_ | refine lx_isA (by assumption) ?_ | refine lx_nA (by assumption) ?_ | refine ly_isA (by assumption) ?_ | refine ly_nA (by assumption) ?_)
          exact J
      · repeat (first | refine br_t (by assumption) ?_ | refine br_f (by assumption) ?_ | refine br_t (by decide) ?_ | refine br_f (by decide) ?_ | refine nm_e ?_ | refine And.intro (by assumption) ?_ | refine And.intro rfl ?_ | refine lx_isA (by assumption) ?_ | refine lx_nA (by assumption) ?_ | refine ly_isA (by assumption) ?_ | refine ly_nA (by assumption) ?_)
        exact J
      · repeat (first | refine br_t (by assumption) ?_ | refine br_f (by assumption) ?_ | refine br_t (by decide) ?_ | refine br_f (by decide) ?_ | refine nm_e ?_ | refine And.intro (by assumption) ?_ | refine And.intro rfl ?_ | refine lx_isA (by assumption) ?_ | refine lx_nA (by assumption) ?_ | refine ly_isA (by assumption) ?_ | refine ly_nA (by assumption) ?_)
        exact J
end
end
section
section
theorem lk_scr7 {k : Nat} {ns no ng ni nb nr R0 R1 : Nat} {xphase xopenOut xopenGroup yinGroup yfinalC0 yfinalC1 : Int32} {xregionSize xcounter xmemory xstmtOp xstmtA xstmtB xstmtOwner xoutRegion xoutLoaded xoutGroup xoutAlign xoutVma xoutLma xoutDot xgroupStart xgroupEnd xgroupResident xinKind xinId xinAlign xinSize xinFirstByte xinStmt xinLive xinVma xfedBytes xrelocOwner xrelocOffset xrelocType xrelocTarget xrelocAddend ystOut youtSize youtRes ygStart ygEnd yinBss yinLen yinVma yinLma yrom yram : Nat → Int32} {v2 v3 : Int32} (J : i_Rel (k + 5) (xphase, (nI ns), xopenOut, xopenGroup, (nI no), (nI ng), (nI ni), (nI nb), (nI nr), xregionSize, xcounter, xmemory, xstmtOp, xstmtA, xstmtB, xstmtOwner, xoutRegion, xoutLoaded, xoutGroup, xoutAlign, xoutVma, xoutLma, xoutDot, xgroupStart, xgroupEnd, xgroupResident, xinKind, xinId, xinAlign, xinSize, xinFirstByte, xinStmt, xinLive, xinVma, xfedBytes, xrelocOwner, xrelocOffset, xrelocType, xrelocTarget, xrelocAddend) ((nI R0), (nI R1), xphase, (nI ns), (nI no), (nI ng), (nI ni), (nI nb), (nI nr), xopenOut, yinGroup, (nI ni - 1), yfinalC0, yfinalC1, xstmtOp, xstmtA, xstmtB, ystOut, xoutRegion, xoutLoaded, xoutGroup, xoutVma, xoutLma, youtSize, xoutAlign, youtRes, ygStart, ygEnd, xinKind, xinId, xinAlign, yinBss, xinFirstByte, yinLen, xinStmt, xinLive, yinVma, yinLma, xfedBytes, xrelocOwner, xrelocOffset, xrelocType, xrelocTarget, xrelocAddend, yrom, yram)) (hS : lk_S ns no ng xstmtOp xstmtA xstmtB xstmtOwner ystOut xoutRegion xoutLoaded xoutGroup xopenOut xopenGroup yinGroup) (K : ∀ {ns no ng : Nat} {xopenOut xopenGroup yinGroup : Int32} {xstmtOp xstmtA xstmtB xstmtOwner xoutRegion xoutLoaded xoutGroup ystOut : Nat → Int32}, lk_S ns no ng xstmtOp xstmtA xstmtB xstmtOwner ystOut xoutRegion xoutLoaded xoutGroup xopenOut xopenGroup yinGroup → i_Rel (k + 5) (xphase, (nI ns), xopenOut, xopenGroup, (nI no), (nI ng), (nI ni), (nI nb), (nI nr), xregionSize, xcounter, xmemory, xstmtOp, xstmtA, xstmtB, xstmtOwner, xoutRegion, xoutLoaded, xoutGroup, xoutAlign, xoutVma, xoutLma, xoutDot, xgroupStart, xgroupEnd, xgroupResident, xinKind, xinId, xinAlign, xinSize, xinFirstByte, xinStmt, xinLive, xinVma, xfedBytes, xrelocOwner, xrelocOffset, xrelocType, xrelocTarget, xrelocAddend) ((nI R0), (nI R1), xphase, (nI ns), (nI no), (nI ng), (nI ni), (nI nb), (nI nr), xopenOut, yinGroup, (nI ni - 1), yfinalC0, yfinalC1, xstmtOp, xstmtA, xstmtB, ystOut, xoutRegion, xoutLoaded, xoutGroup, xoutVma, xoutLma, youtSize, xoutAlign, youtRes, ygStart, ygEnd, xinKind, xinId, xinAlign, yinBss, xinFirstByte, yinLen, xinStmt, xinLive, yinVma, yinLma, xfedBytes, xrelocOwner, xrelocOffset, xrelocType, xrelocTarget, xrelocAddend, yrom, yram)) (hp : xphase = 0) : wpX_script (fun r u' => wpY_script (fun r' v' => r' = r ∧ i_Rel (k + 5) u' v') ((nI R0), (nI R1), xphase, (nI ns), (nI no), (nI ng), (nI ni), (nI nb), (nI nr), xopenOut, yinGroup, (nI ni - 1), yfinalC0, yfinalC1, xstmtOp, xstmtA, xstmtB, ystOut, xoutRegion, xoutLoaded, xoutGroup, xoutVma, xoutLma, youtSize, xoutAlign, youtRes, ygStart, ygEnd, xinKind, xinId, xinAlign, yinBss, xinFirstByte, yinLen, xinStmt, xinLive, yinVma, yinLma, xfedBytes, xrelocOwner, xrelocOffset, xrelocType, xrelocTarget, xrelocAddend, yrom, yram) 7 v2 v3) (xphase, (nI ns), xopenOut, xopenGroup, (nI no), (nI ng), (nI ni), (nI nb), (nI nr), xregionSize, xcounter, xmemory, xstmtOp, xstmtA, xstmtB, xstmtOwner, xoutRegion, xoutLoaded, xoutGroup, xoutAlign, xoutVma, xoutLma, xoutDot, xgroupStart, xgroupEnd, xgroupResident, xinKind, xinId, xinAlign, xinSize, xinFirstByte, xinStmt, xinLive, xinVma, xfedBytes, xrelocOwner, xrelocOffset, xrelocType, xrelocTarget, xrelocAddend) 7 v2 v3 := by
  obtain ⟨c1, c2, c3, c4, c5, c6, c7, c8, c9⟩ := id hS
  rcases Bool.eq_false_or_eq_true (lk_is xstmtOp ns) with his | his
  · have hno := lk_is_p ns his
    rw [← c4] at hno
    rw [his, if_pos rfl] at c6
    subst c6
    have o1 : ¬ nI (no - 1) = -1 := lk_nn1 (by omega)
    have o2 : ¬ nI (no - 1) < 0 := nI_pos (by omega)
    rcases Bool.eq_false_or_eq_true (lk_ig xstmtOp ns) with hig | hig
    · have hng := lk_ig_p ns hig
      rw [← c5] at hng
      rw [hig, if_pos rfl] at c7 c8
      subst c7
      subst c8
      have g1 : ¬ nI (ng - 1) = -1 := lk_nn1 (by omega)
      rcases Classical.em (lk_Ai v2) with a1 | a1
      · obtain ⟨x, hx, ex⟩ := lk_Ai_A a1
        have hx2 := lk_A_b hx
        by_cases hn : ns < 32
        · have n1 : nI ns < 32 := nI_lt (b := 32) hn (by omega)
          have n2 : vp_in (nI ns) 32 := vp_in_nI hn (by omega)
          repeat (first | refine br_t (by assumption) ?_ | refine br_f (by assumption) ?_ | refine br_t (by decide) ?_ | refine br_f (by decide) ?_ | refine nm_e ?_ | refine And.intro (by assumption) ?_ | refine And.intro rfl ?_ | refine lx_isA (by assumption) ?_ | refine lx_nA (by assumption) ?_ | refine ly_isA (by assumption) ?_ | refine ly_nA (by assumption) ?_)
          rw [nI_clamp (show ns < 2 ^ 31 by omega), nI_1 ns]
          refine K (lk_S_st (x := 7) hS hn (by decide) (by decide) rfl rfl rfl ?_)
          unfold lk_sc
          simp only [lk_is_u ns (Nat.le_refl ns), lk_ig_u ns (Nat.le_refl ns), lk_no_u ns (Nat.le_refl ns), lk_ng_u ns (Nat.le_refl ns), pk_us, ← c4, ← c5]
          exact Or.inr (Or.inr (Or.inl ⟨Or.inr (Or.inr (by trivial)), ⟨x, by omega, ex, fun _ => hx⟩, Or.inl ⟨his, (by trivial), (by trivial)⟩⟩))
        · have n1 : ¬ nI ns < 32 := nI_nlt (b := 32) (by omega) (by omega)
          repeat (first | refine br_t (by assumption) ?_ | refine br_f (by assumption) ?_ | refine br_t (by decide) ?_ | refine br_f (by decide) ?_ | refine nm_e ?_ | refine And.intro (by assumption) ?_ | refine And.intro rfl ?_ | refine lx_isA (by assumption) ?_ | refine lx_nA (by assumption) ?_ | refine ly_isA (by assumption) ?_ | refine ly_nA (by assumption) ?_)
          exact J
      · repeat (first | refine br_t (by assumption) ?_ | refine br_f (by assumption) ?_ | refine br_t (by decide) ?_ | refine br_f (by decide) ?_ | refine nm_e ?_ | refine And.intro (by assumption) ?_ | refine And.intro rfl ?_ | refine lx_isA (by assumption) ?_ | refine lx_nA (by assumption) ?_ | refine ly_isA (by assumption) ?_ | refine ly_nA (by assumption) ?_)
        exact J
    · rw [hig, if_neg (by decide)] at c7 c8
      subst c7
      subst c8
      rcases Classical.em (lk_Ai v2) with a1 | a1
      · obtain ⟨x, hx, ex⟩ := lk_Ai_A a1
        have hx2 := lk_A_b hx
        by_cases hn : ns < 32
        · have n1 : nI ns < 32 := nI_lt (b := 32) hn (by omega)
          have n2 : vp_in (nI ns) 32 := vp_in_nI hn (by omega)
          repeat (first | refine br_t (by assumption) ?_ | refine br_f (by assumption) ?_ | refine br_t (by decide) ?_ | refine br_f (by decide) ?_ | refine nm_e ?_ | refine And.intro (by assumption) ?_ | refine And.intro rfl ?_ | refine lx_isA (by assumption) ?_ | refine lx_nA (by assumption) ?_ | refine ly_isA (by assumption) ?_ | refine ly_nA (by assumption) ?_)
          rw [nI_clamp (show ns < 2 ^ 31 by omega), nI_1 ns]
          refine K (lk_S_st (x := 7) hS hn (by decide) (by decide) rfl rfl rfl ?_)
          unfold lk_sc
          simp only [lk_is_u ns (Nat.le_refl ns), lk_ig_u ns (Nat.le_refl ns), lk_no_u ns (Nat.le_refl ns), lk_ng_u ns (Nat.le_refl ns), pk_us, ← c4, ← c5]
          exact Or.inr (Or.inr (Or.inl ⟨Or.inr (Or.inr (by trivial)), ⟨x, by omega, ex, fun _ => hx⟩, Or.inl ⟨his, (by trivial), (by trivial)⟩⟩))
        · have n1 : ¬ nI ns < 32 := nI_nlt (b := 32) (by omega) (by omega)
          repeat (first | refine br_t (by assumption) ?_ | refine br_f (by assumption) ?_ | refine br_t (by decide) ?_ | refine br_f (by decide) ?_ | refine nm_e ?_ | refine And.intro (by assumption) ?_ | refine And.intro rfl ?_ | refine lx_isA (by assumption) ?_ | refine lx_nA (by assumption) ?_ | refine ly_isA (by assumption) ?_ | refine ly_nA (by assumption) ?_)
          exact J
      · repeat (first | refine br_t (by assumption) ?_ | refine br_f (by assumption) ?_ | refine br_t (by decide) ?_ | refine br_f (by decide) ?_ | refine nm_e ?_ | refine And.intro (by assumption) ?_ | refine And.intro rfl ?_ | refine lx_isA (by assumption) ?_ | refine lx_nA (by assumption) ?_ | refine ly_isA (by assumption) ?_ | refine ly_nA (by assumption) ?_)
        exact J
  · rw [his, if_neg (by decide)] at c6
    subst c6
    rcases Bool.eq_false_or_eq_true (lk_ig xstmtOp ns) with hig | hig
    · have hng := lk_ig_p ns hig
      rw [← c5] at hng
      rw [hig, if_pos rfl] at c7 c8
      subst c7
      subst c8
      have g1 : ¬ nI (ng - 1) = -1 := lk_nn1 (by omega)
      repeat (first | refine br_t (by assumption) ?_ | refine br_f (by assumption) ?_ | refine br_t (by decide) ?_ | refine br_f (by decide) ?_ | refine nm_e ?_ | refine And.intro (by assumption) ?_ | refine And.intro rfl ?_ | refine lx_isA (by assumption) ?_ | refine lx_nA (by assumption) ?_ | refine ly_isA (by assumption) ?_ | refine ly_nA (by assumption) ?_)
      exact J
    · rw [hig, if_neg (by decide)] at c7 c8
      subst c7
      subst c8
      rcases Classical.em (lk_Ai v2) with a1 | a1
      · obtain ⟨x, hx, ex⟩ := lk_Ai_A a1
        have hx2 := lk_A_b hx
        rcases lk_01 v3 with b0 | b0 | ⟨b1, b2, b3⟩ | ⟨b1, b2, b3, b4, b5⟩
        · have b1 : ¬ v3 < 0 := by rw [b0]; decide
          have b2 : v3 ≤ 1 := by rw [b0]; decide
          by_cases hn : ns < 32
          · have n1 : nI ns < 32 := nI_lt (b := 32) hn (by omega)
            have n2 : vp_in (nI ns) 32 := vp_in_nI hn (by omega)
            repeat (first | refine br_t (by assumption) ?_ | refine br_f (by assumption) ?_ | refine br_t (by decide) ?_ | refine br_f (by decide) ?_ | refine nm_e ?_ | refine And.intro (by assumption) ?_ | refine And.intro rfl ?_ | refine lx_isA (by assumption) ?_ | refine lx_nA (by assumption) ?_ | refine ly_isA (by assumption) ?_ | refine ly_nA (by assumption) ?_)
            rw [nI_clamp (show ns < 2 ^ 31 by omega), nI_1 ns]
            refine K (lk_S_st (x := 7) hS hn (by decide) (by decide) rfl rfl rfl ?_)
            unfold lk_sc
            simp only [lk_is_u ns (Nat.le_refl ns), lk_ig_u ns (Nat.le_refl ns), lk_no_u ns (Nat.le_refl ns), lk_ng_u ns (Nat.le_refl ns), pk_us, ← c4, ← c5]
            exact Or.inr (Or.inr (Or.inl ⟨Or.inr (Or.inr (by trivial)), ⟨x, by omega, ex, fun _ => hx⟩, Or.inr ⟨his, hig, (by trivial), (by trivial), Or.inl b0⟩⟩))
          · have n1 : ¬ nI ns < 32 := nI_nlt (b := 32) (by omega) (by omega)
            repeat (first | refine br_t (by assumption) ?_ | refine br_f (by assumption) ?_ | refine br_t (by decide) ?_ | refine br_f (by decide) ?_ | refine nm_e ?_ | refine And.intro (by assumption) ?_ | refine And.intro rfl ?_ | refine lx_isA (by assumption) ?_ | refine lx_nA (by assumption) ?_ | refine ly_isA (by assumption) ?_ | refine ly_nA (by assumption) ?_)
            exact J
        · have b1 : ¬ v3 < 0 := by rw [b0]; decide
          have b2 : v3 ≤ 1 := by rw [b0]; decide
          have b3 : ¬ v3 = 0 := by rw [b0]; decide
          by_cases hn : ns < 32
          · have n1 : nI ns < 32 := nI_lt (b := 32) hn (by omega)
            have n2 : vp_in (nI ns) 32 := vp_in_nI hn (by omega)
            repeat (first | refine br_t (by assumption) ?_ | refine br_f (by assumption) ?_ | refine br_t (by decide) ?_ | refine br_f (by decide) ?_ | refine nm_e ?_ | refine And.intro (by assumption) ?_ | refine And.intro rfl ?_ | refine lx_isA (by assumption) ?_ | refine lx_nA (by assumption) ?_ | refine ly_isA (by assumption) ?_ | refine ly_nA (by assumption) ?_)
            rw [nI_clamp (show ns < 2 ^ 31 by omega), nI_1 ns]
            refine K (lk_S_st (x := 7) hS hn (by decide) (by decide) rfl rfl rfl ?_)
            unfold lk_sc
            simp only [lk_is_u ns (Nat.le_refl ns), lk_ig_u ns (Nat.le_refl ns), lk_no_u ns (Nat.le_refl ns), lk_ng_u ns (Nat.le_refl ns), pk_us, ← c4, ← c5]
            exact Or.inr (Or.inr (Or.inl ⟨Or.inr (Or.inr (by trivial)), ⟨x, by omega, ex, fun _ => hx⟩, Or.inr ⟨his, hig, (by trivial), (by trivial), Or.inr b0⟩⟩))
          · have n1 : ¬ nI ns < 32 := nI_nlt (b := 32) (by omega) (by omega)
            repeat (first | refine br_t (by assumption) ?_ | refine br_f (by assumption) ?_ | refine br_t (by decide) ?_ | refine br_f (by decide) ?_ | refine nm_e ?_ | refine And.intro (by assumption) ?_ | refine And.intro rfl ?_ | refine lx_isA (by assumption) ?_ | refine lx_nA (by assumption) ?_ | refine ly_isA (by assumption) ?_ | refine ly_nA (by assumption) ?_)
            exact J
        · repeat (first | refine br_t (by assumption) ?_ | refine br_f (by assumption) ?_ | refine br_t (by decide) ?_ | refine br_f (by decide) ?_ | refine nm_e ?_ | refine And.intro (by assumption) ?_ | refine And.intro rfl ?_ | refine lx_isA (by assumption) ?_ | refine lx_nA (by assumption) ?_ | refine ly_isA (by assumption) ?_ | refine ly_nA (by assumption) ?_)
          exact J
        · repeat (first | refine br_t (by assumption) ?_ | refine br_f (by assumption) ?_ | refine br_t (by decide) ?_ | refine br_f (by decide) ?_ | refine nm_e ?_ | refine And.intro (by assumption) ?_ | refine And.intro rfl ?_ | refine lx_isA (by assumption) ?_ | refine lx_nA (by assumption) ?_ | refine ly_isA (by assumption) ?_ | refine ly_nA (by assumption) ?_)
          exact J
      · repeat (first | refine br_t (by assumption) ?_ | refine br_f (by assumption) ?_ | refine br_t (by decide) ?_ | refine br_f (by decide) ?_ | refine nm_e ?_ | refine And.intro (by assumption) ?_ | refine And.intro rfl ?_ | refine lx_isA (by assumption) ?_ | refine lx_nA (by assumption) ?_ | refine ly_isA (by assumption) ?_ | refine ly_nA (by assumption) ?_)
        exact J
theorem lk_scr8 {k : Nat} {ns no ng ni nb nr R0 R1 : Nat} {xphase xopenOut xopenGroup yinGroup yfinalC0 yfinalC1 : Int32} {xregionSize xcounter xmemory xstmtOp xstmtA xstmtB xstmtOwner xoutRegion xoutLoaded xoutGroup xoutAlign xoutVma xoutLma xoutDot xgroupStart xgroupEnd xgroupResident xinKind xinId xinAlign xinSize xinFirstByte xinStmt xinLive xinVma xfedBytes xrelocOwner xrelocOffset xrelocType xrelocTarget xrelocAddend ystOut youtSize youtRes ygStart ygEnd yinBss yinLen yinVma yinLma yrom yram : Nat → Int32} {v2 v3 : Int32} (J : i_Rel (k + 5) (xphase, (nI ns), xopenOut, xopenGroup, (nI no), (nI ng), (nI ni), (nI nb), (nI nr), xregionSize, xcounter, xmemory, xstmtOp, xstmtA, xstmtB, xstmtOwner, xoutRegion, xoutLoaded, xoutGroup, xoutAlign, xoutVma, xoutLma, xoutDot, xgroupStart, xgroupEnd, xgroupResident, xinKind, xinId, xinAlign, xinSize, xinFirstByte, xinStmt, xinLive, xinVma, xfedBytes, xrelocOwner, xrelocOffset, xrelocType, xrelocTarget, xrelocAddend) ((nI R0), (nI R1), xphase, (nI ns), (nI no), (nI ng), (nI ni), (nI nb), (nI nr), xopenOut, yinGroup, (nI ni - 1), yfinalC0, yfinalC1, xstmtOp, xstmtA, xstmtB, ystOut, xoutRegion, xoutLoaded, xoutGroup, xoutVma, xoutLma, youtSize, xoutAlign, youtRes, ygStart, ygEnd, xinKind, xinId, xinAlign, yinBss, xinFirstByte, yinLen, xinStmt, xinLive, yinVma, yinLma, xfedBytes, xrelocOwner, xrelocOffset, xrelocType, xrelocTarget, xrelocAddend, yrom, yram)) (hS : lk_S ns no ng xstmtOp xstmtA xstmtB xstmtOwner ystOut xoutRegion xoutLoaded xoutGroup xopenOut xopenGroup yinGroup) (K : ∀ {ns no ng : Nat} {xopenOut xopenGroup yinGroup : Int32} {xstmtOp xstmtA xstmtB xstmtOwner xoutRegion xoutLoaded xoutGroup ystOut : Nat → Int32}, lk_S ns no ng xstmtOp xstmtA xstmtB xstmtOwner ystOut xoutRegion xoutLoaded xoutGroup xopenOut xopenGroup yinGroup → i_Rel (k + 5) (xphase, (nI ns), xopenOut, xopenGroup, (nI no), (nI ng), (nI ni), (nI nb), (nI nr), xregionSize, xcounter, xmemory, xstmtOp, xstmtA, xstmtB, xstmtOwner, xoutRegion, xoutLoaded, xoutGroup, xoutAlign, xoutVma, xoutLma, xoutDot, xgroupStart, xgroupEnd, xgroupResident, xinKind, xinId, xinAlign, xinSize, xinFirstByte, xinStmt, xinLive, xinVma, xfedBytes, xrelocOwner, xrelocOffset, xrelocType, xrelocTarget, xrelocAddend) ((nI R0), (nI R1), xphase, (nI ns), (nI no), (nI ng), (nI ni), (nI nb), (nI nr), xopenOut, yinGroup, (nI ni - 1), yfinalC0, yfinalC1, xstmtOp, xstmtA, xstmtB, ystOut, xoutRegion, xoutLoaded, xoutGroup, xoutVma, xoutLma, youtSize, xoutAlign, youtRes, ygStart, ygEnd, xinKind, xinId, xinAlign, yinBss, xinFirstByte, yinLen, xinStmt, xinLive, yinVma, yinLma, xfedBytes, xrelocOwner, xrelocOffset, xrelocType, xrelocTarget, xrelocAddend, yrom, yram)) (hp : xphase = 0) : wpX_script (fun r u' => wpY_script (fun r' v' => r' = r ∧ i_Rel (k + 5) u' v') ((nI R0), (nI R1), xphase, (nI ns), (nI no), (nI ng), (nI ni), (nI nb), (nI nr), xopenOut, yinGroup, (nI ni - 1), yfinalC0, yfinalC1, xstmtOp, xstmtA, xstmtB, ystOut, xoutRegion, xoutLoaded, xoutGroup, xoutVma, xoutLma, youtSize, xoutAlign, youtRes, ygStart, ygEnd, xinKind, xinId, xinAlign, yinBss, xinFirstByte, yinLen, xinStmt, xinLive, yinVma, yinLma, xfedBytes, xrelocOwner, xrelocOffset, xrelocType, xrelocTarget, xrelocAddend, yrom, yram) 8 v2 v3) (xphase, (nI ns), xopenOut, xopenGroup, (nI no), (nI ng), (nI ni), (nI nb), (nI nr), xregionSize, xcounter, xmemory, xstmtOp, xstmtA, xstmtB, xstmtOwner, xoutRegion, xoutLoaded, xoutGroup, xoutAlign, xoutVma, xoutLma, xoutDot, xgroupStart, xgroupEnd, xgroupResident, xinKind, xinId, xinAlign, xinSize, xinFirstByte, xinStmt, xinLive, xinVma, xfedBytes, xrelocOwner, xrelocOffset, xrelocType, xrelocTarget, xrelocAddend) 8 v2 v3 := by
  obtain ⟨c1, c2, c3, c4, c5, c6, c7, c8, c9⟩ := id hS
  rcases Bool.eq_false_or_eq_true (lk_is xstmtOp ns) with his | his
  · have hno := lk_is_p ns his
    rw [← c4] at hno
    rw [his, if_pos rfl] at c6
    subst c6
    have o1 : ¬ nI (no - 1) = -1 := lk_nn1 (by omega)
    have o2 : ¬ nI (no - 1) < 0 := nI_pos (by omega)
    rcases Bool.eq_false_or_eq_true (lk_ig xstmtOp ns) with hig | hig
    · have hng := lk_ig_p ns hig
      rw [← c5] at hng
      rw [hig, if_pos rfl] at c7 c8
      subst c7
      subst c8
      have g1 : ¬ nI (ng - 1) = -1 := lk_nn1 (by omega)
      repeat (first | refine br_t (by assumption) ?_ | refine br_f (by assumption) ?_ | refine br_t (by decide) ?_ | refine br_f (by decide) ?_ | refine nm_e ?_ | refine And.intro (by assumption) ?_ | refine And.intro rfl ?_ | refine lx_isA (by assumption) ?_ | refine lx_nA (by assumption) ?_ | refine ly_isA (by assumption) ?_ | refine ly_nA (by assumption) ?_)
      exact J
    · rw [hig, if_neg (by decide)] at c7 c8
      subst c7
      subst c8
      repeat (first | refine br_t (by assumption) ?_ | refine br_f (by assumption) ?_ | refine br_t (by decide) ?_ | refine br_f (by decide) ?_ | refine nm_e ?_ | refine And.intro (by assumption) ?_ | refine And.intro rfl ?_ | refine lx_isA (by assumption) ?_ | refine lx_nA (by assumption) ?_ | refine ly_isA (by assumption) ?_ | refine ly_nA (by assumption) ?_)
      exact J
  · rw [his, if_neg (by decide)] at c6
    subst c6
    rcases Bool.eq_false_or_eq_true (lk_ig xstmtOp ns) with hig | hig
    · have hng := lk_ig_p ns hig
      rw [← c5] at hng
      rw [hig, if_pos rfl] at c7 c8
      subst c7
      subst c8
      have g1 : ¬ nI (ng - 1) = -1 := lk_nn1 (by omega)
      repeat (first | refine br_t (by assumption) ?_ | refine br_f (by assumption) ?_ | refine br_t (by decide) ?_ | refine br_f (by decide) ?_ | refine nm_e ?_ | refine And.intro (by assumption) ?_ | refine And.intro rfl ?_ | refine lx_isA (by assumption) ?_ | refine lx_nA (by assumption) ?_ | refine ly_isA (by assumption) ?_ | refine ly_nA (by assumption) ?_)
      exact J
    · rw [hig, if_neg (by decide)] at c7 c8
      subst c7
      subst c8
      by_cases hn : ns < 32
      · have n1 : nI ns < 32 := nI_lt (b := 32) hn (by omega)
        have n2 : vp_in (nI ns) 32 := vp_in_nI hn (by omega)
        by_cases hg : ng < 4
        · have n3 : nI ng < 4 := nI_lt (b := 4) hg (by omega)
          have n4 : ¬ 4 ≤ nI ng := nI_ge (b := 4) hg (by omega)
          repeat (first | refine br_t (by assumption) ?_ | refine br_f (by assumption) ?_ | refine br_t (by decide) ?_ | refine br_f (by decide) ?_ | refine nm_e ?_ | refine And.intro (by assumption) ?_ | refine And.intro rfl ?_ | refine lx_isA (by assumption) ?_ | refine lx_nA (by assumption) ?_ | refine ly_isA (by assumption) ?_ | refine ly_nA (by assumption) ?_)
          rw [nI_clamp (show ns < 2 ^ 31 by omega), nI_1 ns, nI_1 ng]
          exact K (lk_S_ovl hS hn hg his hig)
        · have n3 : ¬ nI ng < 4 := nI_nlt (b := 4) (by omega) (by omega)
          have n4 : 4 ≤ nI ng := nI_le (a := 4) (by omega) (by omega)
          repeat (first | refine br_t (by assumption) ?_ | refine br_f (by assumption) ?_ | refine br_t (by decide) ?_ | refine br_f (by decide) ?_ | refine nm_e ?_ | refine And.intro (by assumption) ?_ | refine And.intro rfl ?_ | refine lx_isA (by assumption) ?_ | refine lx_nA (by assumption) ?_ | refine ly_isA (by assumption) ?_ | refine ly_nA (by assumption) ?_)
          exact J
      · have n1 : ¬ nI ns < 32 := nI_nlt (b := 32) (by omega) (by omega)
        repeat (first | refine br_t (by assumption) ?_ | refine br_f (by assumption) ?_ | refine br_t (by decide) ?_ | refine br_f (by decide) ?_ | refine nm_e ?_ | refine And.intro (by assumption) ?_ | refine And.intro rfl ?_ | refine lx_isA (by assumption) ?_ | refine lx_nA (by assumption) ?_ | refine ly_isA (by assumption) ?_ | refine ly_nA (by assumption) ?_)
        exact J
theorem lk_scr9 {k : Nat} {ns no ng ni nb nr R0 R1 : Nat} {xphase xopenOut xopenGroup yinGroup yfinalC0 yfinalC1 : Int32} {xregionSize xcounter xmemory xstmtOp xstmtA xstmtB xstmtOwner xoutRegion xoutLoaded xoutGroup xoutAlign xoutVma xoutLma xoutDot xgroupStart xgroupEnd xgroupResident xinKind xinId xinAlign xinSize xinFirstByte xinStmt xinLive xinVma xfedBytes xrelocOwner xrelocOffset xrelocType xrelocTarget xrelocAddend ystOut youtSize youtRes ygStart ygEnd yinBss yinLen yinVma yinLma yrom yram : Nat → Int32} {v2 v3 : Int32} (J : i_Rel (k + 5) (xphase, (nI ns), xopenOut, xopenGroup, (nI no), (nI ng), (nI ni), (nI nb), (nI nr), xregionSize, xcounter, xmemory, xstmtOp, xstmtA, xstmtB, xstmtOwner, xoutRegion, xoutLoaded, xoutGroup, xoutAlign, xoutVma, xoutLma, xoutDot, xgroupStart, xgroupEnd, xgroupResident, xinKind, xinId, xinAlign, xinSize, xinFirstByte, xinStmt, xinLive, xinVma, xfedBytes, xrelocOwner, xrelocOffset, xrelocType, xrelocTarget, xrelocAddend) ((nI R0), (nI R1), xphase, (nI ns), (nI no), (nI ng), (nI ni), (nI nb), (nI nr), xopenOut, yinGroup, (nI ni - 1), yfinalC0, yfinalC1, xstmtOp, xstmtA, xstmtB, ystOut, xoutRegion, xoutLoaded, xoutGroup, xoutVma, xoutLma, youtSize, xoutAlign, youtRes, ygStart, ygEnd, xinKind, xinId, xinAlign, yinBss, xinFirstByte, yinLen, xinStmt, xinLive, yinVma, yinLma, xfedBytes, xrelocOwner, xrelocOffset, xrelocType, xrelocTarget, xrelocAddend, yrom, yram)) (hS : lk_S ns no ng xstmtOp xstmtA xstmtB xstmtOwner ystOut xoutRegion xoutLoaded xoutGroup xopenOut xopenGroup yinGroup) (K : ∀ {ns no ng : Nat} {xopenOut xopenGroup yinGroup : Int32} {xstmtOp xstmtA xstmtB xstmtOwner xoutRegion xoutLoaded xoutGroup ystOut : Nat → Int32}, lk_S ns no ng xstmtOp xstmtA xstmtB xstmtOwner ystOut xoutRegion xoutLoaded xoutGroup xopenOut xopenGroup yinGroup → i_Rel (k + 5) (xphase, (nI ns), xopenOut, xopenGroup, (nI no), (nI ng), (nI ni), (nI nb), (nI nr), xregionSize, xcounter, xmemory, xstmtOp, xstmtA, xstmtB, xstmtOwner, xoutRegion, xoutLoaded, xoutGroup, xoutAlign, xoutVma, xoutLma, xoutDot, xgroupStart, xgroupEnd, xgroupResident, xinKind, xinId, xinAlign, xinSize, xinFirstByte, xinStmt, xinLive, xinVma, xfedBytes, xrelocOwner, xrelocOffset, xrelocType, xrelocTarget, xrelocAddend) ((nI R0), (nI R1), xphase, (nI ns), (nI no), (nI ng), (nI ni), (nI nb), (nI nr), xopenOut, yinGroup, (nI ni - 1), yfinalC0, yfinalC1, xstmtOp, xstmtA, xstmtB, ystOut, xoutRegion, xoutLoaded, xoutGroup, xoutVma, xoutLma, youtSize, xoutAlign, youtRes, ygStart, ygEnd, xinKind, xinId, xinAlign, yinBss, xinFirstByte, yinLen, xinStmt, xinLive, yinVma, yinLma, xfedBytes, xrelocOwner, xrelocOffset, xrelocType, xrelocTarget, xrelocAddend, yrom, yram)) (hp : xphase = 0) : wpX_script (fun r u' => wpY_script (fun r' v' => r' = r ∧ i_Rel (k + 5) u' v') ((nI R0), (nI R1), xphase, (nI ns), (nI no), (nI ng), (nI ni), (nI nb), (nI nr), xopenOut, yinGroup, (nI ni - 1), yfinalC0, yfinalC1, xstmtOp, xstmtA, xstmtB, ystOut, xoutRegion, xoutLoaded, xoutGroup, xoutVma, xoutLma, youtSize, xoutAlign, youtRes, ygStart, ygEnd, xinKind, xinId, xinAlign, yinBss, xinFirstByte, yinLen, xinStmt, xinLive, yinVma, yinLma, xfedBytes, xrelocOwner, xrelocOffset, xrelocType, xrelocTarget, xrelocAddend, yrom, yram) 9 v2 v3) (xphase, (nI ns), xopenOut, xopenGroup, (nI no), (nI ng), (nI ni), (nI nb), (nI nr), xregionSize, xcounter, xmemory, xstmtOp, xstmtA, xstmtB, xstmtOwner, xoutRegion, xoutLoaded, xoutGroup, xoutAlign, xoutVma, xoutLma, xoutDot, xgroupStart, xgroupEnd, xgroupResident, xinKind, xinId, xinAlign, xinSize, xinFirstByte, xinStmt, xinLive, xinVma, xfedBytes, xrelocOwner, xrelocOffset, xrelocType, xrelocTarget, xrelocAddend) 9 v2 v3 := by
  obtain ⟨c1, c2, c3, c4, c5, c6, c7, c8, c9⟩ := id hS
  rcases Bool.eq_false_or_eq_true (lk_is xstmtOp ns) with his | his
  · have hno := lk_is_p ns his
    rw [← c4] at hno
    rw [his, if_pos rfl] at c6
    subst c6
    have o1 : ¬ nI (no - 1) = -1 := lk_nn1 (by omega)
    have o2 : ¬ nI (no - 1) < 0 := nI_pos (by omega)
    rcases Bool.eq_false_or_eq_true (lk_ig xstmtOp ns) with hig | hig
    · have hng := lk_ig_p ns hig
      rw [← c5] at hng
      rw [hig, if_pos rfl] at c7 c8
      subst c7
      subst c8
      have g1 : ¬ nI (ng - 1) = -1 := lk_nn1 (by omega)
      repeat (first | refine br_t (by assumption) ?_ | refine br_f (by assumption) ?_ | refine br_t (by decide) ?_ | refine br_f (by decide) ?_ | refine nm_e ?_ | refine And.intro (by assumption) ?_ | refine And.intro rfl ?_ | refine lx_isA (by assumption) ?_ | refine lx_nA (by assumption) ?_ | refine ly_isA (by assumption) ?_ | refine ly_nA (by assumption) ?_)
      exact J
    · rw [hig, if_neg (by decide)] at c7 c8
      subst c7
      subst c8
      repeat (first | refine br_t (by assumption) ?_ | refine br_f (by assumption) ?_ | refine br_t (by decide) ?_ | refine br_f (by decide) ?_ | refine nm_e ?_ | refine And.intro (by assumption) ?_ | refine And.intro rfl ?_ | refine lx_isA (by assumption) ?_ | refine lx_nA (by assumption) ?_ | refine ly_isA (by assumption) ?_ | refine ly_nA (by assumption) ?_)
      exact J
  · rw [his, if_neg (by decide)] at c6
    subst c6
    rcases Bool.eq_false_or_eq_true (lk_ig xstmtOp ns) with hig | hig
    · have hng := lk_ig_p ns hig
      rw [← c5] at hng
      rw [hig, if_pos rfl] at c7 c8
      subst c7
      subst c8
      have g1 : ¬ nI (ng - 1) = -1 := lk_nn1 (by omega)
      by_cases hn : ns < 32
      · have n1 : nI ns < 32 := nI_lt (b := 32) hn (by omega)
        have n2 : vp_in (nI ns) 32 := vp_in_nI hn (by omega)
        repeat (first | refine br_t (by assumption) ?_ | refine br_f (by assumption) ?_ | refine br_t (by decide) ?_ | refine br_f (by decide) ?_ | refine nm_e ?_ | refine And.intro (by assumption) ?_ | refine And.intro rfl ?_ | refine lx_isA (by assumption) ?_ | refine lx_nA (by assumption) ?_ | refine ly_isA (by assumption) ?_ | refine ly_nA (by assumption) ?_)
        rw [nI_clamp (show ns < 2 ^ 31 by omega), nI_1 ns]
        refine K (lk_S_st (x := 9) hS hn (by decide) (by decide) rfl rfl rfl ?_)
        unfold lk_sc
        simp only [lk_is_u ns (Nat.le_refl ns), lk_ig_u ns (Nat.le_refl ns), lk_no_u ns (Nat.le_refl ns), lk_ng_u ns (Nat.le_refl ns), pk_us, ← c4, ← c5]
        exact Or.inr (Or.inr (Or.inr (Or.inr ⟨(by trivial), his, hig, (by trivial)⟩)))
      · have n1 : ¬ nI ns < 32 := nI_nlt (b := 32) (by omega) (by omega)
        repeat (first | refine br_t (by assumption) ?_ | refine br_f (by assumption) ?_ | refine br_t (by decide) ?_ | refine br_f (by decide) ?_ | refine nm_e ?_ | refine And.intro (by assumption) ?_ | refine And.intro rfl ?_ | refine lx_isA (by assumption) ?_ | refine lx_nA (by assumption) ?_ | refine ly_isA (by assumption) ?_ | refine ly_nA (by assumption) ?_)
        exact J
    · rw [hig, if_neg (by decide)] at c7 c8
      subst c7
      subst c8
      repeat (first | refine br_t (by assumption) ?_ | refine br_f (by assumption) ?_ | refine br_t (by decide) ?_ | refine br_f (by decide) ?_ | refine nm_e ?_ | refine And.intro (by assumption) ?_ | refine And.intro rfl ?_ | refine lx_isA (by assumption) ?_ | refine lx_nA (by assumption) ?_ | refine ly_isA (by assumption) ?_ | refine ly_nA (by assumption) ?_)
      exact J
theorem lk_19 {x : Int32} (h1 : ¬ x < 1) (h9 : x ≤ 9) : x = 1 ∨ x = 2 ∨ x = 3 ∨ x = 4 ∨ x = 5 ∨ x = 6 ∨ x = 7 ∨ x = 8 ∨ x = 9 := by
  have h0 : ¬ x < 0 := fun h => h1 (Int32.lt_trans h (by decide))
  obtain ⟨j, hj, e⟩ := nI_of2 (M := 9) (n := 9) (by decide) h0 h9
  have hj0 : j ≠ 0 := by
    intro z
    rw [e, z] at h1
    exact h1 (by decide)
  have hc : j = 1 ∨ j = 2 ∨ j = 3 ∨ j = 4 ∨ j = 5 ∨ j = 6 ∨ j = 7 ∨ j = 8 ∨ j = 9 := by omega
  rcases hc with z | z | z | z | z | z | z | z | z <;> subst z
  · exact Or.inl e
  · exact Or.inr (Or.inl e)
  · exact Or.inr (Or.inr (Or.inl e))
  · exact Or.inr (Or.inr (Or.inr (Or.inl e)))
  · exact Or.inr (Or.inr (Or.inr (Or.inr (Or.inl e))))
  · exact Or.inr (Or.inr (Or.inr (Or.inr (Or.inr (Or.inl e)))))
  · exact Or.inr (Or.inr (Or.inr (Or.inr (Or.inr (Or.inr (Or.inl e))))))
  · exact Or.inr (Or.inr (Or.inr (Or.inr (Or.inr (Or.inr (Or.inr (Or.inl e)))))))
  · exact Or.inr (Or.inr (Or.inr (Or.inr (Or.inr (Or.inr (Or.inr (Or.inr e)))))))
theorem i_vc_script {k : Nat} {u : SX} {v : SY} (I : i_Rel k u v) (hk : k + 5 ≤ 2562) (v1 : Int32) (v2 : Int32) (v3 : Int32) : wpX_script (fun r u' => wpY_script (fun r' v' => r' = r ∧ i_Rel (k + 5) u' v') v v1 v2 v3) u v1 v2 v3 := by
  have J := i_up I
  obtain ⟨ns, no, ng, ni, nb, nr, R0, R1, xphase, xopenOut, xopenGroup, yinGroup, yfinalC0, yfinalC1, xregionSize, xcounter, xmemory, xstmtOp, xstmtA, xstmtB, xstmtOwner, xoutRegion, xoutLoaded, xoutGroup, xoutAlign, xoutVma, xoutLma, xoutDot, xgroupStart, xgroupEnd, xgroupResident, xinKind, xinId, xinAlign, xinSize, xinFirstByte, xinStmt, xinLive, xinVma, xfedBytes, xrelocOwner, xrelocOffset, xrelocType, xrelocTarget, xrelocAddend, ystOut, youtSize, youtRes, ygStart, ygEnd, yinBss, yinLen, yinVma, yinLma, yrom, yram, rfl, rfl, hS, hN, hQ, hZ, hM, hP⟩ := I
  rcases Decidable.em (xphase = 0) with hp | hp
  · have hP0 : ∀ j, j < 128 → yrom j = 255 := by
      rcases hP with ⟨_, h⟩ | ⟨h, _⟩
      · exact h
      · rw [hp] at h; exact absurd h (by decide)
    by_cases b1 : v1 < 1
    · repeat (first | refine br_t (by assumption) ?_ | refine br_f (by assumption) ?_ | refine br_t (by decide) ?_ | refine br_f (by decide) ?_ | refine nm_e ?_ | refine And.intro (by assumption) ?_ | refine And.intro rfl ?_ | refine lx_isA (by assumption) ?_ | refine lx_nA (by assumption) ?_ | refine ly_isA (by assumption) ?_ | refine ly_nA (by assumption) ?_)
      exact J
    by_cases b2 : v1 ≤ 9
    · have K : ∀ {ns no ng : Nat} {xopenOut xopenGroup yinGroup : Int32} {xstmtOp xstmtA xstmtB xstmtOwner xoutRegion xoutLoaded xoutGroup ystOut : Nat → Int32}, lk_S ns no ng xstmtOp xstmtA xstmtB xstmtOwner ystOut xoutRegion xoutLoaded xoutGroup xopenOut xopenGroup yinGroup → i_Rel (k + 5) (xphase, (nI ns), xopenOut, xopenGroup, (nI no), (nI ng), (nI ni), (nI nb), (nI nr), xregionSize, xcounter, xmemory, xstmtOp, xstmtA, xstmtB, xstmtOwner, xoutRegion, xoutLoaded, xoutGroup, xoutAlign, xoutVma, xoutLma, xoutDot, xgroupStart, xgroupEnd, xgroupResident, xinKind, xinId, xinAlign, xinSize, xinFirstByte, xinStmt, xinLive, xinVma, xfedBytes, xrelocOwner, xrelocOffset, xrelocType, xrelocTarget, xrelocAddend) ((nI R0), (nI R1), xphase, (nI ns), (nI no), (nI ng), (nI ni), (nI nb), (nI nr), xopenOut, yinGroup, (nI ni - 1), yfinalC0, yfinalC1, xstmtOp, xstmtA, xstmtB, ystOut, xoutRegion, xoutLoaded, xoutGroup, xoutVma, xoutLma, youtSize, xoutAlign, youtRes, ygStart, ygEnd, xinKind, xinId, xinAlign, yinBss, xinFirstByte, yinLen, xinStmt, xinLive, yinVma, yinLma, xfedBytes, xrelocOwner, xrelocOffset, xrelocType, xrelocTarget, xrelocAddend, yrom, yram) := by
        intro ns no ng xopenOut xopenGroup yinGroup xstmtOp xstmtA xstmtB xstmtOwner xoutRegion xoutLoaded xoutGroup ystOut hS
        exact ⟨ns, no, ng, ni, nb, nr, R0, R1, xphase, xopenOut, xopenGroup, yinGroup, yfinalC0, yfinalC1, xregionSize, xcounter, xmemory, xstmtOp, xstmtA, xstmtB, xstmtOwner, xoutRegion, xoutLoaded, xoutGroup, xoutAlign, xoutVma, xoutLma, xoutDot, xgroupStart, xgroupEnd, xgroupResident, xinKind, xinId, xinAlign, xinSize, xinFirstByte, xinStmt, xinLive, xinVma, xfedBytes, xrelocOwner, xrelocOffset, xrelocType, xrelocTarget, xrelocAddend, ystOut, youtSize, youtRes, ygStart, ygEnd, yinBss, yinLen, yinVma, yinLma, yrom, yram, rfl, rfl, hS, hN, hQ, hZ, hM, Or.inl ⟨hp, hP0⟩⟩
      rcases lk_19 b1 b2 with rfl | rfl | rfl | rfl | rfl | rfl | rfl | rfl | rfl
      · exact lk_scr1 J hS K hp
      · exact lk_scr2 J hS K hp
      · exact lk_scr3 J hS K hp
      · exact lk_scr4 J hS K hp
      · exact lk_scr5 J hS K hp
      · exact lk_scr6 J hS K hp
      · exact lk_scr7 J hS K hp
      · exact lk_scr8 J hS K hp
      · exact lk_scr9 J hS K hp
    · repeat (first | refine br_t (by assumption) ?_ | refine br_f (by assumption) ?_ | refine br_t (by decide) ?_ | refine br_f (by decide) ?_ | refine nm_e ?_ | refine And.intro (by assumption) ?_ | refine And.intro rfl ?_ | refine lx_isA (by assumption) ?_ | refine lx_nA (by assumption) ?_ | refine ly_isA (by assumption) ?_ | refine ly_nA (by assumption) ?_)
      exact J
  · repeat (first | refine br_t (by assumption) ?_ | refine br_f (by assumption) ?_ | refine br_t (by decide) ?_ | refine br_f (by decide) ?_ | refine nm_e ?_ | refine And.intro (by assumption) ?_ | refine And.intro rfl ?_ | refine lx_isA (by assumption) ?_ | refine lx_nA (by assumption) ?_ | refine ly_isA (by assumption) ?_ | refine ly_nA (by assumption) ?_)
    exact J
end
end
section

section
/-! T: link on X's side: who is taken, who is live -/
theorem lx_fm {post : Int32 → Prop} {ns no ng ni nb nr : Nat} {xphase xopenOut xopenGroup : Int32} {xregionSize xcounter xmemory xstmtOp xstmtA xstmtB xstmtOwner xoutRegion xoutLoaded xoutGroup xoutAlign xoutVma xoutLma xoutDot xgroupStart xgroupEnd xgroupResident xinKind xinId xinAlign xinSize xinFirstByte xinStmt xinLive xinVma xfedBytes xrelocOwner xrelocOffset xrelocType xrelocTarget xrelocAddend : Nat → Int32} {s : Nat} (hs : s < 16) (hn : ns ≤ 32) (h : post (lk_fm xstmtOp xstmtA xstmtB xinKind xinId ns s)) : wpX_firstMatch post (xphase, (nI ns), xopenOut, xopenGroup, (nI no), (nI ng), (nI ni), (nI nb), (nI nr), xregionSize, xcounter, xmemory, xstmtOp, xstmtA, xstmtB, xstmtOwner, xoutRegion, xoutLoaded, xoutGroup, xoutAlign, xoutVma, xoutLma, xoutDot, xgroupStart, xgroupEnd, xgroupResident, xinKind, xinId, xinAlign, xinSize, xinFirstByte, xinStmt, xinLive, xinVma, xfedBytes, xrelocOwner, xrelocOffset, xrelocType, xrelocTarget, xrelocAddend) (nI s) := by
  have es : (nI s).toNatClampNeg = s := nI_clamp (by omega)
  have vs : vp_in (nI s) 16 := vp_in_nI hs (by omega)
  have H : ∀ d i, i + d = ns → post (lk_ff (lk_mt xstmtOp xstmtA xstmtB xinKind xinId s) d i) → wX_firstMatch_2 post (nI s) xphase (nI ns) xopenOut xopenGroup (nI no) (nI ng) (nI ni) (nI nb) (nI nr) xregionSize xcounter xmemory xstmtOp xstmtA xstmtB xstmtOwner xoutRegion xoutLoaded xoutGroup xoutAlign xoutVma xoutLma xoutDot xgroupStart xgroupEnd xgroupResident xinKind xinId xinAlign xinSize xinFirstByte xinStmt xinLive xinVma xfedBytes xrelocOwner xrelocOffset xrelocType xrelocTarget xrelocAddend (d + 1) (nI i) := by
    intro d
    induction d with
    | zero => intro i hi h; exact br_t (nI_le (by omega) (by omega)) h
    | succ d ih =>
      intro i hi h
      have e : (nI i).toNatClampNeg = i := nI_clamp (by omega)
      have vi : vp_in (nI i) 32 := vp_in_nI (by omega) (by omega)
      have n1 : ¬ nI ns ≤ nI i := nI_ge (by omega) (by omega)
      have H1 : ((xstmtOp (nI i).toNatClampNeg = 3 ∨ xstmtOp (nI i).toNatClampNeg = 4) ∧ (xstmtA (nI i).toNatClampNeg = -1 ∨ xstmtA (nI i).toNatClampNeg = xinId (nI s).toNatClampNeg) ∧ (xstmtB (nI i).toNatClampNeg = 0 ∨ xstmtB (nI i).toNatClampNeg = xinKind (nI s).toNatClampNeg)) → post (nI i) := by
        rw [e, es]
        intro z
        rw [lk_ff_t (decide_eq_true z)] at h
        exact h
      have H2 : ¬ ((xstmtOp (nI i).toNatClampNeg = 3 ∨ xstmtOp (nI i).toNatClampNeg = 4) ∧ (xstmtA (nI i).toNatClampNeg = -1 ∨ xstmtA (nI i).toNatClampNeg = xinId (nI s).toNatClampNeg) ∧ (xstmtB (nI i).toNatClampNeg = 0 ∨ xstmtB (nI i).toNatClampNeg = xinKind (nI s).toNatClampNeg)) → wX_firstMatch_2 post (nI s) xphase (nI ns) xopenOut xopenGroup (nI no) (nI ng) (nI ni) (nI nb) (nI nr) xregionSize xcounter xmemory xstmtOp xstmtA xstmtB xstmtOwner xoutRegion xoutLoaded xoutGroup xoutAlign xoutVma xoutLma xoutDot xgroupStart xgroupEnd xgroupResident xinKind xinId xinAlign xinSize xinFirstByte xinStmt xinLive xinVma xfedBytes xrelocOwner xrelocOffset xrelocType xrelocTarget xrelocAddend (d + 1) (nI i + 1) := by
        rw [e, es]
        intro z
        rw [nI_1]
        rw [lk_ff_f (fun y => z (of_decide_eq_true y))] at h
        exact ih (i + 1) (by omega) h
      clear h ih
      by_cases t1 : xstmtOp (nI i).toNatClampNeg = 3
      · by_cases a1 : xstmtA (nI i).toNatClampNeg = -1
        · by_cases b1 : xstmtB (nI i).toNatClampNeg = 0
          · repeat (first | refine br_t (by assumption) ?_ | refine br_f (by assumption) ?_ | refine br_t (by decide) ?_ | refine br_f (by decide) ?_ | refine nm_e ?_ | refine And.intro (by assumption) ?_)
            exact H1 ⟨Or.inl t1, Or.inl a1, Or.inl b1⟩
          by_cases b2 : xstmtB (nI i).toNatClampNeg = xinKind (nI s).toNatClampNeg
          · repeat (first | refine br_t (by assumption) ?_ | refine br_f (by assumption) ?_ | refine br_t (by decide) ?_ | refine br_f (by decide) ?_ | refine nm_e ?_ | refine And.intro (by assumption) ?_)
            exact H1 ⟨Or.inl t1, Or.inl a1, Or.inr b2⟩
          repeat (first | refine br_t (by assumption) ?_ | refine br_f (by assumption) ?_ | refine br_t (by decide) ?_ | refine br_f (by decide) ?_ | refine nm_e ?_ | refine And.intro (by assumption) ?_)
          exact H2 (fun z => z.2.2.elim b1 b2)
        by_cases a2 : xstmtA (nI i).toNatClampNeg = xinId (nI s).toNatClampNeg
        · by_cases b1 : xstmtB (nI i).toNatClampNeg = 0
          · repeat (first | refine br_t (by assumption) ?_ | refine br_f (by assumption) ?_ | refine br_t (by decide) ?_ | refine br_f (by decide) ?_ | refine nm_e ?_ | refine And.intro (by assumption) ?_)
            exact H1 ⟨Or.inl t1, Or.inr a2, Or.inl b1⟩
          by_cases b2 : xstmtB (nI i).toNatClampNeg = xinKind (nI s).toNatClampNeg
          · repeat (first | refine br_t (by assumption) ?_ | refine br_f (by assumption) ?_ | refine br_t (by decide) ?_ | refine br_f (by decide) ?_ | refine nm_e ?_ | refine And.intro (by assumption) ?_)
            exact H1 ⟨Or.inl t1, Or.inr a2, Or.inr b2⟩
          repeat (first | refine br_t (by assumption) ?_ | refine br_f (by assumption) ?_ | refine br_t (by decide) ?_ | refine br_f (by decide) ?_ | refine nm_e ?_ | refine And.intro (by assumption) ?_)
          exact H2 (fun z => z.2.2.elim b1 b2)
        by_cases b1 : xstmtB (nI i).toNatClampNeg = 0
        · repeat (first | refine br_t (by assumption) ?_ | refine br_f (by assumption) ?_ | refine br_t (by decide) ?_ | refine br_f (by decide) ?_ | refine nm_e ?_ | refine And.intro (by assumption) ?_)
          exact H2 (fun z => z.2.1.elim a1 a2)
        by_cases b2 : xstmtB (nI i).toNatClampNeg = xinKind (nI s).toNatClampNeg
        · repeat (first | refine br_t (by assumption) ?_ | refine br_f (by assumption) ?_ | refine br_t (by decide) ?_ | refine br_f (by decide) ?_ | refine nm_e ?_ | refine And.intro (by assumption) ?_)
          exact H2 (fun z => z.2.1.elim a1 a2)
        repeat (first | refine br_t (by assumption) ?_ | refine br_f (by assumption) ?_ | refine br_t (by decide) ?_ | refine br_f (by decide) ?_ | refine nm_e ?_ | refine And.intro (by assumption) ?_)
        exact H2 (fun z => z.2.1.elim a1 a2)
      by_cases t2 : xstmtOp (nI i).toNatClampNeg = 4
      · by_cases a1 : xstmtA (nI i).toNatClampNeg = -1
        · by_cases b1 : xstmtB (nI i).toNatClampNeg = 0
          · repeat (first | refine br_t (by assumption) ?_ | refine br_f (by assumption) ?_ | refine br_t (by decide) ?_ | refine br_f (by decide) ?_ | refine nm_e ?_ | refine And.intro (by assumption) ?_)
            exact H1 ⟨Or.inr t2, Or.inl a1, Or.inl b1⟩
          by_cases b2 : xstmtB (nI i).toNatClampNeg = xinKind (nI s).toNatClampNeg
          · repeat (first | refine br_t (by assumption) ?_ | refine br_f (by assumption) ?_ | refine br_t (by decide) ?_ | refine br_f (by decide) ?_ | refine nm_e ?_ | refine And.intro (by assumption) ?_)
            exact H1 ⟨Or.inr t2, Or.inl a1, Or.inr b2⟩
          repeat (first | refine br_t (by assumption) ?_ | refine br_f (by assumption) ?_ | refine br_t (by decide) ?_ | refine br_f (by decide) ?_ | refine nm_e ?_ | refine And.intro (by assumption) ?_)
          exact H2 (fun z => z.2.2.elim b1 b2)
        by_cases a2 : xstmtA (nI i).toNatClampNeg = xinId (nI s).toNatClampNeg
        · by_cases b1 : xstmtB (nI i).toNatClampNeg = 0
          · repeat (first | refine br_t (by assumption) ?_ | refine br_f (by assumption) ?_ | refine br_t (by decide) ?_ | refine br_f (by decide) ?_ | refine nm_e ?_ | refine And.intro (by assumption) ?_)
            exact H1 ⟨Or.inr t2, Or.inr a2, Or.inl b1⟩
          by_cases b2 : xstmtB (nI i).toNatClampNeg = xinKind (nI s).toNatClampNeg
          · repeat (first | refine br_t (by assumption) ?_ | refine br_f (by assumption) ?_ | refine br_t (by decide) ?_ | refine br_f (by decide) ?_ | refine nm_e ?_ | refine And.intro (by assumption) ?_)
            exact H1 ⟨Or.inr t2, Or.inr a2, Or.inr b2⟩
          repeat (first | refine br_t (by assumption) ?_ | refine br_f (by assumption) ?_ | refine br_t (by decide) ?_ | refine br_f (by decide) ?_ | refine nm_e ?_ | refine And.intro (by assumption) ?_)
          exact H2 (fun z => z.2.2.elim b1 b2)
        by_cases b1 : xstmtB (nI i).toNatClampNeg = 0
        · repeat (first | refine br_t (by assumption) ?_ | refine br_f (by assumption) ?_ | refine br_t (by decide) ?_ | refine br_f (by decide) ?_ | refine nm_e ?_ | refine And.intro (by assumption) ?_)
          exact H2 (fun z => z.2.1.elim a1 a2)
        by_cases b2 : xstmtB (nI i).toNatClampNeg = xinKind (nI s).toNatClampNeg
        · repeat (first | refine br_t (by assumption) ?_ | refine br_f (by assumption) ?_ | refine br_t (by decide) ?_ | refine br_f (by decide) ?_ | refine nm_e ?_ | refine And.intro (by assumption) ?_)
          exact H2 (fun z => z.2.1.elim a1 a2)
        repeat (first | refine br_t (by assumption) ?_ | refine br_f (by assumption) ?_ | refine br_t (by decide) ?_ | refine br_f (by decide) ?_ | refine nm_e ?_ | refine And.intro (by assumption) ?_)
        exact H2 (fun z => z.2.1.elim a1 a2)
      by_cases a1 : xstmtA (nI i).toNatClampNeg = -1
      · by_cases b1 : xstmtB (nI i).toNatClampNeg = 0
        · repeat (first | refine br_t (by assumption) ?_ | refine br_f (by assumption) ?_ | refine br_t (by decide) ?_ | refine br_f (by decide) ?_ | refine nm_e ?_ | refine And.intro (by assumption) ?_)
          exact H2 (fun z => z.1.elim t1 t2)
        by_cases b2 : xstmtB (nI i).toNatClampNeg = xinKind (nI s).toNatClampNeg
        · repeat (first | refine br_t (by assumption) ?_ | refine br_f (by assumption) ?_ | refine br_t (by decide) ?_ | refine br_f (by decide) ?_ | refine nm_e ?_ | refine And.intro (by assumption) ?_)
          exact H2 (fun z => z.1.elim t1 t2)
        repeat (first | refine br_t (by assumption) ?_ | refine br_f (by assumption) ?_ | refine br_t (by decide) ?_ | refine br_f (by decide) ?_ | refine nm_e ?_ | refine And.intro (by assumption) ?_)
        exact H2 (fun z => z.1.elim t1 t2)
      by_cases a2 : xstmtA (nI i).toNatClampNeg = xinId (nI s).toNatClampNeg
      · by_cases b1 : xstmtB (nI i).toNatClampNeg = 0
        · repeat (first | refine br_t (by assumption) ?_ | refine br_f (by assumption) ?_ | refine br_t (by decide) ?_ | refine br_f (by decide) ?_ | refine nm_e ?_ | refine And.intro (by assumption) ?_)
          exact H2 (fun z => z.1.elim t1 t2)
        by_cases b2 : xstmtB (nI i).toNatClampNeg = xinKind (nI s).toNatClampNeg
        · repeat (first | refine br_t (by assumption) ?_ | refine br_f (by assumption) ?_ | refine br_t (by decide) ?_ | refine br_f (by decide) ?_ | refine nm_e ?_ | refine And.intro (by assumption) ?_)
          exact H2 (fun z => z.1.elim t1 t2)
        repeat (first | refine br_t (by assumption) ?_ | refine br_f (by assumption) ?_ | refine br_t (by decide) ?_ | refine br_f (by decide) ?_ | refine nm_e ?_ | refine And.intro (by assumption) ?_)
        exact H2 (fun z => z.1.elim t1 t2)
      by_cases b1 : xstmtB (nI i).toNatClampNeg = 0
      · repeat (first | refine br_t (by assumption) ?_ | refine br_f (by assumption) ?_ | refine br_t (by decide) ?_ | refine br_f (by decide) ?_ | refine nm_e ?_ | refine And.intro (by assumption) ?_)
        exact H2 (fun z => z.1.elim t1 t2)
      by_cases b2 : xstmtB (nI i).toNatClampNeg = xinKind (nI s).toNatClampNeg
      · repeat (first | refine br_t (by assumption) ?_ | refine br_f (by assumption) ?_ | refine br_t (by decide) ?_ | refine br_f (by decide) ?_ | refine nm_e ?_ | refine And.intro (by assumption) ?_)
        exact H2 (fun z => z.1.elim t1 t2)
      repeat (first | refine br_t (by assumption) ?_ | refine br_f (by assumption) ?_ | refine br_t (by decide) ?_ | refine br_f (by decide) ?_ | refine nm_e ?_ | refine And.intro (by assumption) ?_)
      exact H2 (fun z => z.1.elim t1 t2)
  exact ⟨_, H ns 0 (by omega) h⟩
theorem lx_as {post : SX → Prop} {ns no ng ni nb nr : Nat} {xphase xopenOut xopenGroup : Int32} {xregionSize xcounter xmemory xstmtOp xstmtA xstmtB xstmtOwner xoutRegion xoutLoaded xoutGroup xoutAlign xoutVma xoutLma xoutDot xgroupStart xgroupEnd xgroupResident xinKind xinId xinAlign xinSize xinFirstByte xinStmt xinLive xinVma xfedBytes xrelocOwner xrelocOffset xrelocType xrelocTarget xrelocAddend : Nat → Int32} (hi : ni ≤ 16) (hn : ns ≤ 32) (h : post (xphase, (nI ns), xopenOut, xopenGroup, (nI no), (nI ng), (nI ni), (nI nb), (nI nr), xregionSize, xcounter, xmemory, xstmtOp, xstmtA, xstmtB, xstmtOwner, xoutRegion, xoutLoaded, xoutGroup, xoutAlign, xoutVma, xoutLma, xoutDot, xgroupStart, xgroupEnd, xgroupResident, xinKind, xinId, xinAlign, xinSize, xinFirstByte, (lk_as xinStmt ni (lk_fm xstmtOp xstmtA xstmtB xinKind xinId ns)), xinLive, xinVma, xfedBytes, xrelocOwner, xrelocOffset, xrelocType, xrelocTarget, xrelocAddend)) : wpX_assignSections post (xphase, (nI ns), xopenOut, xopenGroup, (nI no), (nI ng), (nI ni), (nI nb), (nI nr), xregionSize, xcounter, xmemory, xstmtOp, xstmtA, xstmtB, xstmtOwner, xoutRegion, xoutLoaded, xoutGroup, xoutAlign, xoutVma, xoutLma, xoutDot, xgroupStart, xgroupEnd, xgroupResident, xinKind, xinId, xinAlign, xinSize, xinFirstByte, xinStmt, xinLive, xinVma, xfedBytes, xrelocOwner, xrelocOffset, xrelocType, xrelocTarget, xrelocAddend) := by
  have H : ∀ d s, s + d = ni → wX_assignSections_2 post xphase (nI ns) xopenOut xopenGroup (nI no) (nI ng) (nI ni) (nI nb) (nI nr) (d + 1) (nI s) xregionSize xcounter xmemory xstmtOp xstmtA xstmtB xstmtOwner xoutRegion xoutLoaded xoutGroup xoutAlign xoutVma xoutLma xoutDot xgroupStart xgroupEnd xgroupResident xinKind xinId xinAlign xinSize xinFirstByte (lk_as xinStmt s (lk_fm xstmtOp xstmtA xstmtB xinKind xinId ns)) xinLive xinVma xfedBytes xrelocOwner xrelocOffset xrelocType xrelocTarget xrelocAddend := by
    intro d
    induction d with
    | zero =>
      intro s hs
      have e1 : s = ni := hs
      subst e1
      exact br_t (nI_le (by omega) (by omega)) h
    | succ d ih =>
      intro s hs
      exact br_f (nI_ge (by omega) (by omega)) (lx_fm (by omega) hn ⟨vp_in_nI (by omega) (by omega), nm_r (by rw [nI_clamp (by omega)]; exact lk_as_s rfl) (nm_r (nI_1 s) (ih (s + 1) (by omega)))⟩)
  have H2 := H ni 0 (by omega)
  rw [lk_as_0] at H2
  exact ⟨_, H2⟩
theorem lx_hat {post : Int32 → Prop} {ns no ng ni nb nr : Nat} {xphase xopenOut xopenGroup : Int32} {xregionSize xcounter xmemory xstmtOp xstmtA xstmtB xstmtOwner xoutRegion xoutLoaded xoutGroup xoutAlign xoutVma xoutLma xoutDot xgroupStart xgroupEnd xgroupResident xinKind xinId xinAlign xinSize xinFirstByte xinStmt xinLive xinVma xfedBytes xrelocOwner xrelocOffset xrelocType xrelocTarget xrelocAddend : Nat → Int32} {r t : Nat} (hr : r < 32) (ht : t < 16) (hn : ni ≤ 16) (et : xrelocTarget r = nI t) (h1 : lk_on xrelocTarget xinStmt ni r = true → post 1) (h0 : ¬ lk_on xrelocTarget xinStmt ni r = true → post 0) : wpX_hasAssignedTarget post (xphase, (nI ns), xopenOut, xopenGroup, (nI no), (nI ng), (nI ni), (nI nb), (nI nr), xregionSize, xcounter, xmemory, xstmtOp, xstmtA, xstmtB, xstmtOwner, xoutRegion, xoutLoaded, xoutGroup, xoutAlign, xoutVma, xoutLma, xoutDot, xgroupStart, xgroupEnd, xgroupResident, xinKind, xinId, xinAlign, xinSize, xinFirstByte, xinStmt, xinLive, xinVma, xfedBytes, xrelocOwner, xrelocOffset, xrelocType, xrelocTarget, xrelocAddend) (nI r) := by
  have c := lk_on_t (st := xinStmt) (ni := ni) (by omega) (by omega) et
  have e : (nI r).toNatClampNeg = r := nI_clamp (by omega)
  have v1 : vp_in (nI r) 32 := vp_in_nI hr (by omega)
  have v2 : vp_in (xrelocTarget (nI r).toNatClampNeg) 16 := by rw [e, et]; exact vp_in_nI ht (by omega)
  by_cases a : nI ni ≤ xrelocTarget (nI r).toNatClampNeg
  · refine ⟨v1, br_t a (h0 (fun z => ?_))⟩
    rw [e, et, nI_leI (by omega) (by omega)] at a
    have := (c.mp z).1
    omega
  · by_cases b : xinStmt (xrelocTarget (nI r).toNatClampNeg).toNatClampNeg = -1
    · refine ⟨v1, br_f a ⟨v1, v2, br_t b (h0 (fun z => ?_))⟩⟩
      rw [e, et, nI_clamp (by omega)] at b
      exact (c.mp z).2 b
    · refine ⟨v1, br_f a ⟨v1, v2, br_f b (h1 (c.mpr ⟨?_, ?_⟩))⟩⟩
      · rw [e, et, nI_leI (by omega) (by omega)] at a
        omega
      · rw [e, et, nI_clamp (by omega)] at b
        exact b
def lk_hq (ni nr : Nat) (ro rt : Nat → Int32) : Prop := ni ≤ 16 ∧ nr ≤ 32 ∧ ∀ r, r < nr → ∃ o t, o < ni ∧ ro r = nI o ∧ t < 16 ∧ rt r = nI t
theorem lx_pass {post : SX → Prop} {ns no ng ni nb nr : Nat} {xphase xopenOut xopenGroup : Int32} {xregionSize xcounter xmemory xstmtOp xstmtA xstmtB xstmtOwner xoutRegion xoutLoaded xoutGroup xoutAlign xoutVma xoutLma xoutDot xgroupStart xgroupEnd xgroupResident xinKind xinId xinAlign xinSize xinFirstByte xinStmt xinLive xinVma xfedBytes xrelocOwner xrelocOffset xrelocType xrelocTarget xrelocAddend : Nat → Int32} (hq : lk_hq ni nr xrelocOwner xrelocTarget) (h : post (xphase, (nI ns), xopenOut, xopenGroup, (nI no), (nI ng), (nI ni), (nI nb), (nI nr), xregionSize, xcounter, xmemory, xstmtOp, xstmtA, xstmtB, xstmtOwner, xoutRegion, xoutLoaded, xoutGroup, xoutAlign, xoutVma, xoutLma, xoutDot, xgroupStart, xgroupEnd, xgroupResident, xinKind, xinId, xinAlign, xinSize, xinFirstByte, xinStmt, (lk_ps (lk_sp xrelocOwner xrelocTarget xinStmt ni) nr xinLive), xinVma, xfedBytes, xrelocOwner, xrelocOffset, xrelocType, xrelocTarget, xrelocAddend)) : wpX_markTargetsOfLive post (xphase, (nI ns), xopenOut, xopenGroup, (nI no), (nI ng), (nI ni), (nI nb), (nI nr), xregionSize, xcounter, xmemory, xstmtOp, xstmtA, xstmtB, xstmtOwner, xoutRegion, xoutLoaded, xoutGroup, xoutAlign, xoutVma, xoutLma, xoutDot, xgroupStart, xgroupEnd, xgroupResident, xinKind, xinId, xinAlign, xinSize, xinFirstByte, xinStmt, xinLive, xinVma, xfedBytes, xrelocOwner, xrelocOffset, xrelocType, xrelocTarget, xrelocAddend) := by
  obtain ⟨q1, q2, q3⟩ := hq
  have H : ∀ d r, r + d = nr → wX_markTargetsOfLive_2 post xphase (nI ns) xopenOut xopenGroup (nI no) (nI ng) (nI ni) (nI nb) (nI nr) (d + 1) (nI r) xregionSize xcounter xmemory xstmtOp xstmtA xstmtB xstmtOwner xoutRegion xoutLoaded xoutGroup xoutAlign xoutVma xoutLma xoutDot xgroupStart xgroupEnd xgroupResident xinKind xinId xinAlign xinSize xinFirstByte xinStmt (lk_ps (lk_sp xrelocOwner xrelocTarget xinStmt ni) r xinLive) xinVma xfedBytes xrelocOwner xrelocOffset xrelocType xrelocTarget xrelocAddend := by
    intro d
    induction d with
    | zero =>
      intro r hr
      have e1 : r = nr := hr
      subst e1
      exact br_t (nI_le (by omega) (by omega)) h
    | succ d ih =>
      intro r hr
      obtain ⟨o, t, ho, eo, ht, et⟩ := q3 r (by omega)
      have e : (nI r).toNatClampNeg = r := nI_clamp (by omega)
      have v1 : vp_in (nI r) 32 := vp_in_nI (by omega) (by omega)
      have v2 : vp_in (xrelocOwner (nI r).toNatClampNeg) 16 := by rw [e, eo]; exact vp_in_nI (by omega) (by omega)
      have v3 : vp_in (xrelocTarget (nI r).toNatClampNeg) 16 := by rw [e, et]; exact vp_in_nI (by omega) (by omega)
      have hi := ih (r + 1) (by omega)
      have es : lk_ps (lk_sp xrelocOwner xrelocTarget xinStmt ni) (r + 1) xinLive = lk_sp xrelocOwner xrelocTarget xinStmt ni r (lk_ps (lk_sp xrelocOwner xrelocTarget xinStmt ni) r xinLive) := rfl
      rw [es] at hi
      refine br_f (nI_ge (by omega) (by omega)) ⟨v1, v2, ?_⟩
      by_cases a : lk_ps (lk_sp xrelocOwner xrelocTarget xinStmt ni) r xinLive (xrelocOwner (nI r).toNatClampNeg).toNatClampNeg = 1
      · refine br_t a (lx_hat (by omega) ht q1 et (fun z => ?_) (fun z => ?_))
        · refine br_f (by decide) ⟨v1, v3, nm_r ?_ (nm_r (nI_1 r) hi)⟩
          rw [e] at a ⊢
          exact (if_pos ⟨a, z⟩).symm
        · refine br_t rfl (nm_r (nI_1 r) ?_)
          have e2 : lk_sp xrelocOwner xrelocTarget xinStmt ni r (lk_ps (lk_sp xrelocOwner xrelocTarget xinStmt ni) r xinLive) = lk_ps (lk_sp xrelocOwner xrelocTarget xinStmt ni) r xinLive := if_neg (fun y => z y.2)
          rw [e2] at hi
          exact hi
      · refine br_f a (nm_r (nI_1 r) ?_)
        rw [e] at a
        have e2 : lk_sp xrelocOwner xrelocTarget xinStmt ni r (lk_ps (lk_sp xrelocOwner xrelocTarget xinStmt ni) r xinLive) = lk_ps (lk_sp xrelocOwner xrelocTarget xinStmt ni) r xinLive := if_neg (fun y => a y.1)
        rw [e2] at hi
        exact hi
  exact ⟨_, H nr 0 (by omega)⟩
theorem lx_rounds {post : SX → Prop} {ns no ng ni nb nr : Nat} {xphase xopenOut xopenGroup : Int32} {xregionSize xcounter xmemory xstmtOp xstmtA xstmtB xstmtOwner xoutRegion xoutLoaded xoutGroup xoutAlign xoutVma xoutLma xoutDot xgroupStart xgroupEnd xgroupResident xinKind xinId xinAlign xinSize xinFirstByte xinStmt xinLive xinVma xfedBytes xrelocOwner xrelocOffset xrelocType xrelocTarget xrelocAddend : Nat → Int32} (hq : lk_hq ni nr xrelocOwner xrelocTarget) (h : post (xphase, (nI ns), xopenOut, xopenGroup, (nI no), (nI ng), (nI ni), (nI nb), (nI nr), xregionSize, xcounter, xmemory, xstmtOp, xstmtA, xstmtB, xstmtOwner, xoutRegion, xoutLoaded, xoutGroup, xoutAlign, xoutVma, xoutLma, xoutDot, xgroupStart, xgroupEnd, xgroupResident, xinKind, xinId, xinAlign, xinSize, xinFirstByte, xinStmt, (lk_it (lk_sp xrelocOwner xrelocTarget xinStmt ni) nr ni xinLive), xinVma, xfedBytes, xrelocOwner, xrelocOffset, xrelocType, xrelocTarget, xrelocAddend)) : ∃ n, wX_markLive_68 post n 0 xphase (nI ns) xopenOut xopenGroup (nI no) (nI ng) (nI ni) (nI nb) (nI nr) xregionSize xcounter xmemory xstmtOp xstmtA xstmtB xstmtOwner xoutRegion xoutLoaded xoutGroup xoutAlign xoutVma xoutLma xoutDot xgroupStart xgroupEnd xgroupResident xinKind xinId xinAlign xinSize xinFirstByte xinStmt xinLive xinVma xfedBytes xrelocOwner xrelocOffset xrelocType xrelocTarget xrelocAddend := by
  have h16 := hq.1
  have H : ∀ d x, x + d = ni → wX_markLive_68 post (d + 1) (nI x) xphase (nI ns) xopenOut xopenGroup (nI no) (nI ng) (nI ni) (nI nb) (nI nr) xregionSize xcounter xmemory xstmtOp xstmtA xstmtB xstmtOwner xoutRegion xoutLoaded xoutGroup xoutAlign xoutVma xoutLma xoutDot xgroupStart xgroupEnd xgroupResident xinKind xinId xinAlign xinSize xinFirstByte xinStmt (lk_it (lk_sp xrelocOwner xrelocTarget xinStmt ni) nr x xinLive) xinVma xfedBytes xrelocOwner xrelocOffset xrelocType xrelocTarget xrelocAddend := by
    intro d
    induction d with
    | zero =>
      intro x hx
      have e1 : x = ni := hx
      subst e1
      exact br_t (nI_le (by omega) (by omega)) h
    | succ d ih =>
      intro x hx
      exact br_f (nI_ge (by omega) (by omega)) (lx_pass hq (nm_r (nI_1 x) (ih (x + 1) (by omega))))
  exact ⟨_, H ni 0 (by omega)⟩
def lk_ht (ni : Nat) (st : Nat → Int32) : Prop := ∀ s, s < ni → st s = -1 ∨ ∃ q, q < 32 ∧ st s = nI q
theorem lx_live {post : SX → Prop} {ns no ng ni nb nr : Nat} {xphase xopenOut xopenGroup : Int32} {xregionSize xcounter xmemory xstmtOp xstmtA xstmtB xstmtOwner xoutRegion xoutLoaded xoutGroup xoutAlign xoutVma xoutLma xoutDot xgroupStart xgroupEnd xgroupResident xinKind xinId xinAlign xinSize xinFirstByte xinStmt xinLive xinVma xfedBytes xrelocOwner xrelocOffset xrelocType xrelocTarget xrelocAddend : Nat → Int32} {gc : Int32} (hq : lk_hq ni nr xrelocOwner xrelocTarget) (ht : lk_ht ni xinStmt) (h : post (xphase, (nI ns), xopenOut, xopenGroup, (nI no), (nI ng), (nI ni), (nI nb), (nI nr), xregionSize, xcounter, xmemory, xstmtOp, xstmtA, xstmtB, xstmtOwner, xoutRegion, xoutLoaded, xoutGroup, xoutAlign, xoutVma, xoutLma, xoutDot, xgroupStart, xgroupEnd, xgroupResident, xinKind, xinId, xinAlign, xinSize, xinFirstByte, xinStmt, (lk_lv xstmtOp xinStmt xrelocOwner xrelocTarget gc ni nr xinLive), xinVma, xfedBytes, xrelocOwner, xrelocOffset, xrelocType, xrelocTarget, xrelocAddend)) : wpX_markLive post (xphase, (nI ns), xopenOut, xopenGroup, (nI no), (nI ng), (nI ni), (nI nb), (nI nr), xregionSize, xcounter, xmemory, xstmtOp, xstmtA, xstmtB, xstmtOwner, xoutRegion, xoutLoaded, xoutGroup, xoutAlign, xoutVma, xoutLma, xoutDot, xgroupStart, xgroupEnd, xgroupResident, xinKind, xinId, xinAlign, xinSize, xinFirstByte, xinStmt, xinLive, xinVma, xfedBytes, xrelocOwner, xrelocOffset, xrelocType, xrelocTarget, xrelocAddend) gc := by
  have h16 := hq.1
  have H : ∀ d s, s + d = ni → wX_markLive_2 post gc xphase (nI ns) xopenOut xopenGroup (nI no) (nI ng) (nI ni) (nI nb) (nI nr) (d + 1) (nI s) xregionSize xcounter xmemory xstmtOp xstmtA xstmtB xstmtOwner xoutRegion xoutLoaded xoutGroup xoutAlign xoutVma xoutLma xoutDot xgroupStart xgroupEnd xgroupResident xinKind xinId xinAlign xinSize xinFirstByte xinStmt (lk_as xinLive s (lk_l0 xstmtOp xinStmt gc)) xinVma xfedBytes xrelocOwner xrelocOffset xrelocType xrelocTarget xrelocAddend := by
    intro d
    induction d with
    | zero =>
      intro s hs
      have e1 : s = ni := hs
      subst e1
      exact br_t (nI_le (by omega) (by omega)) (lx_rounds hq h)
    | succ d ih =>
      intro s hs
      have e : (nI s).toNatClampNeg = s := nI_clamp (by omega)
      have v1 : vp_in (nI s) 16 := vp_in_nI (by omega) (by omega)
      have hi := ih (s + 1) (by omega)
      refine br_f (nI_ge (by omega) (by omega)) ⟨v1, ?_⟩
      by_cases a : xinStmt (nI s).toNatClampNeg = -1
      · refine br_t a (br_t rfl ⟨v1, nm_r ?_ (nm_r (nI_1 s) hi)⟩)
        rw [e] at a ⊢
        exact lk_as_s (if_neg (fun y => y.1 a)).symm
      · have v2 : vp_in (xinStmt (nI s).toNatClampNeg) 32 := by
          rw [e] at a ⊢
          rcases ht s (by omega) with z | ⟨q, hq2, z⟩
          · exact absurd z a
          · rw [z]; exact vp_in_nI hq2 (by omega)
        refine br_f a (br_f (by decide) ?_)
        by_cases b : gc = 0
        · refine br_t b ⟨v1, nm_r ?_ (nm_r (nI_1 s) hi)⟩
          rw [e] at a ⊢
          exact lk_as_s (if_pos ⟨a, Or.inl b⟩).symm
        · refine br_f b ⟨v1, v2, ?_⟩
          by_cases c : xstmtOp (xinStmt (nI s).toNatClampNeg).toNatClampNeg = 4
          · refine br_t c ⟨v1, nm_r ?_ (nm_r (nI_1 s) hi)⟩
            rw [e] at a c ⊢
            exact lk_as_s (if_pos ⟨a, Or.inr c⟩).symm
          · refine br_f c ⟨v1, nm_r ?_ (nm_r (nI_1 s) hi)⟩
            rw [e] at c ⊢
            exact lk_as_s (if_neg (fun y => y.2.elim b c)).symm
  have H2 := H ni 0 (by omega)
  rw [lk_as_0] at H2
  exact ⟨_, H2⟩
theorem lx_ud {post : Int32 → Prop} {ns no ng ni nb nr : Nat} {xphase xopenOut xopenGroup : Int32} {xregionSize xcounter xmemory xstmtOp xstmtA xstmtB xstmtOwner xoutRegion xoutLoaded xoutGroup xoutAlign xoutVma xoutLma xoutDot xgroupStart xgroupEnd xgroupResident xinKind xinId xinAlign xinSize xinFirstByte xinStmt xinLive xinVma xfedBytes xrelocOwner xrelocOffset xrelocType xrelocTarget xrelocAddend : Nat → Int32} (hq : lk_hq ni nr xrelocOwner xrelocTarget) (h1 : lk_ex (lk_ud xrelocOwner xrelocTarget xinStmt xinLive ni) nr 0 = true → post 1) (h0 : lk_ex (lk_ud xrelocOwner xrelocTarget xinStmt xinLive ni) nr 0 = false → post 0) : wpX_hasUndefinedTarget post (xphase, (nI ns), xopenOut, xopenGroup, (nI no), (nI ng), (nI ni), (nI nb), (nI nr), xregionSize, xcounter, xmemory, xstmtOp, xstmtA, xstmtB, xstmtOwner, xoutRegion, xoutLoaded, xoutGroup, xoutAlign, xoutVma, xoutLma, xoutDot, xgroupStart, xgroupEnd, xgroupResident, xinKind, xinId, xinAlign, xinSize, xinFirstByte, xinStmt, xinLive, xinVma, xfedBytes, xrelocOwner, xrelocOffset, xrelocType, xrelocTarget, xrelocAddend) := by
  obtain ⟨q1, q2, q3⟩ := hq
  have H : ∀ d r, r + d = nr → (lk_ex (lk_ud xrelocOwner xrelocTarget xinStmt xinLive ni) d r = true → post 1) → (lk_ex (lk_ud xrelocOwner xrelocTarget xinStmt xinLive ni) d r = false → post 0) → wX_hasUndefinedTarget_2 post xphase (nI ns) xopenOut xopenGroup (nI no) (nI ng) (nI ni) (nI nb) (nI nr) xregionSize xcounter xmemory xstmtOp xstmtA xstmtB xstmtOwner xoutRegion xoutLoaded xoutGroup xoutAlign xoutVma xoutLma xoutDot xgroupStart xgroupEnd xgroupResident xinKind xinId xinAlign xinSize xinFirstByte xinStmt xinLive xinVma xfedBytes xrelocOwner xrelocOffset xrelocType xrelocTarget xrelocAddend (d + 1) (nI r) := by
    intro d
    induction d with
    | zero => intro r hr _ h0; exact br_t (nI_le (by omega) (by omega)) (h0 rfl)
    | succ d ih =>
      intro r hr h1 h0
      obtain ⟨o, t, ho, eo, ht, et⟩ := q3 r (by omega)
      have e : (nI r).toNatClampNeg = r := nI_clamp (by omega)
      have v1 : vp_in (nI r) 32 := vp_in_nI (by omega) (by omega)
      have v2 : vp_in (xrelocOwner (nI r).toNatClampNeg) 16 := by rw [e, eo]; exact vp_in_nI (by omega) (by omega)
      have hn : ¬ lk_ud xrelocOwner xrelocTarget xinStmt xinLive ni r = true → wX_hasUndefinedTarget_2 post xphase (nI ns) xopenOut xopenGroup (nI no) (nI ng) (nI ni) (nI nb) (nI nr) xregionSize xcounter xmemory xstmtOp xstmtA xstmtB xstmtOwner xoutRegion xoutLoaded xoutGroup xoutAlign xoutVma xoutLma xoutDot xgroupStart xgroupEnd xgroupResident xinKind xinId xinAlign xinSize xinFirstByte xinStmt xinLive xinVma xfedBytes xrelocOwner xrelocOffset xrelocType xrelocTarget xrelocAddend (d + 1) (nI (r + 1)) := by
        intro z
        rw [lk_ex_f z] at h1 h0
        exact ih (r + 1) (by omega) h1 h0
      refine br_f (nI_ge (by omega) (by omega)) ⟨v1, v2, ?_⟩
      by_cases a : xinLive (xrelocOwner (nI r).toNatClampNeg).toNatClampNeg = 1
      · refine br_t a (lx_hat (by omega) ht q1 et (fun z => ?_) (fun z => ?_))
        · refine br_f (by decide) (nm_r (nI_1 r) (hn (fun y => (of_decide_eq_true y).2 z)))
        · rw [e] at a
          exact br_t rfl (h1 (lk_ex_t (decide_eq_true ⟨a, z⟩)))
      · rw [e] at a
        refine br_f (by rw [e]; exact a) (nm_r (nI_1 r) (hn (fun y => a (of_decide_eq_true y).1)))
  exact ⟨_, H nr 0 (by omega) h1 h0⟩
/-- a live section's statement and its output section -/
def lk_hl (ni no ns : Nat) (st lv ox oy : Nat → Int32) : Prop := no ≤ 8 ∧ ns ≤ 32 ∧ ∀ s, s < ni → lv s = 1 → ∃ q k, q < ns ∧ st s = nI q ∧ k < no ∧ ox q = nI k ∧ oy q = nI k
theorem lx_nl {post : Int32 → Prop} {ns no ng ni nb nr : Nat} {xphase xopenOut xopenGroup : Int32} {xregionSize xcounter xmemory xstmtOp xstmtA xstmtB xstmtOwner xoutRegion xoutLoaded xoutGroup xoutAlign xoutVma xoutLma xoutDot xgroupStart xgroupEnd xgroupResident xinKind xinId xinAlign xinSize xinFirstByte xinStmt xinLive xinVma xfedBytes xrelocOwner xrelocOffset xrelocType xrelocTarget xrelocAddend : Nat → Int32} {oy : Nat → Int32} (h16 : ni ≤ 16) (hl : lk_hl ni no ns xinStmt xinLive xstmtOwner oy) (h1 : lk_ex (lk_nl xinKind xinStmt xinLive xoutLoaded xstmtOwner) ni 0 = true → post 1) (h0 : lk_ex (lk_nl xinKind xinStmt xinLive xoutLoaded xstmtOwner) ni 0 = false → post 0) : wpX_hasBytesInNoload post (xphase, (nI ns), xopenOut, xopenGroup, (nI no), (nI ng), (nI ni), (nI nb), (nI nr), xregionSize, xcounter, xmemory, xstmtOp, xstmtA, xstmtB, xstmtOwner, xoutRegion, xoutLoaded, xoutGroup, xoutAlign, xoutVma, xoutLma, xoutDot, xgroupStart, xgroupEnd, xgroupResident, xinKind, xinId, xinAlign, xinSize, xinFirstByte, xinStmt, xinLive, xinVma, xfedBytes, xrelocOwner, xrelocOffset, xrelocType, xrelocTarget, xrelocAddend) := by
  obtain ⟨l1, l2, l3⟩ := hl
  have H : ∀ d s, s + d = ni → (lk_ex (lk_nl xinKind xinStmt xinLive xoutLoaded xstmtOwner) d s = true → post 1) → (lk_ex (lk_nl xinKind xinStmt xinLive xoutLoaded xstmtOwner) d s = false → post 0) → wX_hasBytesInNoload_2 post xphase (nI ns) xopenOut xopenGroup (nI no) (nI ng) (nI ni) (nI nb) (nI nr) xregionSize xcounter xmemory xstmtOp xstmtA xstmtB xstmtOwner xoutRegion xoutLoaded xoutGroup xoutAlign xoutVma xoutLma xoutDot xgroupStart xgroupEnd xgroupResident xinKind xinId xinAlign xinSize xinFirstByte xinStmt xinLive xinVma xfedBytes xrelocOwner xrelocOffset xrelocType xrelocTarget xrelocAddend (d + 1) (nI s) := by
    intro d
    induction d with
    | zero => intro s hs _ h0; exact br_t (nI_le (by omega) (by omega)) (h0 rfl)
    | succ d ih =>
      intro s hs h1 h0
      have e : (nI s).toNatClampNeg = s := nI_clamp (by omega)
      have v1 : vp_in (nI s) 16 := vp_in_nI (by omega) (by omega)
      have hn : ¬ lk_nl xinKind xinStmt xinLive xoutLoaded xstmtOwner s = true → wX_hasBytesInNoload_2 post xphase (nI ns) xopenOut xopenGroup (nI no) (nI ng) (nI ni) (nI nb) (nI nr) xregionSize xcounter xmemory xstmtOp xstmtA xstmtB xstmtOwner xoutRegion xoutLoaded xoutGroup xoutAlign xoutVma xoutLma xoutDot xgroupStart xgroupEnd xgroupResident xinKind xinId xinAlign xinSize xinFirstByte xinStmt xinLive xinVma xfedBytes xrelocOwner xrelocOffset xrelocType xrelocTarget xrelocAddend (d + 1) (nI (s + 1)) := by
        intro z
        rw [lk_ex_f z] at h1 h0
        exact ih (s + 1) (by omega) h1 h0
      refine br_f (nI_ge (by omega) (by omega)) ⟨v1, ?_⟩
      by_cases a : xinKind (nI s).toNatClampNeg = 3
      · refine br_t a (nm_r (nI_1 s) (hn (fun y => (of_decide_eq_true y).2.1 ?_)))
        rw [e] at a
        exact a
      · refine br_f a ⟨v1, ?_⟩
        by_cases b : xinLive (nI s).toNatClampNeg = 1
        · obtain ⟨q, k, hq, eq, hk, ek, _⟩ := l3 s (by omega) (by rw [e] at b; exact b)
          have v2 : vp_in (xinStmt (nI s).toNatClampNeg) 32 := by rw [e, eq]; exact vp_in_nI (by omega) (by omega)
          have v3 : vp_in (xstmtOwner (xinStmt (nI s).toNatClampNeg).toNatClampNeg) 8 := by rw [e, eq, nI_clamp (by omega), ek]; exact vp_in_nI (by omega) (by omega)
          refine br_t b ⟨v1, v2, v3, ?_⟩
          by_cases c : xoutLoaded (xstmtOwner (xinStmt (nI s).toNatClampNeg).toNatClampNeg).toNatClampNeg = 0
          · refine br_t c (h1 (lk_ex_t (decide_eq_true ?_)))
            rw [e] at a b c
            exact ⟨b, a, c⟩
          · refine br_f c (nm_r (nI_1 s) (hn (fun y => ?_)))
            rw [e] at c
            exact c (of_decide_eq_true y).2.2
        · refine br_f b (nm_r (nI_1 s) (hn (fun y => b ?_)))
          rw [e]
          exact (of_decide_eq_true y).1
  exact ⟨_, H ni 0 (by omega) h1 h0⟩
end
end
section

section
/-! U: link on Y's side: who is taken, who is live -/
theorem ly_in {post : SY → Prop} {J2 : Int32 → (Nat → Int32) → (Nat → Int32) → (Nat → Int32) → (Nat → Int32) → (Nat → Int32) → (Nat → Int32) → (Nat → Int32) → (Nat → Int32) → (Nat → Int32) → (Nat → Int32) → (Nat → Int32) → (Nat → Int32) → (Nat → Int32) → (Nat → Int32) → (Nat → Int32) → (Nat → Int32) → (Nat → Int32) → (Nat → Int32) → (Nat → Int32) → (Nat → Int32) → (Nat → Int32) → (Nat → Int32) → (Nat → Int32) → (Nat → Int32) → (Nat → Int32) → (Nat → Int32) → (Nat → Int32) → (Nat → Int32) → (Nat → Int32) → (Nat → Int32) → (Nat → Int32) → (Nat → Int32) → Prop} {R0 R1 ns no ng ni nb nr : Nat} {yphase yopenOut yinGroup ycur yfinalC0 yfinalC1 : Int32} {ystOp ystA ystB ystOut youtReg youtLoaded youtGroup youtVma youtLma youtSize youtAlign youtRes ygStart ygEnd yinKind yinId yinAlign yinBss yinStart yinLen yinStmt yinLive yinVma yinLma ybytes yrSec yrOff yrType yrTgt yrAdd yrom yram : Nat → Int32} {gc : Int32} {s : Nat} (hs : s < 16) (hn : ns ≤ 32) (h : wY_assign_151 post J2 gc (nI s) (nI R0) (nI R1) yphase (nI ns) (nI no) (nI ng) (nI ni) (nI nb) (nI nr) yopenOut yinGroup ycur yfinalC0 yfinalC1 ystOp ystA ystB ystOut youtReg youtLoaded youtGroup youtVma youtLma youtSize youtAlign youtRes ygStart ygEnd yinKind yinId yinAlign yinBss yinStart yinLen (upd yinStmt s (lk_fm ystOp ystA ystB yinKind yinId ns s)) yinLive yinVma yinLma ybytes yrSec yrOff yrType yrTgt yrAdd yrom yram) : ∃ n, wY_assign_46 post J2 gc (nI s) (nI R0) (nI R1) yphase (nI ns) (nI no) (nI ng) (nI ni) (nI nb) (nI nr) yopenOut yinGroup ycur yfinalC0 yfinalC1 n 0 ystOp ystA ystB ystOut youtReg youtLoaded youtGroup youtVma youtLma youtSize youtAlign youtRes ygStart ygEnd yinKind yinId yinAlign yinBss yinStart yinLen (upd yinStmt s (-1)) yinLive yinVma yinLma ybytes yrSec yrOff yrType yrTgt yrAdd yrom yram := by
  have es : (nI s).toNatClampNeg = s := nI_clamp (by omega)
  have vs : vp_in (nI s) 16 := vp_in_nI hs (by omega)
  have H : ∀ d i, i + d = ns → wY_assign_46 post J2 gc (nI s) (nI R0) (nI R1) yphase (nI ns) (nI no) (nI ng) (nI ni) (nI nb) (nI nr) yopenOut yinGroup ycur yfinalC0 yfinalC1 (d + 1) (nI i) ystOp ystA ystB ystOut youtReg youtLoaded youtGroup youtVma youtLma youtSize youtAlign youtRes ygStart ygEnd yinKind yinId yinAlign yinBss yinStart yinLen (upd yinStmt s (lk_ff (lk_mt ystOp ystA ystB yinKind yinId s) i 0)) yinLive yinVma yinLma ybytes yrSec yrOff yrType yrTgt yrAdd yrom yram := by
    intro d
    induction d with
    | zero =>
      intro i hi
      have e1 : i = ns := hi
      subst e1
      exact br_t (nI_le (by omega) (by omega)) h
    | succ d ih =>
      intro i hi
      have hi2 := ih (i + 1) (by omega)
      have e : (nI i).toNatClampNeg = i := nI_clamp (by omega)
      have vi : vp_in (nI i) 32 := vp_in_nI (by omega) (by omega)
      have sn := lk_ff_sn (lk_mt ystOp ystA ystB yinKind yinId s) i 0 (by omega)
      rw [Nat.zero_add] at sn
      have w : upd yinStmt s (lk_ff (lk_mt ystOp ystA ystB yinKind yinId s) i 0) (nI s).toNatClampNeg = lk_ff (lk_mt ystOp ystA ystB yinKind yinId s) i 0 := by rw [es, pk_us]
      refine br_f (nI_ge (by omega) (by omega)) (br_f (nI_ge (b := 32) (by omega) (by omega)) ⟨vs, ?_⟩)
      rcases lk_ff_or (lk_mt ystOp ystA ystB yinKind yinId s) i 0 with z | ⟨q, _, hq, _, z⟩
      · refine br_f (by rw [w, z]; decide) ?_
        rw [z, if_pos rfl] at sn
        have H1 : ((ystOp (nI i).toNatClampNeg = 3 ∨ ystOp (nI i).toNatClampNeg = 4) ∧ (ystA (nI i).toNatClampNeg = -1 ∨ ystA (nI i).toNatClampNeg = yinId (nI s).toNatClampNeg) ∧ (ystB (nI i).toNatClampNeg = 0 ∨ ystB (nI i).toNatClampNeg = yinKind (nI s).toNatClampNeg)) → wY_assign_46 post J2 gc (nI s) (nI R0) (nI R1) yphase (nI ns) (nI no) (nI ng) (nI ni) (nI nb) (nI nr) yopenOut yinGroup ycur yfinalC0 yfinalC1 (d + 1) (nI i + 1) ystOp ystA ystB ystOut youtReg youtLoaded youtGroup youtVma youtLma youtSize youtAlign youtRes ygStart ygEnd yinKind yinId yinAlign yinBss yinStart yinLen (upd (upd yinStmt s (lk_ff (lk_mt ystOp ystA ystB yinKind yinId s) i 0)) (nI s).toNatClampNeg (nI i)) yinLive yinVma yinLma ybytes yrSec yrOff yrType yrTgt yrAdd yrom yram := by
          rw [e, es, lk_uu, nI_1]
          intro y
          rw [if_pos (show lk_mt ystOp ystA ystB yinKind yinId s i = true from decide_eq_true y)] at sn
          rw [sn] at hi2
          exact hi2
        have H2 : ¬ ((ystOp (nI i).toNatClampNeg = 3 ∨ ystOp (nI i).toNatClampNeg = 4) ∧ (ystA (nI i).toNatClampNeg = -1 ∨ ystA (nI i).toNatClampNeg = yinId (nI s).toNatClampNeg) ∧ (ystB (nI i).toNatClampNeg = 0 ∨ ystB (nI i).toNatClampNeg = yinKind (nI s).toNatClampNeg)) → wY_assign_46 post J2 gc (nI s) (nI R0) (nI R1) yphase (nI ns) (nI no) (nI ng) (nI ni) (nI nb) (nI nr) yopenOut yinGroup ycur yfinalC0 yfinalC1 (d + 1) (nI i + 1) ystOp ystA ystB ystOut youtReg youtLoaded youtGroup youtVma youtLma youtSize youtAlign youtRes ygStart ygEnd yinKind yinId yinAlign yinBss yinStart yinLen (upd yinStmt s (lk_ff (lk_mt ystOp ystA ystB yinKind yinId s) i 0)) yinLive yinVma yinLma ybytes yrSec yrOff yrType yrTgt yrAdd yrom yram := by
          rw [e, es, nI_1, z]
          intro y
          rw [if_neg (show ¬ lk_mt ystOp ystA ystB yinKind yinId s i = true from fun x => y (of_decide_eq_true x))] at sn
          rw [sn] at hi2
          exact hi2
        clear ih h hi2 sn w
        by_cases t1 : ystOp (nI i).toNatClampNeg = 3
        · by_cases a1 : ystA (nI i).toNatClampNeg = -1
          · by_cases b1 : ystB (nI i).toNatClampNeg = 0
            · repeat (first | refine br_t (by assumption) ?_ | refine br_f (by assumption) ?_ | refine br_t (by decide) ?_ | refine br_f (by decide) ?_ | refine nm_e ?_ | refine And.intro (by assumption) ?_)
              exact H1 ⟨Or.inl t1, Or.inl a1, Or.inl b1⟩
            by_cases b2 : ystB (nI i).toNatClampNeg = yinKind (nI s).toNatClampNeg
            · repeat (first | refine br_t (by assumption) ?_ | refine br_f (by assumption) ?_ | refine br_t (by decide) ?_ | refine br_f (by decide) ?_ | refine nm_e ?_ | refine And.intro (by assumption) ?_)
              exact H1 ⟨Or.inl t1, Or.inl a1, Or.inr b2⟩
            repeat (first | refine br_t (by assumption) ?_ | refine br_f (by assumption) ?_ | refine br_t (by decide) ?_ | refine br_f (by decide) ?_ | refine nm_e ?_ | refine And.intro (by assumption) ?_)
            exact H2 (fun z => z.2.2.elim b1 b2)
          by_cases a2 : ystA (nI i).toNatClampNeg = yinId (nI s).toNatClampNeg
          · by_cases b1 : ystB (nI i).toNatClampNeg = 0
            · repeat (first | refine br_t (by assumption) ?_ | refine br_f (by assumption) ?_ | refine br_t (by decide) ?_ | refine br_f (by decide) ?_ | refine nm_e ?_ | refine And.intro (by assumption) ?_)
              exact H1 ⟨Or.inl t1, Or.inr a2, Or.inl b1⟩
            by_cases b2 : ystB (nI i).toNatClampNeg = yinKind (nI s).toNatClampNeg
            · repeat (first | refine br_t (by assumption) ?_ | refine br_f (by assumption) ?_ | refine br_t (by decide) ?_ | refine br_f (by decide) ?_ | refine nm_e ?_ | refine And.intro (by assumption) ?_)
              exact H1 ⟨Or.inl t1, Or.inr a2, Or.inr b2⟩
            repeat (first | refine br_t (by assumption) ?_ | refine br_f (by assumption) ?_ | refine br_t (by decide) ?_ | refine br_f (by decide) ?_ | refine nm_e ?_ | refine And.intro (by assumption) ?_)
            exact H2 (fun z => z.2.2.elim b1 b2)
          repeat (first | refine br_t (by assumption) ?_ | refine br_f (by assumption) ?_ | refine br_t (by decide) ?_ | refine br_f (by decide) ?_ | refine nm_e ?_ | refine And.intro (by assumption) ?_)
          exact H2 (fun z => z.2.1.elim a1 a2)
        by_cases t2 : ystOp (nI i).toNatClampNeg = 4
        · by_cases a1 : ystA (nI i).toNatClampNeg = -1
          · by_cases b1 : ystB (nI i).toNatClampNeg = 0
            · repeat (first | refine br_t (by assumption) ?_ | refine br_f (by assumption) ?_ | refine br_t (by decide) ?_ | refine br_f (by decide) ?_ | refine nm_e ?_ | refine And.intro (by assumption) ?_)
              exact H1 ⟨Or.inr t2, Or.inl a1, Or.inl b1⟩
            by_cases b2 : ystB (nI i).toNatClampNeg = yinKind (nI s).toNatClampNeg
            · repeat (first | refine br_t (by assumption) ?_ | refine br_f (by assumption) ?_ | refine br_t (by decide) ?_ | refine br_f (by decide) ?_ | refine nm_e ?_ | refine And.intro (by assumption) ?_)
              exact H1 ⟨Or.inr t2, Or.inl a1, Or.inr b2⟩
            repeat (first | refine br_t (by assumption) ?_ | refine br_f (by assumption) ?_ | refine br_t (by decide) ?_ | refine br_f (by decide) ?_ | refine nm_e ?_ | refine And.intro (by assumption) ?_)
            exact H2 (fun z => z.2.2.elim b1 b2)
          by_cases a2 : ystA (nI i).toNatClampNeg = yinId (nI s).toNatClampNeg
          · by_cases b1 : ystB (nI i).toNatClampNeg = 0
            · repeat (first | refine br_t (by assumption) ?_ | refine br_f (by assumption) ?_ | refine br_t (by decide) ?_ | refine br_f (by decide) ?_ | refine nm_e ?_ | refine And.intro (by assumption) ?_)
              exact H1 ⟨Or.inr t2, Or.inr a2, Or.inl b1⟩
            by_cases b2 : ystB (nI i).toNatClampNeg = yinKind (nI s).toNatClampNeg
            · repeat (first | refine br_t (by assumption) ?_ | refine br_f (by assumption) ?_ | refine br_t (by decide) ?_ | refine br_f (by decide) ?_ | refine nm_e ?_ | refine And.intro (by assumption) ?_)
              exact H1 ⟨Or.inr t2, Or.inr a2, Or.inr b2⟩
            repeat (first | refine br_t (by assumption) ?_ | refine br_f (by assumption) ?_ | refine br_t (by decide) ?_ | refine br_f (by decide) ?_ | refine nm_e ?_ | refine And.intro (by assumption) ?_)
            exact H2 (fun z => z.2.2.elim b1 b2)
          repeat (first | refine br_t (by assumption) ?_ | refine br_f (by assumption) ?_ | refine br_t (by decide) ?_ | refine br_f (by decide) ?_ | refine nm_e ?_ | refine And.intro (by assumption) ?_)
          exact H2 (fun z => z.2.1.elim a1 a2)
        repeat (first | refine br_t (by assumption) ?_ | refine br_f (by assumption) ?_ | refine br_t (by decide) ?_ | refine br_f (by decide) ?_ | refine nm_e ?_ | refine And.intro (by assumption) ?_)
        exact H2 (fun z => z.1.elim t1 t2)
      · refine br_t (by rw [w, z]; exact nI_pos' (by omega)) (nm_r (nI_1 i) ?_)
        rw [z, if_neg (lk_nn1 (by omega))] at sn
        rw [sn] at hi2
        rw [z]
        exact hi2
  exact ⟨_, H ns 0 (by omega)⟩
theorem ly_as {post : SY → Prop} {R0 R1 ns no ng ni nb nr : Nat} {yphase yopenOut yinGroup ycur yfinalC0 yfinalC1 : Int32} {ystOp ystA ystB ystOut youtReg youtLoaded youtGroup youtVma youtLma youtSize youtAlign youtRes ygStart ygEnd yinKind yinId yinAlign yinBss yinStart yinLen yinStmt yinLive yinVma yinLma ybytes yrSec yrOff yrType yrTgt yrAdd yrom yram : Nat → Int32} {gc : Int32} (h16 : ni ≤ 16) (hn : ns ≤ 32) (h : post ((nI R0), (nI R1), yphase, (nI ns), (nI no), (nI ng), (nI ni), (nI nb), (nI nr), yopenOut, yinGroup, ycur, yfinalC0, yfinalC1, ystOp, ystA, ystB, ystOut, youtReg, youtLoaded, youtGroup, youtVma, youtLma, youtSize, youtAlign, youtRes, ygStart, ygEnd, yinKind, yinId, yinAlign, yinBss, yinStart, yinLen, (lk_as yinStmt ni (lk_fm ystOp ystA ystB yinKind yinId ns)), (lk_as yinLive ni (lk_l0 ystOp (lk_fm ystOp ystA ystB yinKind yinId ns) gc)), (lk_as yinVma ni (fun _ => -1)), (lk_as yinLma ni (fun _ => -1)), ybytes, yrSec, yrOff, yrType, yrTgt, yrAdd, yrom, yram)) : wpY_assign post ((nI R0), (nI R1), yphase, (nI ns), (nI no), (nI ng), (nI ni), (nI nb), (nI nr), yopenOut, yinGroup, ycur, yfinalC0, yfinalC1, ystOp, ystA, ystB, ystOut, youtReg, youtLoaded, youtGroup, youtVma, youtLma, youtSize, youtAlign, youtRes, ygStart, ygEnd, yinKind, yinId, yinAlign, yinBss, yinStart, yinLen, yinStmt, yinLive, yinVma, yinLma, ybytes, yrSec, yrOff, yrType, yrTgt, yrAdd, yrom, yram) gc := by
  have H : ∀ d s, s + d = ni → wY_assign_2 post gc (nI R0) (nI R1) yphase (nI ns) (nI no) (nI ng) (nI ni) (nI nb) (nI nr) yopenOut yinGroup ycur yfinalC0 yfinalC1 (d + 1) (nI s) ystOp ystA ystB ystOut youtReg youtLoaded youtGroup youtVma youtLma youtSize youtAlign youtRes ygStart ygEnd yinKind yinId yinAlign yinBss yinStart yinLen (lk_as yinStmt s (lk_fm ystOp ystA ystB yinKind yinId ns)) (lk_as yinLive s (lk_l0 ystOp (lk_fm ystOp ystA ystB yinKind yinId ns) gc)) (lk_as yinVma s (fun _ => -1)) (lk_as yinLma s (fun _ => -1)) ybytes yrSec yrOff yrType yrTgt yrAdd yrom yram := by
    intro d
    induction d with
    | zero =>
      intro s hs
      have e1 : s = ni := hs
      subst e1
      exact br_t (nI_le (by omega) (by omega)) h
    | succ d ih =>
      intro s hs
      have es : (nI s).toNatClampNeg = s := nI_clamp (by omega)
      have vs : vp_in (nI s) 16 := vp_in_nI (by omega) (by omega)
      have hi := ih (s + 1) (by omega)
      refine br_f (nI_ge (by omega) (by omega)) (br_f (nI_ge (b := 16) (by omega) (by omega)) ⟨vs, nm_r (e' := upd (lk_as yinStmt s (lk_fm ystOp ystA ystB yinKind yinId ns)) s (-1)) (by rw [es]) ⟨vs, nm_r (e' := upd (lk_as yinLive s (lk_l0 ystOp (lk_fm ystOp ystA ystB yinKind yinId ns) gc)) s 0) (by rw [es]) ⟨vs, nm_r (e' := lk_as yinVma (s + 1) (fun _ => -1)) (by rw [es]; exact lk_as_s rfl) ⟨vs, nm_r (e' := lk_as yinLma (s + 1) (fun _ => -1)) (by rw [es]; exact lk_as_s rfl) (ly_in (by omega) hn ?_)⟩⟩⟩⟩)
      rw [show upd (lk_as yinStmt s (lk_fm ystOp ystA ystB yinKind yinId ns)) s (lk_fm ystOp ystA ystB yinKind yinId ns s) = lk_as yinStmt (s + 1) (lk_fm ystOp ystA ystB yinKind yinId ns) from lk_as_s rfl]
      have w : lk_as yinStmt (s + 1) (lk_fm ystOp ystA ystB yinKind yinId ns) (nI s).toNatClampNeg = lk_fm ystOp ystA ystB yinKind yinId ns s := by rw [es]; exact lk_as_t (Nat.lt_succ_self s)
      refine ⟨vs, ?_⟩
      rcases lk_fm_or (op := ystOp) (sa := ystA) (sb := ystB) (kd := yinKind) (id := yinId) (ns := ns) (s := s) with z | ⟨q, hq, _, z⟩
      · refine br_t (by rw [w, z]; decide) (nm_r (nI_1 s) ?_)
        rw [lk_as_s (if_neg (fun y => y.1 z)).symm]
        exact hi
      · have nz : ¬ lk_fm ystOp ystA ystB yinKind yinId ns s = -1 := by rw [z]; exact lk_nn1 (by omega)
        refine br_f (by rw [w, z]; exact nI_pos (by omega)) ?_
        by_cases b : gc = 0
        · refine br_t b ⟨vs, nm_r ?_ (nm_r (nI_1 s) hi)⟩
          rw [es, lk_uu]
          exact lk_as_s (if_pos ⟨nz, Or.inl b⟩).symm
        · have v2 : vp_in (lk_as yinStmt (s + 1) (lk_fm ystOp ystA ystB yinKind yinId ns) (nI s).toNatClampNeg) 32 := by rw [w, z]; exact vp_in_nI (by omega) (by omega)
          refine br_f b ⟨vs, v2, ?_⟩
          by_cases c : ystOp (lk_as yinStmt (s + 1) (lk_fm ystOp ystA ystB yinKind yinId ns) (nI s).toNatClampNeg).toNatClampNeg = 4
          · refine br_t c ⟨vs, nm_r ?_ (nm_r (nI_1 s) hi)⟩
            rw [w] at c
            rw [es, lk_uu]
            exact lk_as_s (if_pos ⟨nz, Or.inr c⟩).symm
          · refine br_f c (nm_r (nI_1 s) ?_)
            rw [w] at c
            rw [lk_as_s (if_neg (fun y => y.2.elim b c)).symm]
            exact hi
  have H2 := H ni 0 (by omega)
  rw [lk_as_0, lk_as_0, lk_as_0, lk_as_0] at H2
  exact ⟨_, H2⟩
theorem ly_pass {post : SY → Prop} {J2 : Int32 → (Nat → Int32) → (Nat → Int32) → (Nat → Int32) → (Nat → Int32) → (Nat → Int32) → (Nat → Int32) → (Nat → Int32) → (Nat → Int32) → (Nat → Int32) → (Nat → Int32) → (Nat → Int32) → (Nat → Int32) → (Nat → Int32) → (Nat → Int32) → (Nat → Int32) → (Nat → Int32) → (Nat → Int32) → (Nat → Int32) → (Nat → Int32) → (Nat → Int32) → (Nat → Int32) → (Nat → Int32) → (Nat → Int32) → (Nat → Int32) → (Nat → Int32) → (Nat → Int32) → (Nat → Int32) → (Nat → Int32) → (Nat → Int32) → (Nat → Int32) → (Nat → Int32) → (Nat → Int32) → Prop} {R0 R1 ns no ng ni nb nr : Nat} {yphase yopenOut yinGroup ycur yfinalC0 yfinalC1 : Int32} {ystOp ystA ystB ystOut youtReg youtLoaded youtGroup youtVma youtLma youtSize youtAlign youtRes ygStart ygEnd yinKind yinId yinAlign yinBss yinStart yinLen yinStmt yinLive yinVma yinLma ybytes yrSec yrOff yrType yrTgt yrAdd yrom yram : Nat → Int32} {x1 : Int32} (hq : lk_hq ni nr yrSec yrTgt) (ht : lk_ht ni yinStmt) (h : J2 (x1 + 1) ystOp ystA ystB ystOut youtReg youtLoaded youtGroup youtVma youtLma youtSize youtAlign youtRes ygStart ygEnd yinKind yinId yinAlign yinBss yinStart yinLen yinStmt (lk_ps (lk_sp yrSec yrTgt yinStmt ni) nr yinLive) yinVma yinLma ybytes yrSec yrOff yrType yrTgt yrAdd yrom yram) : ∃ n, wY_closeLive_10 post J2 x1 (nI R0) (nI R1) yphase (nI ns) (nI no) (nI ng) (nI ni) (nI nb) (nI nr) yopenOut yinGroup ycur yfinalC0 yfinalC1 n 0 ystOp ystA ystB ystOut youtReg youtLoaded youtGroup youtVma youtLma youtSize youtAlign youtRes ygStart ygEnd yinKind yinId yinAlign yinBss yinStart yinLen yinStmt yinLive yinVma yinLma ybytes yrSec yrOff yrType yrTgt yrAdd yrom yram := by
  obtain ⟨q1, q2, q3⟩ := hq
  have H : ∀ d r, r + d = nr → wY_closeLive_10 post J2 x1 (nI R0) (nI R1) yphase (nI ns) (nI no) (nI ng) (nI ni) (nI nb) (nI nr) yopenOut yinGroup ycur yfinalC0 yfinalC1 (d + 1) (nI r) ystOp ystA ystB ystOut youtReg youtLoaded youtGroup youtVma youtLma youtSize youtAlign youtRes ygStart ygEnd yinKind yinId yinAlign yinBss yinStart yinLen yinStmt (lk_ps (lk_sp yrSec yrTgt yinStmt ni) r yinLive) yinVma yinLma ybytes yrSec yrOff yrType yrTgt yrAdd yrom yram := by
    intro d
    induction d with
    | zero =>
      intro r hr
      have e1 : r = nr := hr
      subst e1
      exact br_t (nI_le (by omega) (by omega)) (nm_e h)
    | succ d ih =>
      intro r hr
      obtain ⟨o, t, ho, eo, ht16, et⟩ := q3 r (by omega)
      have e : (nI r).toNatClampNeg = r := nI_clamp (by omega)
      have v1 : vp_in (nI r) 32 := vp_in_nI (by omega) (by omega)
      have v2 : vp_in (yrSec (nI r).toNatClampNeg) 16 := by rw [e, eo]; exact vp_in_nI (by omega) (by omega)
      have c := lk_on_t (st := yinStmt) (ni := ni) (by omega) (by omega) et
      have hi := ih (r + 1) (by omega)
      have es : lk_ps (lk_sp yrSec yrTgt yinStmt ni) (r + 1) yinLive = lk_sp yrSec yrTgt yinStmt ni r (lk_ps (lk_sp yrSec yrTgt yinStmt ni) r yinLive) := rfl
      rw [es] at hi
      refine br_f (nI_ge (by omega) (by omega)) (br_f (nI_ge (b := 32) (by omega) (by omega)) ⟨v1, nm_r (e' := nI t) (by rw [e, et]) ⟨v1, v2, ?_⟩⟩)
      have hn : ¬ (lk_ps (lk_sp yrSec yrTgt yinStmt ni) r yinLive (yrSec r).toNatClampNeg = 1 ∧ lk_on yrTgt yinStmt ni r = true) → wY_closeLive_10 post J2 x1 (nI R0) (nI R1) yphase (nI ns) (nI no) (nI ng) (nI ni) (nI nb) (nI nr) yopenOut yinGroup ycur yfinalC0 yfinalC1 (d + 1) (nI (r + 1)) ystOp ystA ystB ystOut youtReg youtLoaded youtGroup youtVma youtLma youtSize youtAlign youtRes ygStart ygEnd yinKind yinId yinAlign yinBss yinStart yinLen yinStmt (lk_ps (lk_sp yrSec yrTgt yinStmt ni) r yinLive) yinVma yinLma ybytes yrSec yrOff yrType yrTgt yrAdd yrom yram := by
        intro y
        have e2 : lk_sp yrSec yrTgt yinStmt ni r (lk_ps (lk_sp yrSec yrTgt yinStmt ni) r yinLive) = lk_ps (lk_sp yrSec yrTgt yinStmt ni) r yinLive := if_neg y
        rw [e2] at hi
        exact hi
      by_cases a : lk_ps (lk_sp yrSec yrTgt yinStmt ni) r yinLive (yrSec (nI r).toNatClampNeg).toNatClampNeg = 1
      · refine br_t a (br_f (nI_pos (by omega)) ?_)
        rw [e] at a
        by_cases b : ni ≤ t
        · exact br_t (nI_le b (by omega)) (nm_r (nI_1 r) (hn (fun y => by have := (c.mp y.2).1; omega)))
        · refine br_f (nI_ge (by omega) (by omega)) ⟨vp_in_nI (by omega) (by omega), ?_⟩
          rcases ht t (by omega) with z | ⟨q, hq2, z⟩
          · exact br_t (by rw [nI_clamp (by omega), z]; decide) (nm_r (nI_1 r) (hn (fun y => (c.mp y.2).2 z)))
          · refine br_f (by rw [nI_clamp (by omega), z]; exact nI_pos (by omega)) ⟨vp_in_nI (by omega) (by omega), nm_r ?_ (nm_r (nI_1 r) hi)⟩
            have on : lk_on yrTgt yinStmt ni r = true := c.mpr ⟨by omega, by rw [z]; exact lk_nn1 (by omega)⟩
            have e2 : lk_sp yrSec yrTgt yinStmt ni r (lk_ps (lk_sp yrSec yrTgt yinStmt ni) r yinLive) = upd (lk_ps (lk_sp yrSec yrTgt yinStmt ni) r yinLive) (yrTgt r).toNatClampNeg 1 := if_pos ⟨a, on⟩
            rw [e2, et]
      · refine br_f a (nm_r (nI_1 r) (hn (fun y => a ?_)))
        rw [e]
        exact y.1
  exact ⟨_, H nr 0 (by omega)⟩
theorem ly_close {post : SY → Prop} {R0 R1 ns no ng ni nb nr : Nat} {yphase yopenOut yinGroup ycur yfinalC0 yfinalC1 : Int32} {ystOp ystA ystB ystOut youtReg youtLoaded youtGroup youtVma youtLma youtSize youtAlign youtRes ygStart ygEnd yinKind yinId yinAlign yinBss yinStart yinLen yinStmt yinLive yinVma yinLma ybytes yrSec yrOff yrType yrTgt yrAdd yrom yram : Nat → Int32} (hq : lk_hq ni nr yrSec yrTgt) (ht : lk_ht ni yinStmt) (h : post ((nI R0), (nI R1), yphase, (nI ns), (nI no), (nI ng), (nI ni), (nI nb), (nI nr), yopenOut, yinGroup, ycur, yfinalC0, yfinalC1, ystOp, ystA, ystB, ystOut, youtReg, youtLoaded, youtGroup, youtVma, youtLma, youtSize, youtAlign, youtRes, ygStart, ygEnd, yinKind, yinId, yinAlign, yinBss, yinStart, yinLen, yinStmt, (lk_it (lk_sp yrSec yrTgt yinStmt ni) nr 17 yinLive), yinVma, yinLma, ybytes, yrSec, yrOff, yrType, yrTgt, yrAdd, yrom, yram)) : wpY_closeLive post ((nI R0), (nI R1), yphase, (nI ns), (nI no), (nI ng), (nI ni), (nI nb), (nI nr), yopenOut, yinGroup, ycur, yfinalC0, yfinalC1, ystOp, ystA, ystB, ystOut, youtReg, youtLoaded, youtGroup, youtVma, youtLma, youtSize, youtAlign, youtRes, ygStart, ygEnd, yinKind, yinId, yinAlign, yinBss, yinStart, yinLen, yinStmt, yinLive, yinVma, yinLma, ybytes, yrSec, yrOff, yrType, yrTgt, yrAdd, yrom, yram) := by
  have H : ∀ d x, x + d = 17 → wY_closeLive_2 post (nI R0) (nI R1) yphase (nI ns) (nI no) (nI ng) (nI ni) (nI nb) (nI nr) yopenOut yinGroup ycur yfinalC0 yfinalC1 (d + 1) (nI x) ystOp ystA ystB ystOut youtReg youtLoaded youtGroup youtVma youtLma youtSize youtAlign youtRes ygStart ygEnd yinKind yinId yinAlign yinBss yinStart yinLen yinStmt (lk_it (lk_sp yrSec yrTgt yinStmt ni) nr x yinLive) yinVma yinLma ybytes yrSec yrOff yrType yrTgt yrAdd yrom yram := by
    intro d
    induction d with
    | zero =>
      intro x hx
      have e1 : x = 17 := hx
      subst e1
      exact br_t (by decide) h
    | succ d ih =>
      intro x hx
      have hi := ih (x + 1) (by omega)
      rw [← nI_1] at hi
      exact br_f (nI_nlt (a := 16) (b := x) (by omega) (by omega)) (ly_pass hq ht hi)
  exact ⟨_, H 17 0 rfl⟩
theorem ly_ud {post : Int32 → SY → Prop} {R0 R1 ns no ng ni nb nr : Nat} {yphase yopenOut yinGroup ycur yfinalC0 yfinalC1 : Int32} {ystOp ystA ystB ystOut youtReg youtLoaded youtGroup youtVma youtLma youtSize youtAlign youtRes ygStart ygEnd yinKind yinId yinAlign yinBss yinStart yinLen yinStmt yinLive yinVma yinLma ybytes yrSec yrOff yrType yrTgt yrAdd yrom yram : Nat → Int32} (hq : lk_hq ni nr yrSec yrTgt) (ht : lk_ht ni yinStmt) (h1 : lk_ex (lk_ud yrSec yrTgt yinStmt yinLive ni) nr 0 = true → post (-6) ((nI R0), (nI R1), yphase, (nI ns), (nI no), (nI ng), (nI ni), (nI nb), (nI nr), yopenOut, yinGroup, ycur, yfinalC0, yfinalC1, ystOp, ystA, ystB, ystOut, youtReg, youtLoaded, youtGroup, youtVma, youtLma, youtSize, youtAlign, youtRes, ygStart, ygEnd, yinKind, yinId, yinAlign, yinBss, yinStart, yinLen, yinStmt, yinLive, yinVma, yinLma, ybytes, yrSec, yrOff, yrType, yrTgt, yrAdd, yrom, yram)) (h0 : lk_ex (lk_ud yrSec yrTgt yinStmt yinLive ni) nr 0 = false → ∃ n, wY_link_105 post (nI R0) (nI R1) yphase (nI ns) (nI no) (nI ng) (nI ni) (nI nb) (nI nr) yopenOut yinGroup ycur yfinalC0 yfinalC1 ystOp ystA ystB ystOut youtReg youtLoaded youtGroup youtVma youtLma youtSize youtAlign youtRes ygStart ygEnd yinKind yinId yinAlign yinBss yinStart yinLen yinStmt yinLive yinVma yinLma ybytes yrSec yrOff yrType yrTgt yrAdd yrom yram n 0) : ∃ n, wY_link_37 post (nI R0) (nI R1) yphase (nI ns) (nI no) (nI ng) (nI ni) (nI nb) (nI nr) yopenOut yinGroup ycur yfinalC0 yfinalC1 ystOp ystA ystB ystOut youtReg youtLoaded youtGroup youtVma youtLma youtSize youtAlign youtRes ygStart ygEnd yinKind yinId yinAlign yinBss yinStart yinLen yinStmt yinLive yinVma yinLma ybytes yrSec yrOff yrType yrTgt yrAdd yrom yram n 0 := by
  obtain ⟨q1, q2, q3⟩ := hq
  have H : ∀ d r, r + d = nr → (lk_ex (lk_ud yrSec yrTgt yinStmt yinLive ni) d r = true → post (-6) ((nI R0), (nI R1), yphase, (nI ns), (nI no), (nI ng), (nI ni), (nI nb), (nI nr), yopenOut, yinGroup, ycur, yfinalC0, yfinalC1, ystOp, ystA, ystB, ystOut, youtReg, youtLoaded, youtGroup, youtVma, youtLma, youtSize, youtAlign, youtRes, ygStart, ygEnd, yinKind, yinId, yinAlign, yinBss, yinStart, yinLen, yinStmt, yinLive, yinVma, yinLma, ybytes, yrSec, yrOff, yrType, yrTgt, yrAdd, yrom, yram)) → (lk_ex (lk_ud yrSec yrTgt yinStmt yinLive ni) d r = false → ∃ n, wY_link_105 post (nI R0) (nI R1) yphase (nI ns) (nI no) (nI ng) (nI ni) (nI nb) (nI nr) yopenOut yinGroup ycur yfinalC0 yfinalC1 ystOp ystA ystB ystOut youtReg youtLoaded youtGroup youtVma youtLma youtSize youtAlign youtRes ygStart ygEnd yinKind yinId yinAlign yinBss yinStart yinLen yinStmt yinLive yinVma yinLma ybytes yrSec yrOff yrType yrTgt yrAdd yrom yram n 0) → wY_link_37 post (nI R0) (nI R1) yphase (nI ns) (nI no) (nI ng) (nI ni) (nI nb) (nI nr) yopenOut yinGroup ycur yfinalC0 yfinalC1 ystOp ystA ystB ystOut youtReg youtLoaded youtGroup youtVma youtLma youtSize youtAlign youtRes ygStart ygEnd yinKind yinId yinAlign yinBss yinStart yinLen yinStmt yinLive yinVma yinLma ybytes yrSec yrOff yrType yrTgt yrAdd yrom yram (d + 1) (nI r) := by
    intro d
    induction d with
    | zero => intro r hr _ h0; exact br_t (nI_le (by omega) (by omega)) (h0 rfl)
    | succ d ih =>
      intro r hr h1 h0
      obtain ⟨o, t, ho, eo, ht16, et⟩ := q3 r (by omega)
      have e : (nI r).toNatClampNeg = r := nI_clamp (by omega)
      have v1 : vp_in (nI r) 32 := vp_in_nI (by omega) (by omega)
      have v2 : vp_in (yrSec (nI r).toNatClampNeg) 16 := by rw [e, eo]; exact vp_in_nI (by omega) (by omega)
      have c := lk_on_t (st := yinStmt) (ni := ni) (by omega) (by omega) et
      have hn : ¬ lk_ud yrSec yrTgt yinStmt yinLive ni r = true → wY_link_37 post (nI R0) (nI R1) yphase (nI ns) (nI no) (nI ng) (nI ni) (nI nb) (nI nr) yopenOut yinGroup ycur yfinalC0 yfinalC1 ystOp ystA ystB ystOut youtReg youtLoaded youtGroup youtVma youtLma youtSize youtAlign youtRes ygStart ygEnd yinKind yinId yinAlign yinBss yinStart yinLen yinStmt yinLive yinVma yinLma ybytes yrSec yrOff yrType yrTgt yrAdd yrom yram (d + 1) (nI (r + 1)) := by
        intro z
        rw [lk_ex_f z] at h1 h0
        exact ih (r + 1) (by omega) h1 h0
      refine br_f (nI_ge (by omega) (by omega)) (br_f (nI_ge (b := 32) (by omega) (by omega)) ⟨v1, nm_r (e' := nI t) (by rw [e, et]) ⟨v1, v2, ?_⟩⟩)
      by_cases a : yinLive (yrSec (nI r).toNatClampNeg).toNatClampNeg = 1
      · refine br_t a (br_f (nI_pos (by omega)) ?_)
        rw [e] at a
        by_cases b : ni ≤ t
        · exact br_t (nI_le b (by omega)) (h1 (lk_ex_t (decide_eq_true ⟨a, fun y => by have := (c.mp y).1; omega⟩)))
        · refine br_f (nI_ge (by omega) (by omega)) ⟨vp_in_nI (by omega) (by omega), ?_⟩
          rcases ht t (by omega) with z | ⟨q, hq2, z⟩
          · exact br_f (by rw [nI_clamp (by omega), z]; decide) (h1 (lk_ex_t (decide_eq_true ⟨a, fun y => (c.mp y).2 z⟩)))
          · refine br_t (by rw [nI_clamp (by omega), z]; exact nI_pos' (by omega)) (nm_r (nI_1 r) (hn (fun y => ?_)))
            exact (of_decide_eq_true y).2 (c.mpr ⟨by omega, by rw [z]; exact lk_nn1 (by omega)⟩)
      · refine br_f a (nm_r (nI_1 r) (hn (fun y => a ?_)))
        rw [e]
        exact (of_decide_eq_true y).1
  exact ⟨_, H nr 0 (by omega) h1 h0⟩
theorem ly_nl {post : Int32 → SY → Prop} {R0 R1 ns no ng ni nb nr : Nat} {yphase yopenOut yinGroup ycur yfinalC0 yfinalC1 : Int32} {ystOp ystA ystB ystOut youtReg youtLoaded youtGroup youtVma youtLma youtSize youtAlign youtRes ygStart ygEnd yinKind yinId yinAlign yinBss yinStart yinLen yinStmt yinLive yinVma yinLma ybytes yrSec yrOff yrType yrTgt yrAdd yrom yram : Nat → Int32} {ox : Nat → Int32} (h16 : ni ≤ 16) (hl : lk_hl ni no ns yinStmt yinLive ox ystOut) (h1 : lk_ex (lk_nl yinKind yinStmt yinLive youtLoaded ystOut) ni 0 = true → post (-7) ((nI R0), (nI R1), yphase, (nI ns), (nI no), (nI ng), (nI ni), (nI nb), (nI nr), yopenOut, yinGroup, ycur, yfinalC0, yfinalC1, ystOp, ystA, ystB, ystOut, youtReg, youtLoaded, youtGroup, youtVma, youtLma, youtSize, youtAlign, youtRes, ygStart, ygEnd, yinKind, yinId, yinAlign, yinBss, yinStart, yinLen, yinStmt, yinLive, yinVma, yinLma, ybytes, yrSec, yrOff, yrType, yrTgt, yrAdd, yrom, yram)) (h0 : lk_ex (lk_nl yinKind yinStmt yinLive youtLoaded ystOut) ni 0 = false → wY_link_167 post (nI R0) (nI R1) yphase (nI ns) (nI no) (nI ng) (nI ni) (nI nb) (nI nr) yopenOut yinGroup ycur yfinalC0 yfinalC1 ystOp ystA ystB ystOut youtReg youtLoaded youtGroup youtVma youtLma youtSize youtAlign youtRes ygStart ygEnd yinKind yinId yinAlign yinBss yinStart yinLen yinStmt yinLive yinVma yinLma ybytes yrSec yrOff yrType yrTgt yrAdd yrom yram) : ∃ n, wY_link_105 post (nI R0) (nI R1) yphase (nI ns) (nI no) (nI ng) (nI ni) (nI nb) (nI nr) yopenOut yinGroup ycur yfinalC0 yfinalC1 ystOp ystA ystB ystOut youtReg youtLoaded youtGroup youtVma youtLma youtSize youtAlign youtRes ygStart ygEnd yinKind yinId yinAlign yinBss yinStart yinLen yinStmt yinLive yinVma yinLma ybytes yrSec yrOff yrType yrTgt yrAdd yrom yram n 0 := by
  obtain ⟨l1, l2, l3⟩ := hl
  have H : ∀ d s, s + d = ni → (lk_ex (lk_nl yinKind yinStmt yinLive youtLoaded ystOut) d s = true → post (-7) ((nI R0), (nI R1), yphase, (nI ns), (nI no), (nI ng), (nI ni), (nI nb), (nI nr), yopenOut, yinGroup, ycur, yfinalC0, yfinalC1, ystOp, ystA, ystB, ystOut, youtReg, youtLoaded, youtGroup, youtVma, youtLma, youtSize, youtAlign, youtRes, ygStart, ygEnd, yinKind, yinId, yinAlign, yinBss, yinStart, yinLen, yinStmt, yinLive, yinVma, yinLma, ybytes, yrSec, yrOff, yrType, yrTgt, yrAdd, yrom, yram)) → (lk_ex (lk_nl yinKind yinStmt yinLive youtLoaded ystOut) d s = false → wY_link_167 post (nI R0) (nI R1) yphase (nI ns) (nI no) (nI ng) (nI ni) (nI nb) (nI nr) yopenOut yinGroup ycur yfinalC0 yfinalC1 ystOp ystA ystB ystOut youtReg youtLoaded youtGroup youtVma youtLma youtSize youtAlign youtRes ygStart ygEnd yinKind yinId yinAlign yinBss yinStart yinLen yinStmt yinLive yinVma yinLma ybytes yrSec yrOff yrType yrTgt yrAdd yrom yram) → wY_link_105 post (nI R0) (nI R1) yphase (nI ns) (nI no) (nI ng) (nI ni) (nI nb) (nI nr) yopenOut yinGroup ycur yfinalC0 yfinalC1 ystOp ystA ystB ystOut youtReg youtLoaded youtGroup youtVma youtLma youtSize youtAlign youtRes ygStart ygEnd yinKind yinId yinAlign yinBss yinStart yinLen yinStmt yinLive yinVma yinLma ybytes yrSec yrOff yrType yrTgt yrAdd yrom yram (d + 1) (nI s) := by
    intro d
    induction d with
    | zero => intro s hs _ h0; exact br_t (nI_le (by omega) (by omega)) (h0 rfl)
    | succ d ih =>
      intro s hs h1 h0
      have e : (nI s).toNatClampNeg = s := nI_clamp (by omega)
      have v1 : vp_in (nI s) 16 := vp_in_nI (by omega) (by omega)
      have hn : ¬ lk_nl yinKind yinStmt yinLive youtLoaded ystOut s = true → wY_link_105 post (nI R0) (nI R1) yphase (nI ns) (nI no) (nI ng) (nI ni) (nI nb) (nI nr) yopenOut yinGroup ycur yfinalC0 yfinalC1 ystOp ystA ystB ystOut youtReg youtLoaded youtGroup youtVma youtLma youtSize youtAlign youtRes ygStart ygEnd yinKind yinId yinAlign yinBss yinStart yinLen yinStmt yinLive yinVma yinLma ybytes yrSec yrOff yrType yrTgt yrAdd yrom yram (d + 1) (nI (s + 1)) := by
        intro z
        rw [lk_ex_f z] at h1 h0
        exact ih (s + 1) (by omega) h1 h0
      refine br_f (nI_ge (by omega) (by omega)) (br_f (nI_ge (b := 16) (by omega) (by omega)) ⟨v1, ?_⟩)
      by_cases b : yinLive (nI s).toNatClampNeg = 1
      · refine br_t b ⟨v1, ?_⟩
        by_cases a : yinKind (nI s).toNatClampNeg = 3
        · refine br_t a (nm_r (nI_1 s) (hn (fun y => (of_decide_eq_true y).2.1 ?_)))
          rw [e] at a
          exact a
        · obtain ⟨q, k, hq, eq, hk, _, ek⟩ := l3 s (by omega) (by rw [e] at b; exact b)
          have v2 : vp_in (yinStmt (nI s).toNatClampNeg) 32 := by rw [e, eq]; exact vp_in_nI (by omega) (by omega)
          have v3 : vp_in (ystOut (yinStmt (nI s).toNatClampNeg).toNatClampNeg) 8 := by rw [e, eq, nI_clamp (by omega), ek]; exact vp_in_nI (by omega) (by omega)
          refine br_f a ⟨v1, v2, v3, ?_⟩
          by_cases c : youtLoaded (ystOut (yinStmt (nI s).toNatClampNeg).toNatClampNeg).toNatClampNeg = 0
          · refine br_t c (h1 (lk_ex_t (decide_eq_true ?_)))
            rw [e] at a b c
            exact ⟨b, a, c⟩
          · refine br_f c (nm_r (nI_1 s) (hn (fun y => ?_)))
            rw [e] at c
            exact c (of_decide_eq_true y).2.2
      · refine br_f b (nm_r (nI_1 s) (hn (fun y => b ?_)))
        rw [e]
        exact (of_decide_eq_true y).1
  exact ⟨_, H ni 0 (by omega) h1 h0⟩
end
end
section

section
/-! V: alignment, the greatest alignment, sizes -/
theorem lx_al {post : Int32 → Prop} {x m : Nat} (hA : lk_A m) (hx : x < 2 ^ 30) (h : post (nI (lk_al x m))) : wpX_alignUp post (nI x) (nI m) := by
  unfold wpX_alignUp
  rw [lk_alX hA hx]
  exact h
theorem ly_al {post : Int32 → Prop} {yromSize yramSize yphase ynStmts ynOuts ynGroups ynIns ynBytes ynRelocs yopenOut yinGroup ycur yfinalC0 yfinalC1 : Int32} {ystOp ystA ystB ystOut youtReg youtLoaded youtGroup youtVma youtLma youtSize youtAlign youtRes ygStart ygEnd yinKind yinId yinAlign yinBss yinStart yinLen yinStmt yinLive yinVma yinLma ybytes yrSec yrOff yrType yrTgt yrAdd yrom yram : Nat → Int32} {x m : Nat} (hA : lk_A m) (hx : x < 2 ^ 30) (h : post (nI (lk_al x m))) : wpY_align post (yromSize, yramSize, yphase, ynStmts, ynOuts, ynGroups, ynIns, ynBytes, ynRelocs, yopenOut, yinGroup, ycur, yfinalC0, yfinalC1, ystOp, ystA, ystB, ystOut, youtReg, youtLoaded, youtGroup, youtVma, youtLma, youtSize, youtAlign, youtRes, ygStart, ygEnd, yinKind, yinId, yinAlign, yinBss, yinStart, yinLen, yinStmt, yinLive, yinVma, yinLma, ybytes, yrSec, yrOff, yrType, yrTgt, yrAdd, yrom, yram) (nI x) (nI m) := by
  have hb := lk_A_b hA
  have e := pk_rem (a := x) (d := m) (by omega) (by omega) (by omega)
  rw [lk_al_y hA] at h
  have h1 := Nat.mod_lt x (show 0 < m by omega)
  generalize x % m = r at e h h1
  refine br_t (nI_lt (a := 0) (by omega) (by omega)) ⟨nI_ne0 (by omega) (by omega), nm_r e (br_t (nI_pos' (by omega)) ?_)⟩
  by_cases c : r = 0
  · rw [if_pos c] at h
    exact br_t (by rw [c]; rfl) h
  · rw [if_neg c] at h
    refine br_f (nI_ne0 (by omega) (by omega)) ?_
    have e2 : nI x + nI m - nI r = nI (x + m - r) := by rw [nI_add, pk_sub (by omega)]
    rw [e2]
    exact h
def lk_gp (ow st lv : Nat → Int32) (k : Int32) (s : Nat) : Bool := decide (lv s = 1 ∧ ow (st s).toNatClampNeg = k)
theorem lx_ga {post : Int32 → Prop} {ns no ng ni nb nr : Nat} {xphase xopenOut xopenGroup : Int32} {xregionSize xcounter xmemory xstmtOp xstmtA xstmtB xstmtOwner xoutRegion xoutLoaded xoutGroup xoutAlign xoutVma xoutLma xoutDot xgroupStart xgroupEnd xgroupResident xinKind xinId xinAlign xinSize xinFirstByte xinStmt xinLive xinVma xfedBytes xrelocOwner xrelocOffset xrelocType xrelocTarget xrelocAddend : Nat → Int32} {oy : Nat → Int32} {k : Nat} (h16 : ni ≤ 16) (hl : lk_hl ni no ns xinStmt xinLive xstmtOwner oy) (h : post (lk_ga (lk_gp xstmtOwner xinStmt xinLive (nI k)) xinAlign ni)) : wpX_greatestAlign post (xphase, (nI ns), xopenOut, xopenGroup, (nI no), (nI ng), (nI ni), (nI nb), (nI nr), xregionSize, xcounter, xmemory, xstmtOp, xstmtA, xstmtB, xstmtOwner, xoutRegion, xoutLoaded, xoutGroup, xoutAlign, xoutVma, xoutLma, xoutDot, xgroupStart, xgroupEnd, xgroupResident, xinKind, xinId, xinAlign, xinSize, xinFirstByte, xinStmt, xinLive, xinVma, xfedBytes, xrelocOwner, xrelocOffset, xrelocType, xrelocTarget, xrelocAddend) (nI k) := by
  obtain ⟨l1, l2, l3⟩ := hl
  have H : ∀ d s, s + d = ni → wX_greatestAlign_4 post (nI k) xphase (nI ns) xopenOut xopenGroup (nI no) (nI ng) (nI ni) (nI nb) (nI nr) xregionSize xcounter xmemory xstmtOp xstmtA xstmtB xstmtOwner xoutRegion xoutLoaded xoutGroup xoutAlign xoutVma xoutLma xoutDot xgroupStart xgroupEnd xgroupResident xinKind xinId xinAlign xinSize xinFirstByte xinStmt xinLive xinVma xfedBytes xrelocOwner xrelocOffset xrelocType xrelocTarget xrelocAddend (d + 1) (lk_ga (lk_gp xstmtOwner xinStmt xinLive (nI k)) xinAlign s) (nI s) := by
    intro d
    induction d with
    | zero =>
      intro s hs
      have e1 : s = ni := hs
      subst e1
      exact br_t (nI_le (by omega) (by omega)) h
    | succ d ih =>
      intro s hs
      have e : (nI s).toNatClampNeg = s := nI_clamp (by omega)
      have v1 : vp_in (nI s) 16 := vp_in_nI (by omega) (by omega)
      have hi := ih (s + 1) (by omega)
      rw [lk_ga_s] at hi
      refine br_f (nI_ge (by omega) (by omega)) ⟨v1, ?_⟩
      by_cases a : xinLive (nI s).toNatClampNeg = 1
      · obtain ⟨q, k2, hq, eq, hk, ek, _⟩ := l3 s (by omega) (by rw [e] at a; exact a)
        have v2 : vp_in (xinStmt (nI s).toNatClampNeg) 32 := by rw [e, eq]; exact vp_in_nI (by omega) (by omega)
        refine br_t a ⟨v1, v2, ?_⟩
        by_cases b : xstmtOwner (xinStmt (nI s).toNatClampNeg).toNatClampNeg = nI k
        · refine br_t b ⟨v1, ?_⟩
          by_cases c : xinAlign (nI s).toNatClampNeg ≤ lk_ga (lk_gp xstmtOwner xinStmt xinLive (nI k)) xinAlign s
          · refine br_t c (nm_r (nI_1 s) ?_)
            rw [e] at c
            rw [if_neg (fun y => Int32.not_lt.mpr c y.2)] at hi
            exact hi
          · refine br_f c ⟨v1, nm_r ?_ (nm_r (nI_1 s) hi)⟩
            rw [e] at a b c ⊢
            exact (if_pos ⟨decide_eq_true ⟨a, b⟩, Int32.not_le.mp c⟩).symm
        · refine br_f b (nm_r (nI_1 s) ?_)
          rw [e] at b
          rw [if_neg (fun y => b (of_decide_eq_true y.1).2)] at hi
          exact hi
      · refine br_f a (nm_r (nI_1 s) ?_)
        rw [e] at a
        rw [if_neg (fun y => a (of_decide_eq_true y.1).1)] at hi
        exact hi
  exact ⟨_, H ni 0 (by omega)⟩
theorem ly_ga {post : Int32 → Prop} {R0 R1 ns no ng ni nb nr : Nat} {yphase yopenOut yinGroup ycur yfinalC0 yfinalC1 : Int32} {ystOp ystA ystB ystOut youtReg youtLoaded youtGroup youtVma youtLma youtSize youtAlign youtRes ygStart ygEnd yinKind yinId yinAlign yinBss yinStart yinLen yinStmt yinLive yinVma yinLma ybytes yrSec yrOff yrType yrTgt yrAdd yrom yram : Nat → Int32} {ox : Nat → Int32} {k : Nat} (h16 : ni ≤ 16) (hl : lk_hl ni no ns yinStmt yinLive ox ystOut) (h : post (lk_ga (lk_gp ystOut yinStmt yinLive (nI k)) yinAlign ni)) : wpY_sectionAlign post ((nI R0), (nI R1), yphase, (nI ns), (nI no), (nI ng), (nI ni), (nI nb), (nI nr), yopenOut, yinGroup, ycur, yfinalC0, yfinalC1, ystOp, ystA, ystB, ystOut, youtReg, youtLoaded, youtGroup, youtVma, youtLma, youtSize, youtAlign, youtRes, ygStart, ygEnd, yinKind, yinId, yinAlign, yinBss, yinStart, yinLen, yinStmt, yinLive, yinVma, yinLma, ybytes, yrSec, yrOff, yrType, yrTgt, yrAdd, yrom, yram) (nI k) := by
  obtain ⟨l1, l2, l3⟩ := hl
  have H : ∀ d s, s + d = ni → wY_sectionAlign_4 post (nI k) (nI R0) (nI R1) yphase (nI ns) (nI no) (nI ng) (nI ni) (nI nb) (nI nr) yopenOut yinGroup ycur yfinalC0 yfinalC1 ystOp ystA ystB ystOut youtReg youtLoaded youtGroup youtVma youtLma youtSize youtAlign youtRes ygStart ygEnd yinKind yinId yinAlign yinBss yinStart yinLen yinStmt yinLive yinVma yinLma ybytes yrSec yrOff yrType yrTgt yrAdd yrom yram (d + 1) (lk_ga (lk_gp ystOut yinStmt yinLive (nI k)) yinAlign s) (nI s) := by
    intro d
    induction d with
    | zero =>
      intro s hs
      have e1 : s = ni := hs
      subst e1
      exact br_t (nI_le (by omega) (by omega)) h
    | succ d ih =>
      intro s hs
      have e : (nI s).toNatClampNeg = s := nI_clamp (by omega)
      have v1 : vp_in (nI s) 16 := vp_in_nI (by omega) (by omega)
      have hi := ih (s + 1) (by omega)
      rw [lk_ga_s] at hi
      refine br_f (nI_ge (by omega) (by omega)) (br_f (nI_ge (b := 16) (by omega) (by omega)) ⟨v1, ?_⟩)
      by_cases a : yinLive (nI s).toNatClampNeg = 1
      · obtain ⟨q, k2, hq, eq, hk, _, ek⟩ := l3 s (by omega) (by rw [e] at a; exact a)
        have v2 : vp_in (yinStmt (nI s).toNatClampNeg) 32 := by rw [e, eq]; exact vp_in_nI (by omega) (by omega)
        have v3 : ¬ yinStmt (nI s).toNatClampNeg < 0 := by rw [e, eq]; exact nI_pos (by omega)
        refine br_t a ⟨v1, br_f v3 ⟨v1, v2, ?_⟩⟩
        by_cases b : ystOut (yinStmt (nI s).toNatClampNeg).toNatClampNeg = nI k
        · refine br_t b ⟨v1, ?_⟩
          by_cases c : yinAlign (nI s).toNatClampNeg ≤ lk_ga (lk_gp ystOut yinStmt yinLive (nI k)) yinAlign s
          · refine br_t c (nm_r (nI_1 s) ?_)
            rw [e] at c
            rw [if_neg (fun y => Int32.not_lt.mpr c y.2)] at hi
            exact hi
          · refine br_f c ⟨v1, nm_r ?_ (nm_r (nI_1 s) hi)⟩
            rw [e] at a b c ⊢
            exact (if_pos ⟨decide_eq_true ⟨a, b⟩, Int32.not_le.mp c⟩).symm
        · refine br_f b (nm_r (nI_1 s) ?_)
          rw [e] at b
          rw [if_neg (fun y => b (of_decide_eq_true y.1).2)] at hi
          exact hi
      · refine br_f a (nm_r (nI_1 s) ?_)
        rw [e] at a
        rw [if_neg (fun y => a (of_decide_eq_true y.1).1)] at hi
        exact hi
  exact ⟨_, H ni 0 (by omega)⟩
theorem lk_ga_cg {p q : Nat → Bool} {al : Nat → Int32} : ∀ n, (∀ s, s < n → p s = q s) → lk_ga p al n = lk_ga q al n := by
  intro n
  induction n with
  | zero => intro _; rfl
  | succ n ih =>
    intro h
    rw [lk_ga_s, lk_ga_s, ih (fun s hs => h s (by omega)), h n (Nat.lt_succ_self n)]
theorem lk_gp_cg {ni no ns k : Nat} {st lv ox oy : Nat → Int32} (hl : lk_hl ni no ns st lv ox oy) : ∀ s, s < ni → lk_gp oy st lv (nI k) s = lk_gp ox st lv (nI k) s := by
  intro s hs
  unfold lk_gp
  by_cases a : lv s = 1
  · obtain ⟨q, k2, hq, eq, hk, ek, ek2⟩ := hl.2.2 s hs a
    have := hl.2.1
    rw [eq, nI_clamp (show q < 2 ^ 31 by omega), ek, ek2]
  · rw [decide_eq_false (fun y => a y.1), decide_eq_false (fun y => a y.1)]
/-- the open section's group -/
theorem lk_S_g {op sa sb ox oy rg ld gp : Nat → Int32} {ns : Nat} (h : ∀ i, i < ns → lk_sc op sa sb ox oy rg ld gp i) : ∀ i, i ≤ ns → lk_is op i = true → gp (lk_no op i - 1) = if lk_ig op i = true then nI (lk_ng op i - 1) else -1 := by
  intro i
  induction i with
  | zero => intro _ z; exact Bool.noConfusion z
  | succ i ih =>
    intro hi his
    have sc := h i (by omega)
    unfold lk_sc at sc
    have keep : ∀ c : Int32, op i = c → ¬ c = 1 → ¬ c = 2 → ¬ c = 8 → ¬ c = 9 → gp (lk_no op (i + 1) - 1) = if lk_ig op (i + 1) = true then nI (lk_ng op (i + 1) - 1) else -1 := by
      intro c ec n1 n2 n8 n9
      rw [lk_is_s, ec, if_neg n1, if_neg n2] at his
      rw [lk_no_s, lk_ig_s, lk_ng_s, ec, if_neg n1, if_neg n8, if_neg n9, if_neg n8]
      exact ih (by omega) his
    rcases sc with ⟨e, _, _, _, _, _, _, e3⟩ | ⟨e | e | e, _⟩ | ⟨e | e | e, _⟩ | ⟨e, h2, _⟩ | ⟨e, h2, _⟩
    · rw [lk_no_s, lk_ig_s, lk_ng_s, e, if_pos rfl, if_neg (show ¬ (1 : Int32) = 8 by decide), if_neg (show ¬ (1 : Int32) = 9 by decide), if_neg (show ¬ (1 : Int32) = 8 by decide), Nat.add_sub_cancel, Nat.add_zero]
      exact e3
    · rw [lk_is_s, e, if_neg (by decide), if_pos rfl] at his
      exact Bool.noConfusion his
    · exact keep 3 e (by decide) (by decide) (by decide) (by decide)
    · exact keep 4 e (by decide) (by decide) (by decide) (by decide)
    · exact keep 5 e (by decide) (by decide) (by decide) (by decide)
    · exact keep 6 e (by decide) (by decide) (by decide) (by decide)
    · exact keep 7 e (by decide) (by decide) (by decide) (by decide)
    · rw [lk_is_s, e, if_neg (by decide), if_neg (by decide), h2] at his
      exact Bool.noConfusion his
    · rw [lk_is_s, e, if_neg (by decide), if_neg (by decide), h2] at his
      exact Bool.noConfusion his
end
end
section

section
/-! W: the walk: OP_SECTION -/
theorem lx_41 {post : SX → Prop} {ns no ng ni nb nr : Nat} {xphase xopenOut xopenGroup : Int32} {xregionSize xcounter xmemory xstmtOp xstmtA xstmtB xstmtOwner xoutRegion xoutLoaded xoutGroup xoutAlign xoutVma xoutLma xoutDot xgroupStart xgroupEnd xgroupResident xinKind xinId xinAlign xinSize xinFirstByte xinStmt xinLive xinVma xfedBytes xrelocOwner xrelocOffset xrelocType xrelocTarget xrelocAddend : Nat → Int32} {n m b c v l : Nat} {z r : Int32} (hn : n < 8) (hz : z = nI b) (hr : r = nI m) (hA : lk_A m) (hb : b < 2 ^ 30) (h0 : xcounter 0 = nI c) (hc : c < 2 ^ 30) (hv : v = lk_al b m) (hl : l = if xoutRegion n = 1 ∧ xoutLoaded n = 1 then lk_al c m else v) (h : post (xphase, (nI ns), xopenOut, xopenGroup, (nI no), (nI ng), (nI ni), (nI nb), (nI nr), xregionSize, xcounter, xmemory, xstmtOp, xstmtA, xstmtB, xstmtOwner, xoutRegion, xoutLoaded, xoutGroup, (upd xoutAlign n (nI m)), (upd xoutVma n (nI v)), (upd xoutLma n (nI l)), (upd xoutDot n (nI v)), xgroupStart, xgroupEnd, xgroupResident, xinKind, xinId, xinAlign, xinSize, xinFirstByte, xinStmt, xinLive, xinVma, xfedBytes, xrelocOwner, xrelocOffset, xrelocType, xrelocTarget, xrelocAddend)) : wX_startPlacing_41 post (nI n) r z xphase (nI ns) xopenOut xopenGroup (nI no) (nI ng) (nI ni) (nI nb) (nI nr) xregionSize xcounter xmemory xstmtOp xstmtA xstmtB xstmtOwner xoutRegion xoutLoaded xoutGroup xoutAlign xoutVma xoutLma xoutDot xgroupStart xgroupEnd xgroupResident xinKind xinId xinAlign xinSize xinFirstByte xinStmt xinLive xinVma xfedBytes xrelocOwner xrelocOffset xrelocType xrelocTarget xrelocAddend := by
  have e : (nI n).toNatClampNeg = n := nI_clamp (by omega)
  have v8 : vp_in (nI n) 8 := vp_in_nI hn (by omega)
  subst hz
  subst hr
  subst hv
  refine lx_al hA hb ⟨v8, ?_⟩
  by_cases a : xoutRegion (nI n).toNatClampNeg = 1
  · refine br_t a ⟨v8, ?_⟩
    by_cases b : xoutLoaded (nI n).toNatClampNeg = 1
    · refine br_t b ⟨v8, nm_r (e' := upd xoutAlign n (nI m)) (by rw [e]) ⟨v8, nm_r (e' := upd xoutVma n (nI _)) (by rw [e]) (br_f (by decide) ?_)⟩⟩
      rw [e] at a b
      rw [if_pos ⟨a, b⟩] at hl
      subst hl
      rw [h0]
      exact lx_al hA hc ⟨v8, nm_r (by rw [e]) ⟨v8, nm_r (by rw [e]) h⟩⟩
    · refine br_f b ⟨v8, nm_r (e' := upd xoutAlign n (nI m)) (by rw [e]) ⟨v8, nm_r (e' := upd xoutVma n (nI _)) (by rw [e]) (br_t rfl ?_)⟩⟩
      rw [e] at b
      rw [if_neg (fun y => b y.2)] at hl
      subst hl
      exact ⟨v8, nm_r (by rw [e]) ⟨v8, nm_r (by rw [e]) h⟩⟩
  · refine br_f a ⟨v8, nm_r (e' := upd xoutAlign n (nI m)) (by rw [e]) ⟨v8, nm_r (e' := upd xoutVma n (nI _)) (by rw [e]) (br_t rfl ?_)⟩⟩
    rw [e] at a
    rw [if_neg (fun y => a y.1)] at hl
    subst hl
    exact ⟨v8, nm_r (by rw [e]) ⟨v8, nm_r (by rw [e]) h⟩⟩
theorem ly_153 {post : Int32 → SY → Prop} {J : Int32 → Int32 → Int32 → Int32 → Int32 → Int32 → Int32 → Int32 → Int32 → Int32 → Int32 → (Nat → Int32) → (Nat → Int32) → (Nat → Int32) → (Nat → Int32) → (Nat → Int32) → (Nat → Int32) → (Nat → Int32) → (Nat → Int32) → (Nat → Int32) → (Nat → Int32) → (Nat → Int32) → (Nat → Int32) → (Nat → Int32) → (Nat → Int32) → (Nat → Int32) → (Nat → Int32) → (Nat → Int32) → (Nat → Int32) → (Nat → Int32) → (Nat → Int32) → (Nat → Int32) → (Nat → Int32) → (Nat → Int32) → (Nat → Int32) → (Nat → Int32) → (Nat → Int32) → (Nat → Int32) → (Nat → Int32) → (Nat → Int32) → (Nat → Int32) → (Nat → Int32) → (Nat → Int32) → Prop} {yromSize yramSize yphase ynStmts ynOuts ynGroups ynIns ynBytes ynRelocs yopenOut yinGroup ycur yfinalC0 yfinalC1 : Int32} {ystOp ystA ystB ystOut youtReg youtLoaded youtGroup youtVma youtLma youtSize youtAlign youtRes ygStart ygEnd yinKind yinId yinAlign yinBss yinStart yinLen yinStmt yinLive yinVma yinLma ybytes yrSec yrOff yrType yrTgt yrAdd yrom yram : Nat → Int32} {x1 x2 x3 x4 x5 x8 x10 x15 z0 : Int32} {n i : Nat} (hn : n < 8) (h : J x1 x2 x3 x4 x5 (nI n) x8 x8 z0 x10 (nI (i + 1)) ystOp ystA ystB ystOut youtReg youtLoaded youtGroup (upd youtVma n x8) (upd youtLma n z0) youtSize (upd youtAlign n x15) youtRes ygStart ygEnd yinKind yinId yinAlign yinBss yinStart yinLen yinStmt yinLive yinVma yinLma ybytes yrSec yrOff yrType yrTgt yrAdd yrom yram) : wY_walk_153 post J x1 x2 x3 x4 x5 (nI n) x8 x10 (nI i) x15 z0 yromSize yramSize yphase ynStmts ynOuts ynGroups ynIns ynBytes ynRelocs yopenOut yinGroup ycur yfinalC0 yfinalC1 ystOp ystA ystB ystOut youtReg youtLoaded youtGroup youtVma youtLma youtSize youtAlign youtRes ygStart ygEnd yinKind yinId yinAlign yinBss yinStart yinLen yinStmt yinLive yinVma yinLma ybytes yrSec yrOff yrType yrTgt yrAdd yrom yram := by
  have e : (nI n).toNatClampNeg = n := nI_clamp (by omega)
  have v8 : vp_in (nI n) 8 := vp_in_nI hn (by omega)
  exact ⟨v8, nm_r (by rw [e]) ⟨v8, nm_r (by rw [e]) ⟨v8, nm_r (by rw [e]) (nm_r (nI_1 i) h)⟩⟩⟩
theorem ly_117 {post : Int32 → SY → Prop} {J : Int32 → Int32 → Int32 → Int32 → Int32 → Int32 → Int32 → Int32 → Int32 → Int32 → Int32 → (Nat → Int32) → (Nat → Int32) → (Nat → Int32) → (Nat → Int32) → (Nat → Int32) → (Nat → Int32) → (Nat → Int32) → (Nat → Int32) → (Nat → Int32) → (Nat → Int32) → (Nat → Int32) → (Nat → Int32) → (Nat → Int32) → (Nat → Int32) → (Nat → Int32) → (Nat → Int32) → (Nat → Int32) → (Nat → Int32) → (Nat → Int32) → (Nat → Int32) → (Nat → Int32) → (Nat → Int32) → (Nat → Int32) → (Nat → Int32) → (Nat → Int32) → (Nat → Int32) → (Nat → Int32) → (Nat → Int32) → (Nat → Int32) → (Nat → Int32) → (Nat → Int32) → (Nat → Int32) → Prop} {yromSize yramSize yphase ynStmts ynOuts ynGroups ynIns ynBytes ynRelocs yopenOut yinGroup ycur yfinalC0 yfinalC1 : Int32} {ystOp ystA ystB ystOut youtReg youtLoaded youtGroup youtVma youtLma youtSize youtAlign youtRes ygStart ygEnd yinKind yinId yinAlign yinBss yinStart yinLen yinStmt yinLive yinVma yinLma ybytes yrSec yrOff yrType yrTgt yrAdd yrom yram : Nat → Int32} {x2 x3 x4 x5 x10 x13 x14 z r : Int32} {n i m b c v l : Nat} (hn : n < 8) (hz : z = nI b) (hr : r = nI m) (hA : lk_A m) (hb : b < 2 ^ 30) (hc : c < 2 ^ 30) (hv : v = lk_al b m) (hl : l = if x13 = 1 ∧ x14 = 1 then lk_al c m else v) (h : J (nI c) x2 x3 x4 x5 (nI n) (nI v) (nI v) (nI l) x10 (nI (i + 1)) ystOp ystA ystB ystOut youtReg youtLoaded youtGroup (upd youtVma n (nI v)) (upd youtLma n (nI l)) youtSize (upd youtAlign n (nI m)) youtRes ygStart ygEnd yinKind yinId yinAlign yinBss yinStart yinLen yinStmt yinLive yinVma yinLma ybytes yrSec yrOff yrType yrTgt yrAdd yrom yram) : wY_walk_117 post J (nI c) x2 x3 x4 x5 (nI n) x10 (nI i) x13 x14 r z yromSize yramSize yphase ynStmts ynOuts ynGroups ynIns ynBytes ynRelocs yopenOut yinGroup ycur yfinalC0 yfinalC1 ystOp ystA ystB ystOut youtReg youtLoaded youtGroup youtVma youtLma youtSize youtAlign youtRes ygStart ygEnd yinKind yinId yinAlign yinBss yinStart yinLen yinStmt yinLive yinVma yinLma ybytes yrSec yrOff yrType yrTgt yrAdd yrom yram := by
  subst hz
  subst hr
  subst hv
  refine ly_al hA hb ?_
  by_cases a : x13 = 1
  · refine br_t a ?_
    by_cases b : x14 = 1
    · rw [if_pos ⟨a, b⟩] at hl
      subst hl
      exact br_t b (ly_al hA hc (ly_153 hn h))
    · rw [if_neg (fun y => b y.2)] at hl
      subst hl
      exact br_f b (ly_153 hn h)
  · rw [if_neg (fun y => a y.1)] at hl
    subst hl
    exact br_f a (ly_153 hn h)
theorem lk_w_sec {ns no ng ni nb nr R0 R1 : Nat} {xphase xopenOut xopenGroup yinGroup yfinalC0 yfinalC1 : Int32} {xregionSize xcounter xmemory xstmtOp xstmtA xstmtB xstmtOwner xoutRegion xoutLoaded xoutGroup xoutAlign xoutVma xoutLma xoutDot xgroupStart xgroupEnd xgroupResident xinKind xinId xinAlign xinSize xinFirstByte xinStmt xinLive xinVma xfedBytes xrelocOwner xrelocOffset xrelocType xrelocTarget xrelocAddend ystOut youtSize youtRes ygStart ygEnd yinBss yinLen yinVma yinLma yrom yram : Nat → Int32} {i C0 C1 : Nat} {V L D G0 GE IV : Nat → Nat} {c0 c1 g0 yge grp kk dot vma lma ing : Int32} (hS : ∀ i, i < ns → lk_sc xstmtOp xstmtA xstmtB xstmtOwner ystOut xoutRegion xoutLoaded xoutGroup i) (hno : no = lk_no xstmtOp ns) (hng : ng = lk_ng xstmtOp ns) (h8 : no ≤ 8) (h4 : ng ≤ 4) (hN : lk_N ni nb xinKind xinAlign xinSize xinFirstByte yinBss yinLen) (hA : lk_hA ni ns xstmtOp xinStmt xinLive) (hl : lk_hl ni no ns xinStmt xinLive xstmtOwner ystOut) (hi : i < ns) (hW : lk_WI ni xstmtOp xoutRegion xoutLoaded xinStmt xinLive (fun s => (xstmtOwner (xinStmt s).toNatClampNeg).toNatClampNeg) (fun s => (xinSize s).toNatClampNeg) i C0 C1 V L D G0 GE IV xcounter xoutVma xoutLma xoutDot xgroupStart xgroupEnd xinVma youtSize ygStart ygEnd yinVma yinLma c0 c1 g0 yge grp kk dot vma lma ing) (ho : xstmtOp i = 1) : ∃ (C0' C1' : Nat) (V' L' D' G0' GE' IV' : Nat → Nat) (ct oa vm lm dt gs ge xv os yg0 yg1 yv yl : Nat → Int32) (d0 d1 d2 d3 d4 d5 d6 d7 d8 d9 : Int32), lk_WI ni xstmtOp xoutRegion xoutLoaded xinStmt xinLive (fun s => (xstmtOwner (xinStmt s).toNatClampNeg).toNatClampNeg) (fun s => (xinSize s).toNatClampNeg) (i + 1) C0' C1' V' L' D' G0' GE' IV' ct vm lm dt gs ge xv os yg0 yg1 yv yl d0 d1 d2 d3 d4 d5 d6 d7 d8 d9 ∧ (∀ post : Int32 → SX → Prop, post 1 (xphase, (nI ns), xopenOut, xopenGroup, (nI no), (nI ng), (nI ni), (nI nb), (nI nr), xregionSize, ct, xmemory, xstmtOp, xstmtA, xstmtB, xstmtOwner, xoutRegion, xoutLoaded, xoutGroup, oa, vm, lm, dt, gs, ge, xgroupResident, xinKind, xinId, xinAlign, xinSize, xinFirstByte, xinStmt, xinLive, xv, xfedBytes, xrelocOwner, xrelocOffset, xrelocType, xrelocTarget, xrelocAddend) → wpX_place post (xphase, (nI ns), xopenOut, xopenGroup, (nI no), (nI ng), (nI ni), (nI nb), (nI nr), xregionSize, xcounter, xmemory, xstmtOp, xstmtA, xstmtB, xstmtOwner, xoutRegion, xoutLoaded, xoutGroup, xoutAlign, xoutVma, xoutLma, xoutDot, xgroupStart, xgroupEnd, xgroupResident, xinKind, xinId, xinAlign, xinSize, xinFirstByte, xinStmt, xinLive, xinVma, xfedBytes, xrelocOwner, xrelocOffset, xrelocType, xrelocTarget, xrelocAddend) (nI i)) ∧ (∀ (post : Int32 → SY → Prop) (n : Nat), wY_walk_32 post (nI R0) (nI R1) xphase (nI ns) (nI no) (nI ng) (nI ni) (nI nb) (nI nr) xopenOut yinGroup (nI ni - 1) yfinalC0 yfinalC1 n d0 d1 d2 d3 d4 d5 d6 d7 d8 d9 (nI (i + 1)) xstmtOp xstmtA xstmtB ystOut xoutRegion xoutLoaded xoutGroup vm lm os oa youtRes yg0 yg1 xinKind xinId xinAlign yinBss xinFirstByte yinLen xinStmt xinLive yv yl xfedBytes xrelocOwner xrelocOffset xrelocType xrelocTarget xrelocAddend yrom yram → wY_walk_32 post (nI R0) (nI R1) xphase (nI ns) (nI no) (nI ng) (nI ni) (nI nb) (nI nr) xopenOut yinGroup (nI ni - 1) yfinalC0 yfinalC1 (n + 1) c0 c1 g0 yge grp kk dot vma lma ing (nI i) xstmtOp xstmtA xstmtB ystOut xoutRegion xoutLoaded xoutGroup xoutVma xoutLma youtSize xoutAlign youtRes ygStart ygEnd xinKind xinId xinAlign yinBss xinFirstByte yinLen xinStmt xinLive yinVma yinLma xfedBytes xrelocOwner xrelocOffset xrelocType xrelocTarget xrelocAddend yrom yram) := by
  have n32 := hA.1
  have e : (nI i).toNatClampNeg = i := nI_clamp (by omega)
  have vi : vp_in (nI i) 32 := vp_in_nI (by omega) (by omega)
  have sc : xstmtOp i = 1 ∧ lk_is xstmtOp i = false ∧ ((xstmtA i = 0 ∧ xstmtB i = 1 ∧ lk_ig xstmtOp i = false) ∨ (xstmtA i = 1 ∧ (xstmtB i = 0 ∨ xstmtB i = 1))) ∧ xstmtOwner i = nI (lk_no xstmtOp i) ∧ ystOut i = nI (lk_no xstmtOp i) ∧ xoutRegion (lk_no xstmtOp i) = xstmtA i ∧ xoutLoaded (lk_no xstmtOp i) = xstmtB i ∧ xoutGroup (lk_no xstmtOp i) = (if lk_ig xstmtOp i = true then nI (lk_ng xstmtOp i - 1) else -1) := by
    rcases hS i hi with h | ⟨h | h | h, _⟩ | ⟨h | h | h, _⟩ | ⟨h, _⟩ | ⟨h, _⟩
    · exact h
    all_goals rw [ho] at h; exact absurd h (by decide)
  obtain ⟨_, his, hab, eox, eoy, erg, eld, egp⟩ := sc
  have hlt := lk_no_lt ho hi
  rw [← hno] at hlt
  obtain ⟨m, hm, em⟩ := lk_ga_A (p := lk_gp xstmtOwner xinStmt xinLive (nI (lk_no xstmtOp i))) (al := xinAlign) ni (fun s hs => by obtain ⟨A, _, _, _, a1, a2, _⟩ := hN.2.2 s hs; exact ⟨A, a1, a2⟩)
  have emy : lk_ga (lk_gp ystOut xinStmt xinLive (nI (lk_no xstmtOp i))) xinAlign ni = nI m := by rw [lk_ga_cg ni (lk_gp_cg hl), em]
  have hW2 := hW
  unfold lk_WI at hW2
  obtain ⟨⟨⟨g1, g2, g3, _, _⟩, _, _, _, _, g6, _⟩, ⟨w1, w2, w3, w4⟩, _, _, w5, _, _, ⟨w6, _, w7⟩, _⟩ := hW2
  have nglt := lk_ng_m (op := xstmtOp) (i := i) (ns - i)
  rw [show i + (ns - i) = ns by omega, ← hng] at nglt
  have hmb := lk_A_b hm
  -- the base
  have base : ∃ b, 0 ≤ b ∧ b ≤ 2000 + 4700 * i ∧ (xstmtA i = 1 → 256 ≤ b) ∧ (xstmtA i = 0 → b = C0) ∧
      ((lk_ig xstmtOp i = false ∧ xoutGroup (lk_no xstmtOp i) = -1 ∧ ing = 0 ∧ xcounter (xstmtA i).toNatClampNeg = nI b ∧ ((xstmtA i = 0 ∧ c0 = nI b) ∨ (¬ xstmtA i = 0 ∧ c1 = nI b))) ∨
       (xstmtA i = 1 ∧ ∃ g, g < 4 ∧ xoutGroup (lk_no xstmtOp i) = nI g ∧ ¬ ing = 0 ∧ xgroupStart g = nI b ∧ g0 = nI b)) := by
    rcases Bool.eq_false_or_eq_true (lk_ig xstmtOp i) with hig | hig
    · have ha : xstmtA i = 1 := by
        rcases hab with ⟨_, _, z⟩ | ⟨z, _⟩
        · rw [hig] at z; exact Bool.noConfusion z
        · exact z
      obtain ⟨p1, p2, _⟩ := w7 hig
      obtain ⟨q1, q2, q3, _⟩ := g6 (lk_ng xstmtOp i - 1) (by omega)
      refine ⟨G0 (lk_ng xstmtOp i - 1), Nat.zero_le _, by omega, fun _ => q1, fun z => ?_, Or.inr ⟨ha, lk_ng xstmtOp i - 1, by omega, ?_, ?_, (w5 _ (by omega)).1, p2⟩⟩
      · rw [ha] at z; exact absurd z (by decide)
      · rw [egp, if_pos hig]
      · rw [w6, if_pos hig]; decide
    · rcases hab with ⟨ha, _, _⟩ | ⟨ha, _⟩
      · refine ⟨C0, Nat.zero_le _, g1, fun z => ?_, fun _ => rfl, Or.inl ⟨hig, ?_, ?_, ?_, Or.inl ⟨ha, w3⟩⟩⟩
        · rw [ha] at z; exact absurd z (by decide)
        · rw [egp, hig, if_neg (by decide)]
        · rw [w6, hig, if_neg (by decide)]
        · rw [ha]; exact w1
      · refine ⟨C1, Nat.zero_le _, g2, fun _ => g3, fun z => ?_, Or.inl ⟨hig, ?_, ?_, ?_, Or.inr ⟨?_, w4⟩⟩⟩
        · rw [ha] at z; exact absurd z (by decide)
        · rw [egp, hig, if_neg (by decide)]
        · rw [w6, hig, if_neg (by decide)]
        · rw [ha]; exact w2
        · rw [ha]; decide
  obtain ⟨b, _, hb, hb256, hb0, hbase⟩ := base
  have hv := lk_al_b (x := b) hm
  have hc := lk_al_b (x := C0) hm
  obtain ⟨l, el⟩ : ∃ l, l = if xstmtA i = 1 ∧ xstmtB i = 1 then lk_al C0 m else lk_al b m := ⟨_, rfl⟩
  have hl1 : l ≤ 2000 + 4700 * i + 15 := by
    rw [el]; split <;> omega
  have hl2 : xoutRegion (lk_no xstmtOp i) = 0 → l = lk_al b m := by
    intro z
    rw [erg] at z
    rw [el, if_neg]
    intro y
    rw [z] at y
    exact absurd y.1 (by decide)
  have hl3 : xoutLoaded (lk_no xstmtOp i) = 1 → C0 ≤ l := by
    intro z
    rw [eld] at z
    rcases hab with ⟨ha, _, _⟩ | ⟨ha, _⟩
    · rw [el, if_neg (by rw [ha]; intro y; exact absurd y.1 (by decide)), hb0 ha]
      exact hc.1
    · rw [el, if_pos ⟨ha, z⟩]
      exact hc.1
  have WI' := lk_V_sec (v := lk_al b m) (l := l) hW hA hi ho his (by omega) hl1 (fun z => by have := hb256 (erg ▸ z); omega) hl2 hl3
  refine ⟨_, _, _, _, _, _, _, _, _, upd xoutAlign (lk_no xstmtOp i) (nI m), _, _, _, _, _, _, _, _, _, _, _, _, _, _, _, _, _, _, _, _, _, WI', fun post hp => ?_, fun post n hp => ?_⟩
  · have en : (nI (lk_no xstmtOp i)).toNatClampNeg = lk_no xstmtOp i := nI_clamp (by omega)
    have vn : vp_in (nI (lk_no xstmtOp i)) 8 := vp_in_nI (by omega) (by omega)
    have el' : l = if xoutRegion (lk_no xstmtOp i) = 1 ∧ xoutLoaded (lk_no xstmtOp i) = 1 then lk_al C0 m else lk_al b m := by rw [erg, eld]; exact el
    refine ⟨vi, nm_r (e' := nI (lk_no xstmtOp i)) (by rw [e, eox]) ⟨vi, nm_r (e' := 1) (by rw [e, ho]) ?_⟩⟩
    refine br_f (by decide) (br_f (by decide) (br_t rfl ?_))
    refine lx_ga hN.1 hl ⟨vn, ?_⟩
    rcases hbase with ⟨hig, z1, z2, z3, _⟩ | ⟨ha, g, hg, z1, z2, z3, _⟩
    · refine br_t (by rw [en]; exact z1) ⟨vn, ?_, lx_41 (by omega) (by rw [en, erg]; exact z3) em hm (by omega) w1 (by omega) rfl el' hp⟩
      rw [en, erg]
      rcases hab with ⟨ha, _, _⟩ | ⟨ha, _⟩
      · rw [ha]; exact vp_in_iff.mpr (by decide)
      · rw [ha]; exact vp_in_iff.mpr (by decide)
    · refine br_f (by rw [en, z1]; exact lk_nn1 (by omega)) ⟨vn, ?_, lx_41 (by omega) (by rw [en, z1, nI_clamp (by omega)]; exact z3) em hm (by omega) w1 (by omega) rfl el' hp⟩
      rw [en, z1]
      exact vp_in_nI hg (by omega)
  · refine br_f (nI_ge hi (by omega)) (br_f (nI_ge (b := 32) (by omega) (by omega)) ⟨vi, nm_r (e' := 1) (by rw [e, ho]) ⟨vi, nm_r (e' := xstmtA i) (by rw [e]) ⟨vi, nm_r (e' := xstmtB i) (by rw [e]) (br_t rfl ⟨vi, nm_r (e' := nI (lk_no xstmtOp i)) (by rw [e, eoy]) (ly_ga hN.1 hl ?_)⟩)⟩⟩⟩)
    rw [w3] at hp ⊢
    rcases hbase with ⟨hig, z1, z2, z3, z4⟩ | ⟨ha, g, hg, z1, z2, z3, z4⟩
    · refine br_t z2 ?_
      rcases z4 with ⟨ha, z5⟩ | ⟨ha, z5⟩
      · exact br_t ha (ly_117 (by omega) (w3.symm.trans z5) emy hm (by omega) (by omega) rfl el hp)
      · exact br_f ha (ly_117 (by omega) z5 emy hm (by omega) (by omega) rfl el hp)
    · exact br_f z2 (ly_117 (by omega) z4 emy hm (by omega) (by omega) rfl el hp)
end
end
section

section
/-! X: the walk: OP_END -/
theorem lx_59 {post : SX → Prop} {ns no ng ni nb nr : Nat} {xphase xopenOut xopenGroup : Int32} {xregionSize xcounter xmemory xstmtOp xstmtA xstmtB xstmtOwner xoutRegion xoutLoaded xoutGroup xoutAlign xoutVma xoutLma xoutDot xgroupStart xgroupEnd xgroupResident xinKind xinId xinAlign xinSize xinFirstByte xinStmt xinLive xinVma xfedBytes xrelocOwner xrelocOffset xrelocType xrelocTarget xrelocAddend : Nat → Int32} {c l d v : Nat} (hc : c < 8) (el : xoutLma c = nI l) (ed : xoutDot c = nI d) (ev : xoutVma c = nI v) (hvd : v ≤ d) (h1 : xoutLoaded c = 1 → post (xphase, (nI ns), xopenOut, xopenGroup, (nI no), (nI ng), (nI ni), (nI nb), (nI nr), xregionSize, (upd xcounter 0 (nI (l + (d - v)))), xmemory, xstmtOp, xstmtA, xstmtB, xstmtOwner, xoutRegion, xoutLoaded, xoutGroup, xoutAlign, xoutVma, xoutLma, xoutDot, xgroupStart, xgroupEnd, xgroupResident, xinKind, xinId, xinAlign, xinSize, xinFirstByte, xinStmt, xinLive, xinVma, xfedBytes, xrelocOwner, xrelocOffset, xrelocType, xrelocTarget, xrelocAddend)) (h0 : ¬ xoutLoaded c = 1 → post (xphase, (nI ns), xopenOut, xopenGroup, (nI no), (nI ng), (nI ni), (nI nb), (nI nr), xregionSize, xcounter, xmemory, xstmtOp, xstmtA, xstmtB, xstmtOwner, xoutRegion, xoutLoaded, xoutGroup, xoutAlign, xoutVma, xoutLma, xoutDot, xgroupStart, xgroupEnd, xgroupResident, xinKind, xinId, xinAlign, xinSize, xinFirstByte, xinStmt, xinLive, xinVma, xfedBytes, xrelocOwner, xrelocOffset, xrelocType, xrelocTarget, xrelocAddend)) : wX_endPlacing_59 post (nI c) xphase (nI ns) xopenOut xopenGroup (nI no) (nI ng) (nI ni) (nI nb) (nI nr) xregionSize xcounter xmemory xstmtOp xstmtA xstmtB xstmtOwner xoutRegion xoutLoaded xoutGroup xoutAlign xoutVma xoutLma xoutDot xgroupStart xgroupEnd xgroupResident xinKind xinId xinAlign xinSize xinFirstByte xinStmt xinLive xinVma xfedBytes xrelocOwner xrelocOffset xrelocType xrelocTarget xrelocAddend := by
  have e : (nI c).toNatClampNeg = c := nI_clamp (by omega)
  have v8 : vp_in (nI c) 8 := vp_in_nI hc (by omega)
  refine ⟨v8, ?_⟩
  by_cases a : xoutLoaded (nI c).toNatClampNeg = 1
  · refine br_t a ⟨v8, v8, v8, nm_r ?_ (h1 (by rw [e] at a; exact a))⟩
    rw [e, el, ed, ev, pk_sub hvd, nI_add]
  · exact br_f a (h0 (by rw [e] at a; exact a))
theorem ly_261 {post : Int32 → SY → Prop} {J : Int32 → Int32 → Int32 → Int32 → Int32 → Int32 → Int32 → Int32 → Int32 → Int32 → Int32 → (Nat → Int32) → (Nat → Int32) → (Nat → Int32) → (Nat → Int32) → (Nat → Int32) → (Nat → Int32) → (Nat → Int32) → (Nat → Int32) → (Nat → Int32) → (Nat → Int32) → (Nat → Int32) → (Nat → Int32) → (Nat → Int32) → (Nat → Int32) → (Nat → Int32) → (Nat → Int32) → (Nat → Int32) → (Nat → Int32) → (Nat → Int32) → (Nat → Int32) → (Nat → Int32) → (Nat → Int32) → (Nat → Int32) → (Nat → Int32) → (Nat → Int32) → (Nat → Int32) → (Nat → Int32) → (Nat → Int32) → (Nat → Int32) → (Nat → Int32) → (Nat → Int32) → (Nat → Int32) → Prop} {yromSize yramSize yphase ynStmts ynOuts ynGroups ynIns ynBytes ynRelocs yopenOut yinGroup ycur yfinalC0 yfinalC1 : Int32} {ystOp ystA ystB ystOut youtReg youtLoaded youtGroup youtVma youtLma youtSize youtAlign youtRes ygStart ygEnd yinKind yinId yinAlign yinBss yinStart yinLen yinStmt yinLive yinVma yinLma ybytes yrSec yrOff yrType yrTgt yrAdd yrom yram : Nat → Int32} {x1 x2 x3 x4 x5 x7 x8 x10 : Int32} {c l s i : Nat} (hc : c < 8) (h1 : youtLoaded c = 1 → J (nI (l + s)) x2 x3 x4 x5 (-1) x7 x8 (nI l) x10 (nI (i + 1)) ystOp ystA ystB ystOut youtReg youtLoaded youtGroup youtVma youtLma youtSize youtAlign youtRes ygStart ygEnd yinKind yinId yinAlign yinBss yinStart yinLen yinStmt yinLive yinVma yinLma ybytes yrSec yrOff yrType yrTgt yrAdd yrom yram) (h0 : ¬ youtLoaded c = 1 → J x1 x2 x3 x4 x5 (-1) x7 x8 (nI l) x10 (nI (i + 1)) ystOp ystA ystB ystOut youtReg youtLoaded youtGroup youtVma youtLma youtSize youtAlign youtRes ygStart ygEnd yinKind yinId yinAlign yinBss yinStart yinLen yinStmt yinLive yinVma yinLma ybytes yrSec yrOff yrType yrTgt yrAdd yrom yram) : wY_walk_261 post J x1 x2 x3 x4 x5 (nI c) x7 x8 (nI l) x10 (nI i) (nI s) yromSize yramSize yphase ynStmts ynOuts ynGroups ynIns ynBytes ynRelocs yopenOut yinGroup ycur yfinalC0 yfinalC1 ystOp ystA ystB ystOut youtReg youtLoaded youtGroup youtVma youtLma youtSize youtAlign youtRes ygStart ygEnd yinKind yinId yinAlign yinBss yinStart yinLen yinStmt yinLive yinVma yinLma ybytes yrSec yrOff yrType yrTgt yrAdd yrom yram := by
  have e : (nI c).toNatClampNeg = c := nI_clamp (by omega)
  have v8 : vp_in (nI c) 8 := vp_in_nI hc (by omega)
  refine ⟨v8, ?_⟩
  by_cases a : youtLoaded (nI c).toNatClampNeg = 1
  · exact br_t a (nm_r (nI_add l s) (nm_r (nI_1 i) (h1 (by rw [e] at a; exact a))))
  · exact br_f a (nm_r (nI_1 i) (h0 (by rw [e] at a; exact a)))
theorem lk_w_end {ns no ng ni nb nr R0 R1 : Nat} {xphase xopenOut xopenGroup yinGroup yfinalC0 yfinalC1 : Int32} {xregionSize xcounter xmemory xstmtOp xstmtA xstmtB xstmtOwner xoutRegion xoutLoaded xoutGroup xoutAlign xoutVma xoutLma xoutDot xgroupStart xgroupEnd xgroupResident xinKind xinId xinAlign xinSize xinFirstByte xinStmt xinLive xinVma xfedBytes xrelocOwner xrelocOffset xrelocType xrelocTarget xrelocAddend ystOut youtSize youtRes ygStart ygEnd yinBss yinLen yinVma yinLma yrom yram : Nat → Int32} {i C0 C1 : Nat} {V L D G0 GE IV : Nat → Nat} {c0 c1 g0 yge grp kk dot vma lma ing : Int32} (hS : ∀ i, i < ns → lk_sc xstmtOp xstmtA xstmtB xstmtOwner ystOut xoutRegion xoutLoaded xoutGroup i) (hno : no = lk_no xstmtOp ns) (hng : ng = lk_ng xstmtOp ns) (h8 : no ≤ 8) (h4 : ng ≤ 4) (hN : lk_N ni nb xinKind xinAlign xinSize xinFirstByte yinBss yinLen) (hA : lk_hA ni ns xstmtOp xinStmt xinLive) (hl : lk_hl ni no ns xinStmt xinLive xstmtOwner ystOut) (hi : i < ns) (hW : lk_WI ni xstmtOp xoutRegion xoutLoaded xinStmt xinLive (fun s => (xstmtOwner (xinStmt s).toNatClampNeg).toNatClampNeg) (fun s => (xinSize s).toNatClampNeg) i C0 C1 V L D G0 GE IV xcounter xoutVma xoutLma xoutDot xgroupStart xgroupEnd xinVma youtSize ygStart ygEnd yinVma yinLma c0 c1 g0 yge grp kk dot vma lma ing) (ho : xstmtOp i = 2) : ∃ (C0' C1' : Nat) (V' L' D' G0' GE' IV' : Nat → Nat) (ct oa vm lm dt gs ge xv os yg0 yg1 yv yl : Nat → Int32) (d0 d1 d2 d3 d4 d5 d6 d7 d8 d9 : Int32), lk_WI ni xstmtOp xoutRegion xoutLoaded xinStmt xinLive (fun s => (xstmtOwner (xinStmt s).toNatClampNeg).toNatClampNeg) (fun s => (xinSize s).toNatClampNeg) (i + 1) C0' C1' V' L' D' G0' GE' IV' ct vm lm dt gs ge xv os yg0 yg1 yv yl d0 d1 d2 d3 d4 d5 d6 d7 d8 d9 ∧ (∀ post : Int32 → SX → Prop, post 1 (xphase, (nI ns), xopenOut, xopenGroup, (nI no), (nI ng), (nI ni), (nI nb), (nI nr), xregionSize, ct, xmemory, xstmtOp, xstmtA, xstmtB, xstmtOwner, xoutRegion, xoutLoaded, xoutGroup, oa, vm, lm, dt, gs, ge, xgroupResident, xinKind, xinId, xinAlign, xinSize, xinFirstByte, xinStmt, xinLive, xv, xfedBytes, xrelocOwner, xrelocOffset, xrelocType, xrelocTarget, xrelocAddend) → wpX_place post (xphase, (nI ns), xopenOut, xopenGroup, (nI no), (nI ng), (nI ni), (nI nb), (nI nr), xregionSize, xcounter, xmemory, xstmtOp, xstmtA, xstmtB, xstmtOwner, xoutRegion, xoutLoaded, xoutGroup, xoutAlign, xoutVma, xoutLma, xoutDot, xgroupStart, xgroupEnd, xgroupResident, xinKind, xinId, xinAlign, xinSize, xinFirstByte, xinStmt, xinLive, xinVma, xfedBytes, xrelocOwner, xrelocOffset, xrelocType, xrelocTarget, xrelocAddend) (nI i)) ∧ (∀ (post : Int32 → SY → Prop) (n : Nat), wY_walk_32 post (nI R0) (nI R1) xphase (nI ns) (nI no) (nI ng) (nI ni) (nI nb) (nI nr) xopenOut yinGroup (nI ni - 1) yfinalC0 yfinalC1 n d0 d1 d2 d3 d4 d5 d6 d7 d8 d9 (nI (i + 1)) xstmtOp xstmtA xstmtB ystOut xoutRegion xoutLoaded xoutGroup vm lm os oa youtRes yg0 yg1 xinKind xinId xinAlign yinBss xinFirstByte yinLen xinStmt xinLive yv yl xfedBytes xrelocOwner xrelocOffset xrelocType xrelocTarget xrelocAddend yrom yram → wY_walk_32 post (nI R0) (nI R1) xphase (nI ns) (nI no) (nI ng) (nI ni) (nI nb) (nI nr) xopenOut yinGroup (nI ni - 1) yfinalC0 yfinalC1 (n + 1) c0 c1 g0 yge grp kk dot vma lma ing (nI i) xstmtOp xstmtA xstmtB ystOut xoutRegion xoutLoaded xoutGroup xoutVma xoutLma youtSize xoutAlign youtRes ygStart ygEnd xinKind xinId xinAlign yinBss xinFirstByte yinLen xinStmt xinLive yinVma yinLma xfedBytes xrelocOwner xrelocOffset xrelocType xrelocTarget xrelocAddend yrom yram) := by
  have n32 := hA.1
  have e : (nI i).toNatClampNeg = i := nI_clamp (by omega)
  have vi : vp_in (nI i) 32 := vp_in_nI (by omega) (by omega)
  have sc : lk_is xstmtOp i = true ∧ xstmtOwner i = nI (lk_no xstmtOp i - 1) := by
    rcases hS i hi with ⟨h, _⟩ | ⟨_, h1, h2, _⟩ | ⟨h | h | h, _⟩ | ⟨h, _⟩ | ⟨h, _⟩
    · rw [ho] at h; exact absurd h (by decide)
    · exact ⟨h1, h2⟩
    all_goals rw [ho] at h; exact absurd h (by decide)
  obtain ⟨his, eox⟩ := sc
  have hgp := lk_S_g hS i (by omega) his
  have nm := lk_no_m (op := xstmtOp) (i := i) (ns - i)
  rw [show i + (ns - i) = ns by omega, ← hno] at nm
  have nglt := lk_ng_m (op := xstmtOp) (i := i) (ns - i)
  rw [show i + (ns - i) = ns by omega, ← hng] at nglt
  have hnt := lk_nc_t his
  have hof := lk_S_o hS ns (Nat.le_refl ns) (lk_nc xstmtOp i) (by omega)
  rw [show lk_no xstmtOp i - 1 = lk_nc xstmtOp i by omega] at eox hgp
  have hW2 := hW
  unfold lk_WI at hW2
  obtain ⟨⟨⟨g1, g2, g3, _, _⟩, g4, _, _, g5, g6, _⟩, ⟨w1, w2, w3, w4⟩, w8, _, w5, _, _, ⟨w6, _, w7⟩, w9, _⟩ := hW2
  obtain ⟨b1, b2, b3, b4, b5⟩ := g4 (lk_nc xstmtOp i) (by omega)
  have b6 := g5 (by omega)
  obtain ⟨ev, el, ed⟩ := w8 (lk_nc xstmtOp i) (by omega)
  obtain ⟨k1, k2, k3, k4⟩ := w9 (by omega)
  have V' := fun {C0' C1' : Nat} {GE' : Nat → Nat} {ct' ge' : Nat → Int32} {c0' c1' yge' : Int32} => lk_V_end (C0' := C0') (C1' := C1') (GE' := GE') (ct' := ct') (ge' := ge') (c0' := c0') (c1' := c1') (yge' := yge') hW hA hi ho his
  generalize lk_nc xstmtOp i = c at *
  have hc8 : c < 8 := by omega
  have ec : (nI c).toNatClampNeg = c := nI_clamp (by omega)
  have vc : vp_in (nI c) 8 := vp_in_nI hc8 (by omega)
  have esz : dot - vma = nI (D c - V c) := by rw [k2, k3, pk_sub b1]
  have evs : vma + nI (D c - V c) = nI (V c + (D c - V c)) := by rw [k3, nI_add]
  have evd : V c + (D c - V c) = D c := by omega
  have hge : ∀ g, g < lk_ng xstmtOp i → xgroupEnd g = nI (GE g) := fun g hg => (w5 g hg).2
  have xpre : ∀ (post : Int32 → SX → Prop), wpX_endPlacing (fun u => post 1 u) (xphase, (nI ns), xopenOut, xopenGroup, (nI no), (nI ng), (nI ni), (nI nb), (nI nr), xregionSize, xcounter, xmemory, xstmtOp, xstmtA, xstmtB, xstmtOwner, xoutRegion, xoutLoaded, xoutGroup, xoutAlign, xoutVma, xoutLma, xoutDot, xgroupStart, xgroupEnd, xgroupResident, xinKind, xinId, xinAlign, xinSize, xinFirstByte, xinStmt, xinLive, xinVma, xfedBytes, xrelocOwner, xrelocOffset, xrelocType, xrelocTarget, xrelocAddend) (nI c) → wpX_place post (xphase, (nI ns), xopenOut, xopenGroup, (nI no), (nI ng), (nI ni), (nI nb), (nI nr), xregionSize, xcounter, xmemory, xstmtOp, xstmtA, xstmtB, xstmtOwner, xoutRegion, xoutLoaded, xoutGroup, xoutAlign, xoutVma, xoutLma, xoutDot, xgroupStart, xgroupEnd, xgroupResident, xinKind, xinId, xinAlign, xinSize, xinFirstByte, xinStmt, xinLive, xinVma, xfedBytes, xrelocOwner, xrelocOffset, xrelocType, xrelocTarget, xrelocAddend) (nI i) := by
    intro post h
    exact ⟨vi, nm_r (e' := nI c) (by rw [e, eox]) ⟨vi, nm_r (e' := 2) (by rw [e, ho]) (br_f (by decide) (br_f (by decide) (br_f (by decide) (br_t rfl h))))⟩⟩
  have ypre : ∀ (post : Int32 → SY → Prop) (n : Nat), (vp_in (nI c) 8 ∧ ((xoutRegion (nI c).toNatClampNeg = 0 → (∀ z : Int32, z = vma + nI (D c - V c) → (∀ j : Int32, j = nI i + 1 → wY_walk_32 post (nI R0) (nI R1) xphase (nI ns) (nI no) (nI ng) (nI ni) (nI nb) (nI nr) xopenOut yinGroup (nI ni - 1) yfinalC0 yfinalC1 n z c1 g0 yge grp (-1) dot vma lma ing j xstmtOp xstmtA xstmtB ystOut xoutRegion xoutLoaded xoutGroup xoutVma xoutLma (upd youtSize c (nI (D c - V c))) xoutAlign youtRes ygStart ygEnd xinKind xinId xinAlign yinBss xinFirstByte yinLen xinStmt xinLive yinVma yinLma xfedBytes xrelocOwner xrelocOffset xrelocType xrelocTarget xrelocAddend yrom yram))) ∧ (¬ xoutRegion (nI c).toNatClampNeg = 0 → ((ing = 0 → (∀ z : Int32, z = vma + nI (D c - V c) → wY_walk_261 post (wY_walk_32 post (nI R0) (nI R1) xphase (nI ns) (nI no) (nI ng) (nI ni) (nI nb) (nI nr) xopenOut yinGroup (nI ni - 1) yfinalC0 yfinalC1 n) c0 z g0 yge grp (nI c) dot vma lma ing (nI i) (nI (D c - V c)) (nI R0) (nI R1) xphase (nI ns) (nI no) (nI ng) (nI ni) (nI nb) (nI nr) xopenOut yinGroup (nI ni - 1) yfinalC0 yfinalC1 xstmtOp xstmtA xstmtB ystOut xoutRegion xoutLoaded xoutGroup xoutVma xoutLma (upd youtSize c (nI (D c - V c))) xoutAlign youtRes ygStart ygEnd xinKind xinId xinAlign yinBss xinFirstByte yinLen xinStmt xinLive yinVma yinLma xfedBytes xrelocOwner xrelocOffset xrelocType xrelocTarget xrelocAddend yrom yram)) ∧ (¬ ing = 0 → ((vma + nI (D c - V c) ≤ yge → (wY_walk_261 post (wY_walk_32 post (nI R0) (nI R1) xphase (nI ns) (nI no) (nI ng) (nI ni) (nI nb) (nI nr) xopenOut yinGroup (nI ni - 1) yfinalC0 yfinalC1 n) c0 c1 g0 yge grp (nI c) dot vma lma ing (nI i) (nI (D c - V c)) (nI R0) (nI R1) xphase (nI ns) (nI no) (nI ng) (nI ni) (nI nb) (nI nr) xopenOut yinGroup (nI ni - 1) yfinalC0 yfinalC1 xstmtOp xstmtA xstmtB ystOut xoutRegion xoutLoaded xoutGroup xoutVma xoutLma (upd youtSize c (nI (D c - V c))) xoutAlign youtRes ygStart ygEnd xinKind xinId xinAlign yinBss xinFirstByte yinLen xinStmt xinLive yinVma yinLma xfedBytes xrelocOwner xrelocOffset xrelocType xrelocTarget xrelocAddend yrom yram)) ∧ (¬ vma + nI (D c - V c) ≤ yge → (∀ z : Int32, z = vma + nI (D c - V c) → wY_walk_261 post (wY_walk_32 post (nI R0) (nI R1) xphase (nI ns) (nI no) (nI ng) (nI ni) (nI nb) (nI nr) xopenOut yinGroup (nI ni - 1) yfinalC0 yfinalC1 n) c0 c1 g0 z grp (nI c) dot vma lma ing (nI i) (nI (D c - V c)) (nI R0) (nI R1) xphase (nI ns) (nI no) (nI ng) (nI ni) (nI nb) (nI nr) xopenOut yinGroup (nI ni - 1) yfinalC0 yfinalC1 xstmtOp xstmtA xstmtB ystOut xoutRegion xoutLoaded xoutGroup xoutVma xoutLma (upd youtSize c (nI (D c - V c))) xoutAlign youtRes ygStart ygEnd xinKind xinId xinAlign yinBss xinFirstByte yinLen xinStmt xinLive yinVma yinLma xfedBytes xrelocOwner xrelocOffset xrelocType xrelocTarget xrelocAddend yrom yram)))))))) → wY_walk_32 post (nI R0) (nI R1) xphase (nI ns) (nI no) (nI ng) (nI ni) (nI nb) (nI nr) xopenOut yinGroup (nI ni - 1) yfinalC0 yfinalC1 (n + 1) c0 c1 g0 yge grp kk dot vma lma ing (nI i) xstmtOp xstmtA xstmtB ystOut xoutRegion xoutLoaded xoutGroup xoutVma xoutLma youtSize xoutAlign youtRes ygStart ygEnd xinKind xinId xinAlign yinBss xinFirstByte yinLen xinStmt xinLive yinVma yinLma xfedBytes xrelocOwner xrelocOffset xrelocType xrelocTarget xrelocAddend yrom yram := by
    intro post n h
    rw [k1]
    exact br_f (nI_ge hi (by omega)) (br_f (nI_ge (b := 32) (by omega) (by omega)) ⟨vi, nm_r (e' := 2) (by rw [e, ho]) ⟨vi, nm_e ⟨vi, nm_e (br_f (by decide) (br_t rfl (nm_r esz ⟨vc, nm_r (by rw [ec]) h⟩)))⟩⟩⟩)
  rcases hof with ⟨r1, r2, r3⟩ | ⟨r1, r2, r3⟩
  · have W1 := V' (C0' := L c + (D c - V c)) (C1' := C1) (GE' := GE) (ct' := upd (upd xcounter 0 (nI (D c))) 0 (nI (L c + (D c - V c)))) (ge' := xgroupEnd) (c0' := nI (V c + (D c - V c))) (c1' := c1) (yge' := yge) (by omega) (by have := b6 r2; omega) (fun _ => Nat.le_refl _) g2 g3 (fun g _ => Or.inl rfl) ⟨pk_us, by rw [pk_un (by decide), pk_un (by decide)]; exact w2, by rw [b5 r1], w4⟩ hge (fun g _ _ => rfl) (fun z => (w7 z).2.2)
    refine ⟨_, _, _, _, _, _, _, _, _, xoutAlign, _, _, _, _, _, _, _, _, _, _, _, _, _, _, _, _, _, _, _, _, _, W1, fun post hp => xpre post ?_, fun post n hp => ypre post n ?_⟩
    · exact ⟨vc, nm_r (e' := -1) (by rw [ec, r3]) (br_t rfl ⟨vc, vc, by rw [ec, r1]; exact vp_in_iff.mpr (by decide), nm_r (e' := upd xcounter 0 (nI (D c))) (by rw [ec, r1, ed]; rfl) (lx_59 hc8 el ed ev b1 (fun _ => hp) (fun z => absurd r2 z))⟩)⟩
    · exact ⟨vc, br_t (by rw [ec]; exact r1) (nm_r evs (nm_r (nI_1 i) hp))⟩
  · have nr0 : ¬ xoutRegion c = 0 := by rw [r1]; decide
    rcases Bool.eq_false_or_eq_true (lk_ig xstmtOp i) with hig | hig
    · obtain ⟨gs, hgs⟩ : ∃ g, lk_ng xstmtOp i = g + 1 := ⟨lk_ng xstmtOp i - 1, by have := (w7 hig).1; omega⟩
      obtain ⟨_, p2, p3⟩ := w7 hig
      rw [hig, if_pos rfl] at hgp w6
      rw [hgs, Nat.add_sub_cancel] at hgp p2 p3
      have ni0 : ¬ ing = 0 := by rw [w6]; decide
      have hgs4 : gs < 4 := by omega
      have vg : vp_in (nI gs) 4 := vp_in_nI hgs4 (by omega)
      have eg : (nI gs).toNatClampNeg = gs := nI_clamp (by omega)
      have egE := hge gs (by omega)
      obtain ⟨q1, q2, q3, _⟩ := g6 gs (by omega)
      by_cases c2 : D c ≤ GE gs
      · have xc : xoutDot (nI c).toNatClampNeg ≤ xgroupEnd (nI gs).toNatClampNeg := by rw [ec, eg, ed, egE, nI_leI (by omega) (by omega)]; exact c2
        have yc : vma + nI (D c - V c) ≤ yge := by rw [evs, p3, nI_leI (by omega) (by omega)]; omega
        by_cases c3 : xoutLoaded c = 1
        · have W1 := V' (C0' := L c + (D c - V c)) (C1' := C1) (GE' := GE) (ct' := upd xcounter 0 (nI (L c + (D c - V c)))) (ge' := xgroupEnd) (c0' := nI (L c + (D c - V c))) (c1' := c1) (yge' := yge) (by omega) (by have := b6 c3; omega) (fun _ => Nat.le_refl _) g2 g3 (fun g _ => Or.inl rfl) ⟨pk_us, by rw [pk_un (by decide)]; exact w2, rfl, w4⟩ hge (fun g _ _ => rfl) (fun z => (w7 z).2.2)
          refine ⟨_, _, _, _, _, _, _, _, _, xoutAlign, _, _, _, _, _, _, _, _, _, _, _, _, _, _, _, _, _, _, _, _, _, W1, fun post hp => xpre post ?_, fun post n hp => ypre post n ?_⟩
          · exact ⟨vc, nm_r (e' := nI gs) (by rw [ec, hgp]) (br_f (lk_nn1 (by omega)) ⟨vc, vg, br_t xc (lx_59 hc8 el ed ev b1 (fun _ => hp) (fun z => absurd c3 z))⟩)⟩
          · rw [k4] at hp ⊢
            exact ⟨vc, br_f (by rw [ec]; exact nr0) (br_f ni0 (br_t yc (ly_261 hc8 (fun _ => hp) (fun z => absurd c3 z))))⟩
        · have W1 := V' (C0' := C0) (C1' := C1) (GE' := GE) (ct' := xcounter) (ge' := xgroupEnd) (c0' := c0) (c1' := c1) (yge' := yge) g1 (Nat.le_refl _) (fun z => absurd z c3) g2 g3 (fun g _ => Or.inl rfl) ⟨w1, w2, w3, w4⟩ hge (fun g _ _ => rfl) (fun z => (w7 z).2.2)
          refine ⟨_, _, _, _, _, _, _, _, _, xoutAlign, _, _, _, _, _, _, _, _, _, _, _, _, _, _, _, _, _, _, _, _, _, W1, fun post hp => xpre post ?_, fun post n hp => ypre post n ?_⟩
          · exact ⟨vc, nm_r (e' := nI gs) (by rw [ec, hgp]) (br_f (lk_nn1 (by omega)) ⟨vc, vg, br_t xc (lx_59 hc8 el ed ev b1 (fun z => absurd z c3) (fun _ => hp))⟩)⟩
          · rw [k4] at hp ⊢
            exact ⟨vc, br_f (by rw [ec]; exact nr0) (br_f ni0 (br_t yc (ly_261 hc8 (fun z => absurd z c3) (fun _ => hp))))⟩
      · have xc : ¬ xoutDot (nI c).toNatClampNeg ≤ xgroupEnd (nI gs).toNatClampNeg := by rw [ec, eg, ed, egE, nI_leI (by omega) (by omega)]; exact c2
        have yc : ¬ vma + nI (D c - V c) ≤ yge := by rw [evs, p3, nI_leI (by omega) (by omega)]; omega
        have G1 : ∀ g, g < lk_ng xstmtOp i → lk_up GE gs (D c) g = GE g ∨ (xoutRegion c = 1 ∧ lk_up GE gs (D c) g = D c ∧ GE g ≤ D c) := by
          intro g hg
          by_cases z : g = gs
          · subst z; exact Or.inr ⟨r1, lk_ups, by omega⟩
          · exact Or.inl (lk_upn z)
        have G2 : ∀ g, g < lk_ng xstmtOp i → upd xgroupEnd gs (nI (D c)) g = nI (lk_up GE gs (D c) g) := by
          intro g hg
          by_cases z : g = gs
          · subst z; rw [pk_us, lk_ups]
          · rw [pk_un z, lk_upn z]; exact hge g hg
        have G3 : ∀ g, g < lk_ng xstmtOp i → (lk_ig xstmtOp i = true → g + 1 < lk_ng xstmtOp i) → lk_up GE gs (D c) g = GE g := fun g _ hh => lk_upn (by have := hh hig; omega)
        have G4 : lk_ig xstmtOp i = true → nI (V c + (D c - V c)) = nI (lk_up GE gs (D c) (lk_ng xstmtOp i - 1)) := fun _ => by rw [hgs, Nat.add_sub_cancel, lk_ups, evd]
        by_cases c3 : xoutLoaded c = 1
        · have W1 := V' (C0' := L c + (D c - V c)) (C1' := C1) (GE' := lk_up GE gs (D c)) (ct' := upd xcounter 0 (nI (L c + (D c - V c)))) (ge' := upd xgroupEnd gs (nI (D c))) (c0' := nI (L c + (D c - V c))) (c1' := c1) (yge' := nI (V c + (D c - V c))) (by omega) (by have := b6 c3; omega) (fun _ => Nat.le_refl _) g2 g3 G1 ⟨pk_us, by rw [pk_un (by decide)]; exact w2, rfl, w4⟩ G2 G3 G4
          refine ⟨_, _, _, _, _, _, _, _, _, xoutAlign, _, _, _, _, _, _, _, _, _, _, _, _, _, _, _, _, _, _, _, _, _, W1, fun post hp => xpre post ?_, fun post n hp => ypre post n ?_⟩
          · exact ⟨vc, nm_r (e' := nI gs) (by rw [ec, hgp]) (br_f (lk_nn1 (by omega)) ⟨vc, vg, br_f xc ⟨vc, vg, nm_r (e' := upd xgroupEnd gs (nI (D c))) (by rw [ec, eg, ed]) (lx_59 hc8 el ed ev b1 (fun _ => hp) (fun z => absurd c3 z))⟩⟩)⟩
          · rw [k4] at hp ⊢
            exact ⟨vc, br_f (by rw [ec]; exact nr0) (br_f ni0 (br_f yc (nm_r evs (ly_261 hc8 (fun _ => hp) (fun z => absurd c3 z)))))⟩
        · have W1 := V' (C0' := C0) (C1' := C1) (GE' := lk_up GE gs (D c)) (ct' := xcounter) (ge' := upd xgroupEnd gs (nI (D c))) (c0' := c0) (c1' := c1) (yge' := nI (V c + (D c - V c))) g1 (Nat.le_refl _) (fun z => absurd z c3) g2 g3 G1 ⟨w1, w2, w3, w4⟩ G2 G3 G4
          refine ⟨_, _, _, _, _, _, _, _, _, xoutAlign, _, _, _, _, _, _, _, _, _, _, _, _, _, _, _, _, _, _, _, _, _, W1, fun post hp => xpre post ?_, fun post n hp => ypre post n ?_⟩
          · exact ⟨vc, nm_r (e' := nI gs) (by rw [ec, hgp]) (br_f (lk_nn1 (by omega)) ⟨vc, vg, br_f xc ⟨vc, vg, nm_r (e' := upd xgroupEnd gs (nI (D c))) (by rw [ec, eg, ed]) (lx_59 hc8 el ed ev b1 (fun z => absurd z c3) (fun _ => hp))⟩⟩)⟩
          · rw [k4] at hp ⊢
            exact ⟨vc, br_f (by rw [ec]; exact nr0) (br_f ni0 (br_f yc (nm_r evs (ly_261 hc8 (fun z => absurd z c3) (fun _ => hp)))))⟩
    · rw [hig, if_neg (by decide)] at hgp w6
      by_cases c3 : xoutLoaded c = 1
      · have W1 := V' (C0' := L c + (D c - V c)) (C1' := D c) (GE' := GE) (ct' := upd (upd xcounter 1 (nI (D c))) 0 (nI (L c + (D c - V c)))) (ge' := xgroupEnd) (c0' := nI (L c + (D c - V c))) (c1' := nI (V c + (D c - V c))) (yge' := yge) (by omega) (by have := b6 c3; omega) (fun _ => Nat.le_refl _) b2 (by have := b4 r1; omega) (fun g _ => Or.inl rfl) ⟨pk_us, by rw [pk_un (by decide), pk_us], rfl, by rw [evd]⟩ hge (fun g _ _ => rfl) (fun z => (w7 z).2.2)
        refine ⟨_, _, _, _, _, _, _, _, _, xoutAlign, _, _, _, _, _, _, _, _, _, _, _, _, _, _, _, _, _, _, _, _, _, W1, fun post hp => xpre post ?_, fun post n hp => ypre post n ?_⟩
        · exact ⟨vc, nm_r (e' := -1) (by rw [ec, hgp]) (br_t rfl ⟨vc, vc, by rw [ec, r1]; exact vp_in_iff.mpr (by decide), nm_r (e' := upd xcounter 1 (nI (D c))) (by rw [ec, r1, ed]; rfl) (lx_59 hc8 el ed ev b1 (fun _ => hp) (fun z => absurd c3 z))⟩)⟩
        · rw [k4] at hp ⊢
          exact ⟨vc, br_f (by rw [ec]; exact nr0) (br_t w6 (nm_r evs (ly_261 hc8 (fun _ => hp) (fun z => absurd c3 z))))⟩
      · have W1 := V' (C0' := C0) (C1' := D c) (GE' := GE) (ct' := upd xcounter 1 (nI (D c))) (ge' := xgroupEnd) (c0' := c0) (c1' := nI (V c + (D c - V c))) (yge' := yge) g1 (Nat.le_refl _) (fun z => absurd z c3) b2 (by have := b4 r1; omega) (fun g _ => Or.inl rfl) ⟨by rw [pk_un (by decide)]; exact w1, pk_us, w3, by rw [evd]⟩ hge (fun g _ _ => rfl) (fun z => (w7 z).2.2)
        refine ⟨_, _, _, _, _, _, _, _, _, xoutAlign, _, _, _, _, _, _, _, _, _, _, _, _, _, _, _, _, _, _, _, _, _, W1, fun post hp => xpre post ?_, fun post n hp => ypre post n ?_⟩
        · exact ⟨vc, nm_r (e' := -1) (by rw [ec, hgp]) (br_t rfl ⟨vc, vc, by rw [ec, r1]; exact vp_in_iff.mpr (by decide), nm_r (e' := upd xcounter 1 (nI (D c))) (by rw [ec, r1, ed]; rfl) (lx_59 hc8 el ed ev b1 (fun z => absurd z c3) (fun _ => hp))⟩)⟩
        · rw [k4] at hp ⊢
          exact ⟨vc, br_f (by rw [ec]; exact nr0) (br_t w6 (nm_r evs (ly_261 hc8 (fun z => absurd z c3) (fun _ => hp))))⟩
end
end
section

section
/-! Y: the walk: OP_INPUT and OP_KEEP -/
theorem lx_al2 {post : Int32 → Prop} {x m : Nat} {z w : Int32} (hz : z = nI x) (hw : w = nI m) (hA : lk_A m) (hx : x < 2 ^ 30) (h : post (nI (lk_al x m))) : wpX_alignUp post z w := by
  subst hz
  subst hw
  exact lx_al hA hx h
theorem ly_al2 {post : Int32 → Prop} {yromSize yramSize yphase ynStmts ynOuts ynGroups ynIns ynBytes ynRelocs yopenOut yinGroup ycur yfinalC0 yfinalC1 : Int32} {ystOp ystA ystB ystOut youtReg youtLoaded youtGroup youtVma youtLma youtSize youtAlign youtRes ygStart ygEnd yinKind yinId yinAlign yinBss yinStart yinLen yinStmt yinLive yinVma yinLma ybytes yrSec yrOff yrType yrTgt yrAdd yrom yram : Nat → Int32} {x m : Nat} {z w : Int32} (hz : z = nI x) (hw : w = nI m) (hA : lk_A m) (hx : x < 2 ^ 30) (h : post (nI (lk_al x m))) : wpY_align post (yromSize, yramSize, yphase, ynStmts, ynOuts, ynGroups, ynIns, ynBytes, ynRelocs, yopenOut, yinGroup, ycur, yfinalC0, yfinalC1, ystOp, ystA, ystB, ystOut, youtReg, youtLoaded, youtGroup, youtVma, youtLma, youtSize, youtAlign, youtRes, ygStart, ygEnd, yinKind, yinId, yinAlign, yinBss, yinStart, yinLen, yinStmt, yinLive, yinVma, yinLma, ybytes, yrSec, yrOff, yrType, yrTgt, yrAdd, yrom, yram) z w := by
  subst hz
  subst hw
  exact ly_al hA hx h
theorem ly_sz {post : Int32 → Prop} {yromSize yramSize yphase ynStmts ynOuts ynGroups ynIns ynBytes ynRelocs yopenOut yinGroup ycur yfinalC0 yfinalC1 : Int32} {ystOp ystA ystB ystOut youtReg youtLoaded youtGroup youtVma youtLma youtSize youtAlign youtRes ygStart ygEnd yinKind yinId yinAlign yinBss yinStart yinLen yinStmt yinLive yinVma yinLma ybytes yrSec yrOff yrType yrTgt yrAdd yrom yram : Nat → Int32} {t Q Z : Nat} (ht : t < 16) (hz : yinLen t = nI Z) (hq : (yinKind t = 3 ∧ Z = 0 ∧ Q ≤ 128 ∧ yinBss t = nI Q) ∨ (¬ yinKind t = 3 ∧ Q = Z)) (h : post (nI Q)) : wpY_sizeOf post (yromSize, yramSize, yphase, ynStmts, ynOuts, ynGroups, ynIns, ynBytes, ynRelocs, yopenOut, yinGroup, ycur, yfinalC0, yfinalC1, ystOp, ystA, ystB, ystOut, youtReg, youtLoaded, youtGroup, youtVma, youtLma, youtSize, youtAlign, youtRes, ygStart, ygEnd, yinKind, yinId, yinAlign, yinBss, yinStart, yinLen, yinStmt, yinLive, yinVma, yinLma, ybytes, yrSec, yrOff, yrType, yrTgt, yrAdd, yrom, yram) (nI t) := by
  have e : (nI t).toNatClampNeg = t := nI_clamp (by omega)
  have v : vp_in (nI t) 16 := vp_in_nI ht (by omega)
  rcases hq with ⟨a, _, _, b⟩ | ⟨a, b⟩
  · rw [← b] at h
    refine ⟨v, br_t (by rw [e]; exact a) ⟨v, ?_⟩⟩
    rw [e]
    exact h
  · rw [b, ← hz] at h
    refine ⟨v, br_f (by rw [e]; exact a) ⟨v, ?_⟩⟩
    rw [e]
    exact h
theorem lk_w_loop {ns no ng ni nb nr R0 R1 : Nat} {xphase xopenOut xopenGroup yinGroup yfinalC0 yfinalC1 : Int32} {xregionSize xcounter xmemory xstmtOp xstmtA xstmtB xstmtOwner xoutRegion xoutLoaded xoutGroup xoutAlign xoutVma xoutLma xoutDot xgroupStart xgroupEnd xgroupResident xinKind xinId xinAlign xinSize xinFirstByte xinStmt xinLive xinVma xfedBytes xrelocOwner xrelocOffset xrelocType xrelocTarget xrelocAddend ystOut youtSize youtRes ygStart ygEnd yinBss yinLen yinVma yinLma yrom yram : Nat → Int32} {i C0 C1 : Nat} {V L G0 GE : Nat → Nat} {c0 c1 g0 yge grp kk vma lma ing : Int32} (hN : lk_N ni nb xinKind xinAlign xinSize xinFirstByte yinBss yinLen) (hi : i < 32) (hc : lk_nc xstmtOp i < 8) (eox : xstmtOwner i = nI (lk_nc xstmtOp i)) : ∀ d t, t + d = ni → ∀ (D IV : Nat → Nat) (dt xv yv yl : Nat → Int32) (dot : Int32), lk_WP ni xstmtOp xoutRegion xoutLoaded xinStmt xinLive (fun s => (xstmtOwner (xinStmt s).toNatClampNeg).toNatClampNeg) (fun s => (xinSize s).toNatClampNeg) i t C0 C1 V L D G0 GE IV xcounter xoutVma xoutLma dt xgroupStart xgroupEnd xv youtSize ygStart ygEnd yv yl c0 c1 g0 yge grp kk dot vma lma ing →
    ∃ (D' IV' : Nat → Nat) (dt' xv' yv' yl' : Nat → Int32) (dot' : Int32), lk_WP ni xstmtOp xoutRegion xoutLoaded xinStmt xinLive (fun s => (xstmtOwner (xinStmt s).toNatClampNeg).toNatClampNeg) (fun s => (xinSize s).toNatClampNeg) i ni C0 C1 V L D' G0 GE IV' xcounter xoutVma xoutLma dt' xgroupStart xgroupEnd xv' youtSize ygStart ygEnd yv' yl' c0 c1 g0 yge grp kk dot' vma lma ing ∧
      (∀ post : SX → Prop, post (xphase, (nI ns), xopenOut, xopenGroup, (nI no), (nI ng), (nI ni), (nI nb), (nI nr), xregionSize, xcounter, xmemory, xstmtOp, xstmtA, xstmtB, xstmtOwner, xoutRegion, xoutLoaded, xoutGroup, xoutAlign, xoutVma, xoutLma, dt', xgroupStart, xgroupEnd, xgroupResident, xinKind, xinId, xinAlign, xinSize, xinFirstByte, xinStmt, xinLive, xv', xfedBytes, xrelocOwner, xrelocOffset, xrelocType, xrelocTarget, xrelocAddend) → wX_placeInputs_9 post (nI i) (nI (lk_nc xstmtOp i)) xphase (nI ns) xopenOut xopenGroup (nI no) (nI ng) (nI ni) (nI nb) (nI nr) (d + 1) (nI t) xregionSize xcounter xmemory xstmtOp xstmtA xstmtB xstmtOwner xoutRegion xoutLoaded xoutGroup xoutAlign xoutVma xoutLma dt xgroupStart xgroupEnd xgroupResident xinKind xinId xinAlign xinSize xinFirstByte xinStmt xinLive xv xfedBytes xrelocOwner xrelocOffset xrelocType xrelocTarget xrelocAddend) ∧
      (∀ (post : Int32 → SY → Prop) (J : Int32 → Int32 → Int32 → Int32 → Int32 → Int32 → Int32 → Int32 → Int32 → Int32 → Int32 → (Nat → Int32) → (Nat → Int32) → (Nat → Int32) → (Nat → Int32) → (Nat → Int32) → (Nat → Int32) → (Nat → Int32) → (Nat → Int32) → (Nat → Int32) → (Nat → Int32) → (Nat → Int32) → (Nat → Int32) → (Nat → Int32) → (Nat → Int32) → (Nat → Int32) → (Nat → Int32) → (Nat → Int32) → (Nat → Int32) → (Nat → Int32) → (Nat → Int32) → (Nat → Int32) → (Nat → Int32) → (Nat → Int32) → (Nat → Int32) → (Nat → Int32) → (Nat → Int32) → (Nat → Int32) → (Nat → Int32) → (Nat → Int32) → (Nat → Int32) → (Nat → Int32) → (Nat → Int32) → Prop), J c0 c1 g0 yge grp kk dot' vma lma ing (nI (i + 1)) xstmtOp xstmtA xstmtB ystOut xoutRegion xoutLoaded xoutGroup xoutVma xoutLma youtSize xoutAlign youtRes ygStart ygEnd xinKind xinId xinAlign yinBss xinFirstByte yinLen xinStmt xinLive yv' yl' xfedBytes xrelocOwner xrelocOffset xrelocType xrelocTarget xrelocAddend yrom yram → wY_walk_299 post J c0 c1 g0 yge grp kk vma lma ing (nI i) (nI R0) (nI R1) xphase (nI ns) (nI no) (nI ng) (nI ni) (nI nb) (nI nr) xopenOut yinGroup (nI ni - 1) yfinalC0 yfinalC1 (d + 1) dot (nI t) xstmtOp xstmtA xstmtB ystOut xoutRegion xoutLoaded xoutGroup xoutVma xoutLma youtSize xoutAlign youtRes ygStart ygEnd xinKind xinId xinAlign yinBss xinFirstByte yinLen xinStmt xinLive yv yl xfedBytes xrelocOwner xrelocOffset xrelocType xrelocTarget xrelocAddend yrom yram) := by
  have h16 := hN.1
  have ei : (nI i).toNatClampNeg = i := nI_clamp (by omega)
  intro d
  induction d with
  | zero =>
    intro t ht D IV dt xv yv yl dot h
    have e1 : t = ni := ht
    subst e1
    exact ⟨D, IV, dt, xv, yv, yl, dot, h, fun post hp => br_t (nI_le (by omega) (by omega)) hp, fun post J hp => br_t (nI_le (by omega) (by omega)) (nm_r (nI_1 i) hp)⟩
  | succ d ih =>
    intro t ht D IV dt xv yv yl dot h
    have e : (nI t).toNatClampNeg = t := nI_clamp (by omega)
    have v : vp_in (nI t) 16 := vp_in_nI (by omega) (by omega)
    have n1 : ¬ nI ni ≤ nI t := nI_ge (by omega) (by omega)
    have n2 : ¬ (16 : Int32) ≤ nI t := nI_ge (b := 16) (by omega) (by omega)
    by_cases a : xinLive (nI t).toNatClampNeg = 1
    · by_cases b : xinStmt (nI t).toNatClampNeg = nI i
      · obtain ⟨A, T, Z, Q, d1, d2, d3, d4, d5, d6, d7⟩ := hN.2.2 t (by omega)
        have hb := hN.2.1
        have hQ : Q ≤ 256 := by rcases d7 with ⟨_, _, z, _⟩ | ⟨_, z⟩ <;> omega
        have h2 := h
        unfold lk_WP at h2
        obtain ⟨⟨_, g4, _⟩, _, w8, _, _, _, _, _, w9, _⟩ := h2
        have hD := (g4 (lk_nc xstmtOp i) (by omega)).2.1
        have edt := (w8 (lk_nc xstmtOp i) (by omega)).2.2
        have edot := (w9 (by omega)).2.1
        have hx := lk_al_b (x := D (lk_nc xstmtOp i)) d1
        have b' : xinStmt t = nI i := by rw [e] at b; exact b
        have esz : (xinSize t).toNatClampNeg = Q := by rw [d6, nI_clamp (by omega)]
        have h3 := lk_WP_s (x := lk_al (D (lk_nc xstmtOp i)) A) h (by omega) b' (show (xstmtOwner (xinStmt t).toNatClampNeg).toNatClampNeg = lk_nc xstmtOp i by rw [b', ei, eox, nI_clamp (by omega)]) hx.1 hx.2 (show (xinSize t).toNatClampNeg ≤ 256 by rw [esz]; exact hQ)
        rw [esz] at h3
        obtain ⟨D', IV', dt', xv', yv', yl', dot', k1, k2, k3⟩ := ih (t + 1) (by omega) _ _ _ _ _ _ _ h3
        have ec : (nI (lk_nc xstmtOp i)).toNatClampNeg = lk_nc xstmtOp i := nI_clamp (by omega)
        have vc : vp_in (nI (lk_nc xstmtOp i)) 8 := vp_in_nI hc (by omega)
        refine ⟨D', IV', dt', xv', yv', yl', dot', k1, fun post hp => ?_, fun post J hp => ?_⟩
        · refine br_f n1 ⟨v, br_t a ⟨v, br_t b ⟨vc, v, lx_al2 (by rw [ec, edt]) (by rw [e, d2]) d1 (by omega) ⟨v, nm_r (e' := upd xv t (nI (lk_al (D (lk_nc xstmtOp i)) A))) (by rw [e]) ⟨v, v, vc, nm_r (e' := upd dt (lk_nc xstmtOp i) (nI (lk_al (D (lk_nc xstmtOp i)) A + Q))) ?_ (nm_r (nI_1 t) (k2 post hp))⟩⟩⟩⟩⟩
          rw [e, ec, pk_us, d6, nI_add]
        · refine br_f n1 (br_f n2 ⟨v, br_t a ⟨v, br_t b ⟨v, ly_al2 edot (by rw [e, d2]) d1 (by omega) ⟨v, nm_r (e' := upd yv t (nI (lk_al (D (lk_nc xstmtOp i)) A))) (by rw [e]) ⟨v, nm_r (e' := upd yl t (nI (lk_al (D (lk_nc xstmtOp i)) A) + (lma - vma))) (by rw [e]) (ly_sz (by omega) d4 d7 (nm_r (nI_add _ _) (nm_r (nI_1 t) (k3 post J hp))))⟩⟩⟩⟩⟩)
      · have h3 := lk_WP_n h (fun z => b (by rw [e]; exact z.2))
        obtain ⟨D', IV', dt', xv', yv', yl', dot', k1, k2, k3⟩ := ih (t + 1) (by omega) _ _ _ _ _ _ _ h3
        exact ⟨D', IV', dt', xv', yv', yl', dot', k1, fun post hp => br_f n1 ⟨v, br_t a ⟨v, br_f b (nm_r (nI_1 t) (k2 post hp))⟩⟩, fun post J hp => br_f n1 (br_f n2 ⟨v, br_t a ⟨v, br_f b (nm_r (nI_1 t) (k3 post J hp))⟩⟩)⟩
    · have h3 := lk_WP_n h (fun z => a (by rw [e]; exact z.1))
      obtain ⟨D', IV', dt', xv', yv', yl', dot', k1, k2, k3⟩ := ih (t + 1) (by omega) _ _ _ _ _ _ _ h3
      exact ⟨D', IV', dt', xv', yv', yl', dot', k1, fun post hp => br_f n1 ⟨v, br_f a (nm_r (nI_1 t) (k2 post hp))⟩, fun post J hp => br_f n1 (br_f n2 ⟨v, br_f a (nm_r (nI_1 t) (k3 post J hp))⟩)⟩
theorem lk_w_inp {ns no ng ni nb nr R0 R1 : Nat} {xphase xopenOut xopenGroup yinGroup yfinalC0 yfinalC1 : Int32} {xregionSize xcounter xmemory xstmtOp xstmtA xstmtB xstmtOwner xoutRegion xoutLoaded xoutGroup xoutAlign xoutVma xoutLma xoutDot xgroupStart xgroupEnd xgroupResident xinKind xinId xinAlign xinSize xinFirstByte xinStmt xinLive xinVma xfedBytes xrelocOwner xrelocOffset xrelocType xrelocTarget xrelocAddend ystOut youtSize youtRes ygStart ygEnd yinBss yinLen yinVma yinLma yrom yram : Nat → Int32} {i C0 C1 : Nat} {V L D G0 GE IV : Nat → Nat} {c0 c1 g0 yge grp kk dot vma lma ing : Int32} (hS : ∀ i, i < ns → lk_sc xstmtOp xstmtA xstmtB xstmtOwner ystOut xoutRegion xoutLoaded xoutGroup i) (hno : no = lk_no xstmtOp ns) (hng : ng = lk_ng xstmtOp ns) (h8 : no ≤ 8) (h4 : ng ≤ 4) (hN : lk_N ni nb xinKind xinAlign xinSize xinFirstByte yinBss yinLen) (hA : lk_hA ni ns xstmtOp xinStmt xinLive) (hl : lk_hl ni no ns xinStmt xinLive xstmtOwner ystOut) (hi : i < ns) (hW : lk_WI ni xstmtOp xoutRegion xoutLoaded xinStmt xinLive (fun s => (xstmtOwner (xinStmt s).toNatClampNeg).toNatClampNeg) (fun s => (xinSize s).toNatClampNeg) i C0 C1 V L D G0 GE IV xcounter xoutVma xoutLma xoutDot xgroupStart xgroupEnd xinVma youtSize ygStart ygEnd yinVma yinLma c0 c1 g0 yge grp kk dot vma lma ing) (ho : xstmtOp i = 3 ∨ xstmtOp i = 4) : ∃ (C0' C1' : Nat) (V' L' D' G0' GE' IV' : Nat → Nat) (ct oa vm lm dt gs ge xv os yg0 yg1 yv yl : Nat → Int32) (d0 d1 d2 d3 d4 d5 d6 d7 d8 d9 : Int32), lk_WI ni xstmtOp xoutRegion xoutLoaded xinStmt xinLive (fun s => (xstmtOwner (xinStmt s).toNatClampNeg).toNatClampNeg) (fun s => (xinSize s).toNatClampNeg) (i + 1) C0' C1' V' L' D' G0' GE' IV' ct vm lm dt gs ge xv os yg0 yg1 yv yl d0 d1 d2 d3 d4 d5 d6 d7 d8 d9 ∧ (∀ post : Int32 → SX → Prop, post 1 (xphase, (nI ns), xopenOut, xopenGroup, (nI no), (nI ng), (nI ni), (nI nb), (nI nr), xregionSize, ct, xmemory, xstmtOp, xstmtA, xstmtB, xstmtOwner, xoutRegion, xoutLoaded, xoutGroup, oa, vm, lm, dt, gs, ge, xgroupResident, xinKind, xinId, xinAlign, xinSize, xinFirstByte, xinStmt, xinLive, xv, xfedBytes, xrelocOwner, xrelocOffset, xrelocType, xrelocTarget, xrelocAddend) → wpX_place post (xphase, (nI ns), xopenOut, xopenGroup, (nI no), (nI ng), (nI ni), (nI nb), (nI nr), xregionSize, xcounter, xmemory, xstmtOp, xstmtA, xstmtB, xstmtOwner, xoutRegion, xoutLoaded, xoutGroup, xoutAlign, xoutVma, xoutLma, xoutDot, xgroupStart, xgroupEnd, xgroupResident, xinKind, xinId, xinAlign, xinSize, xinFirstByte, xinStmt, xinLive, xinVma, xfedBytes, xrelocOwner, xrelocOffset, xrelocType, xrelocTarget, xrelocAddend) (nI i)) ∧ (∀ (post : Int32 → SY → Prop) (n : Nat), wY_walk_32 post (nI R0) (nI R1) xphase (nI ns) (nI no) (nI ng) (nI ni) (nI nb) (nI nr) xopenOut yinGroup (nI ni - 1) yfinalC0 yfinalC1 n d0 d1 d2 d3 d4 d5 d6 d7 d8 d9 (nI (i + 1)) xstmtOp xstmtA xstmtB ystOut xoutRegion xoutLoaded xoutGroup vm lm os oa youtRes yg0 yg1 xinKind xinId xinAlign yinBss xinFirstByte yinLen xinStmt xinLive yv yl xfedBytes xrelocOwner xrelocOffset xrelocType xrelocTarget xrelocAddend yrom yram → wY_walk_32 post (nI R0) (nI R1) xphase (nI ns) (nI no) (nI ng) (nI ni) (nI nb) (nI nr) xopenOut yinGroup (nI ni - 1) yfinalC0 yfinalC1 (n + 1) c0 c1 g0 yge grp kk dot vma lma ing (nI i) xstmtOp xstmtA xstmtB ystOut xoutRegion xoutLoaded xoutGroup xoutVma xoutLma youtSize xoutAlign youtRes ygStart ygEnd xinKind xinId xinAlign yinBss xinFirstByte yinLen xinStmt xinLive yinVma yinLma xfedBytes xrelocOwner xrelocOffset xrelocType xrelocTarget xrelocAddend yrom yram) := by
  have n32 := hA.1
  have e : (nI i).toNatClampNeg = i := nI_clamp (by omega)
  have vi : vp_in (nI i) 32 := vp_in_nI (by omega) (by omega)
  obtain ⟨his, _, nm, eox, _⟩ := lk_S_i hS hi ho
  have hnt := lk_nc_t his
  rw [← hno] at nm
  rw [show lk_no xstmtOp i - 1 = lk_nc xstmtOp i by omega] at eox
  obtain ⟨D', IV', dt', xv', yv', yl', dot', k1, k2, k3⟩ := lk_w_loop (R0 := R0) (R1 := R1) (nr := nr) (ns := ns) (no := no) (ng := ng) (xphase := xphase) (xopenOut := xopenOut) (xopenGroup := xopenGroup) (yinGroup := yinGroup) (yfinalC0 := yfinalC0) (yfinalC1 := yfinalC1) (xregionSize := xregionSize) (xmemory := xmemory) (xstmtA := xstmtA) (xstmtB := xstmtB) (xoutGroup := xoutGroup) (xoutAlign := xoutAlign) (xoutDot := xoutDot) (xgroupResident := xgroupResident) (xinId := xinId) (xinVma := xinVma) (xfedBytes := xfedBytes) (xrelocOwner := xrelocOwner) (xrelocOffset := xrelocOffset) (xrelocType := xrelocType) (xrelocTarget := xrelocTarget) (xrelocAddend := xrelocAddend) (ystOut := ystOut) (youtRes := youtRes) (yinVma := yinVma) (yinLma := yinLma) (yrom := yrom) (yram := yram) hN (by omega) (by omega) eox ni 0 (by omega) D IV xoutDot xinVma yinVma yinLma dot (lk_WP_0 hW his)
  have W1 := lk_WP_e k1 hN.1 ho his
  refine ⟨_, _, _, _, _, _, _, _, _, xoutAlign, _, _, _, _, _, _, _, _, _, _, _, _, _, _, _, _, _, _, _, _, _, W1, fun post hp => ?_, fun post n hp => ?_⟩
  · have hx : wX_place_78 post (nI i) xphase (nI ns) xopenOut xopenGroup (nI no) (nI ng) (nI ni) (nI nb) (nI nr) xregionSize xcounter xmemory xstmtOp xstmtA xstmtB xstmtOwner xoutRegion xoutLoaded xoutGroup xoutAlign xoutVma xoutLma xoutDot xgroupStart xgroupEnd xgroupResident xinKind xinId xinAlign xinSize xinFirstByte xinStmt xinLive xinVma xfedBytes xrelocOwner xrelocOffset xrelocType xrelocTarget xrelocAddend := ⟨vi, nm_r (e' := nI (lk_nc xstmtOp i)) (by rw [e, eox]) ⟨_, k2 _ hp⟩⟩
    rcases ho with ho | ho
    · exact ⟨vi, nm_e ⟨vi, nm_r (e' := 3) (by rw [e, ho]) (br_f (by decide) (br_f (by decide) (br_f (by decide) (br_f (by decide) (br_t rfl hx)))))⟩⟩
    · exact ⟨vi, nm_e ⟨vi, nm_r (e' := 4) (by rw [e, ho]) (br_f (by decide) (br_f (by decide) (br_f (by decide) (br_f (by decide) (br_f (by decide) (br_t rfl hx))))))⟩⟩
  · have hy := k3 post _ hp
    rcases ho with ho | ho
    · exact br_f (nI_ge hi (by omega)) (br_f (nI_ge (b := 32) (by omega) (by omega)) ⟨vi, nm_r (e' := 3) (by rw [e, ho]) ⟨vi, nm_e ⟨vi, nm_e (br_f (by decide) (br_f (by decide) (br_t rfl ⟨_, hy⟩)))⟩⟩⟩)
    · exact br_f (nI_ge hi (by omega)) (br_f (nI_ge (b := 32) (by omega) (by omega)) ⟨vi, nm_r (e' := 4) (by rw [e, ho]) ⟨vi, nm_e ⟨vi, nm_e (br_f (by decide) (br_f (by decide) (br_f (by decide) (br_t rfl ⟨_, hy⟩))))⟩⟩⟩)
end
end
section

section
/-! Z: the walk: the group ops and the dot ops -/
theorem lk_w_ovl {ns no ng ni nb nr R0 R1 : Nat} {xphase xopenOut xopenGroup yinGroup yfinalC0 yfinalC1 : Int32} {xregionSize xcounter xmemory xstmtOp xstmtA xstmtB xstmtOwner xoutRegion xoutLoaded xoutGroup xoutAlign xoutVma xoutLma xoutDot xgroupStart xgroupEnd xgroupResident xinKind xinId xinAlign xinSize xinFirstByte xinStmt xinLive xinVma xfedBytes xrelocOwner xrelocOffset xrelocType xrelocTarget xrelocAddend ystOut youtSize youtRes ygStart ygEnd yinBss yinLen yinVma yinLma yrom yram : Nat → Int32} {i C0 C1 : Nat} {V L D G0 GE IV : Nat → Nat} {c0 c1 g0 yge grp kk dot vma lma ing : Int32} (hS : ∀ i, i < ns → lk_sc xstmtOp xstmtA xstmtB xstmtOwner ystOut xoutRegion xoutLoaded xoutGroup i) (hno : no = lk_no xstmtOp ns) (hng : ng = lk_ng xstmtOp ns) (h8 : no ≤ 8) (h4 : ng ≤ 4) (hN : lk_N ni nb xinKind xinAlign xinSize xinFirstByte yinBss yinLen) (hA : lk_hA ni ns xstmtOp xinStmt xinLive) (hl : lk_hl ni no ns xinStmt xinLive xstmtOwner ystOut) (hi : i < ns) (hW : lk_WI ni xstmtOp xoutRegion xoutLoaded xinStmt xinLive (fun s => (xstmtOwner (xinStmt s).toNatClampNeg).toNatClampNeg) (fun s => (xinSize s).toNatClampNeg) i C0 C1 V L D G0 GE IV xcounter xoutVma xoutLma xoutDot xgroupStart xgroupEnd xinVma youtSize ygStart ygEnd yinVma yinLma c0 c1 g0 yge grp kk dot vma lma ing) (ho : xstmtOp i = 8) : ∃ (C0' C1' : Nat) (V' L' D' G0' GE' IV' : Nat → Nat) (ct oa vm lm dt gs ge xv os yg0 yg1 yv yl : Nat → Int32) (d0 d1 d2 d3 d4 d5 d6 d7 d8 d9 : Int32), lk_WI ni xstmtOp xoutRegion xoutLoaded xinStmt xinLive (fun s => (xstmtOwner (xinStmt s).toNatClampNeg).toNatClampNeg) (fun s => (xinSize s).toNatClampNeg) (i + 1) C0' C1' V' L' D' G0' GE' IV' ct vm lm dt gs ge xv os yg0 yg1 yv yl d0 d1 d2 d3 d4 d5 d6 d7 d8 d9 ∧ (∀ post : Int32 → SX → Prop, post 1 (xphase, (nI ns), xopenOut, xopenGroup, (nI no), (nI ng), (nI ni), (nI nb), (nI nr), xregionSize, ct, xmemory, xstmtOp, xstmtA, xstmtB, xstmtOwner, xoutRegion, xoutLoaded, xoutGroup, oa, vm, lm, dt, gs, ge, xgroupResident, xinKind, xinId, xinAlign, xinSize, xinFirstByte, xinStmt, xinLive, xv, xfedBytes, xrelocOwner, xrelocOffset, xrelocType, xrelocTarget, xrelocAddend) → wpX_place post (xphase, (nI ns), xopenOut, xopenGroup, (nI no), (nI ng), (nI ni), (nI nb), (nI nr), xregionSize, xcounter, xmemory, xstmtOp, xstmtA, xstmtB, xstmtOwner, xoutRegion, xoutLoaded, xoutGroup, xoutAlign, xoutVma, xoutLma, xoutDot, xgroupStart, xgroupEnd, xgroupResident, xinKind, xinId, xinAlign, xinSize, xinFirstByte, xinStmt, xinLive, xinVma, xfedBytes, xrelocOwner, xrelocOffset, xrelocType, xrelocTarget, xrelocAddend) (nI i)) ∧ (∀ (post : Int32 → SY → Prop) (n : Nat), wY_walk_32 post (nI R0) (nI R1) xphase (nI ns) (nI no) (nI ng) (nI ni) (nI nb) (nI nr) xopenOut yinGroup (nI ni - 1) yfinalC0 yfinalC1 n d0 d1 d2 d3 d4 d5 d6 d7 d8 d9 (nI (i + 1)) xstmtOp xstmtA xstmtB ystOut xoutRegion xoutLoaded xoutGroup vm lm os oa youtRes yg0 yg1 xinKind xinId xinAlign yinBss xinFirstByte yinLen xinStmt xinLive yv yl xfedBytes xrelocOwner xrelocOffset xrelocType xrelocTarget xrelocAddend yrom yram → wY_walk_32 post (nI R0) (nI R1) xphase (nI ns) (nI no) (nI ng) (nI ni) (nI nb) (nI nr) xopenOut yinGroup (nI ni - 1) yfinalC0 yfinalC1 (n + 1) c0 c1 g0 yge grp kk dot vma lma ing (nI i) xstmtOp xstmtA xstmtB ystOut xoutRegion xoutLoaded xoutGroup xoutVma xoutLma youtSize xoutAlign youtRes ygStart ygEnd xinKind xinId xinAlign yinBss xinFirstByte yinLen xinStmt xinLive yinVma yinLma xfedBytes xrelocOwner xrelocOffset xrelocType xrelocTarget xrelocAddend yrom yram) := by
  have n32 := hA.1
  have e : (nI i).toNatClampNeg = i := nI_clamp (by omega)
  have vi : vp_in (nI i) 32 := vp_in_nI (by omega) (by omega)
  have nglt := lk_ng_m (op := xstmtOp) (i := i + 1) (ns - (i + 1))
  rw [show i + 1 + (ns - (i + 1)) = ns by omega, ← hng] at nglt
  rw [lk_ng_s, ho, if_pos rfl] at nglt
  have sc : lk_is xstmtOp i = false ∧ lk_ig xstmtOp i = false ∧ xstmtOwner i = nI (lk_ng xstmtOp i) := by
    rcases hS i hi with ⟨h, _⟩ | ⟨h | h | h, _⟩ | ⟨h | h | h, _⟩ | ⟨_, h⟩ | ⟨h, _⟩
    case inr.inr.inr.inl => exact h
    all_goals rw [ho] at h; exact absurd h (by decide)
  obtain ⟨his, hig, eox⟩ := sc
  have hW2 := hW
  unfold lk_WI at hW2
  obtain ⟨_, ⟨w1, w2, w3, w4⟩, _, _, _, _, _, ⟨_, w6, _⟩, _⟩ := hW2
  have W1 := lk_V_ovl hW hA hi ho his hig
  have vg : vp_in (nI (lk_ng xstmtOp i)) 4 := vp_in_nI (by omega) (by omega)
  have eg : (nI (lk_ng xstmtOp i)).toNatClampNeg = lk_ng xstmtOp i := nI_clamp (by omega)
  refine ⟨_, _, _, _, _, _, _, _, _, xoutAlign, _, _, _, _, _, _, _, _, _, _, _, _, _, _, _, _, _, _, _, _, _, W1, fun post hp => ?_, fun post n hp => ?_⟩
  · exact ⟨vi, nm_r (e' := nI (lk_ng xstmtOp i)) (by rw [e, eox]) ⟨vi, nm_r (e' := 8) (by rw [e, ho]) (br_f (by decide) (br_f (by decide) (br_f (by decide) (br_f (by decide) (br_f (by decide) (br_f (by decide) (br_f (by decide) (br_f (by decide) (br_f (by decide) (br_t rfl ⟨vg, nm_r (by rw [eg, w2]) ⟨vg, nm_r (by rw [eg, w2]) hp⟩⟩))))))))))⟩⟩
  · rw [w4] at hp ⊢
    exact br_f (nI_ge hi (by omega)) (br_f (nI_ge (b := 32) (by omega) (by omega)) ⟨vi, nm_r (e' := 8) (by rw [e, ho]) ⟨vi, nm_e ⟨vi, nm_e (br_f (by decide) (br_f (by decide) (br_f (by decide) (br_f (by decide) (br_f (by decide) (br_f (by decide) (br_f (by decide) (br_t rfl (nm_r (by rw [w6, Int32.sub_add_cancel]) (nm_r (nI_1 i) hp))))))))))⟩⟩⟩)
theorem lk_w_ove {ns no ng ni nb nr R0 R1 : Nat} {xphase xopenOut xopenGroup yinGroup yfinalC0 yfinalC1 : Int32} {xregionSize xcounter xmemory xstmtOp xstmtA xstmtB xstmtOwner xoutRegion xoutLoaded xoutGroup xoutAlign xoutVma xoutLma xoutDot xgroupStart xgroupEnd xgroupResident xinKind xinId xinAlign xinSize xinFirstByte xinStmt xinLive xinVma xfedBytes xrelocOwner xrelocOffset xrelocType xrelocTarget xrelocAddend ystOut youtSize youtRes ygStart ygEnd yinBss yinLen yinVma yinLma yrom yram : Nat → Int32} {i C0 C1 : Nat} {V L D G0 GE IV : Nat → Nat} {c0 c1 g0 yge grp kk dot vma lma ing : Int32} (hS : ∀ i, i < ns → lk_sc xstmtOp xstmtA xstmtB xstmtOwner ystOut xoutRegion xoutLoaded xoutGroup i) (hno : no = lk_no xstmtOp ns) (hng : ng = lk_ng xstmtOp ns) (h8 : no ≤ 8) (h4 : ng ≤ 4) (hN : lk_N ni nb xinKind xinAlign xinSize xinFirstByte yinBss yinLen) (hA : lk_hA ni ns xstmtOp xinStmt xinLive) (hl : lk_hl ni no ns xinStmt xinLive xstmtOwner ystOut) (hi : i < ns) (hW : lk_WI ni xstmtOp xoutRegion xoutLoaded xinStmt xinLive (fun s => (xstmtOwner (xinStmt s).toNatClampNeg).toNatClampNeg) (fun s => (xinSize s).toNatClampNeg) i C0 C1 V L D G0 GE IV xcounter xoutVma xoutLma xoutDot xgroupStart xgroupEnd xinVma youtSize ygStart ygEnd yinVma yinLma c0 c1 g0 yge grp kk dot vma lma ing) (ho : xstmtOp i = 9) : ∃ (C0' C1' : Nat) (V' L' D' G0' GE' IV' : Nat → Nat) (ct oa vm lm dt gs ge xv os yg0 yg1 yv yl : Nat → Int32) (d0 d1 d2 d3 d4 d5 d6 d7 d8 d9 : Int32), lk_WI ni xstmtOp xoutRegion xoutLoaded xinStmt xinLive (fun s => (xstmtOwner (xinStmt s).toNatClampNeg).toNatClampNeg) (fun s => (xinSize s).toNatClampNeg) (i + 1) C0' C1' V' L' D' G0' GE' IV' ct vm lm dt gs ge xv os yg0 yg1 yv yl d0 d1 d2 d3 d4 d5 d6 d7 d8 d9 ∧ (∀ post : Int32 → SX → Prop, post 1 (xphase, (nI ns), xopenOut, xopenGroup, (nI no), (nI ng), (nI ni), (nI nb), (nI nr), xregionSize, ct, xmemory, xstmtOp, xstmtA, xstmtB, xstmtOwner, xoutRegion, xoutLoaded, xoutGroup, oa, vm, lm, dt, gs, ge, xgroupResident, xinKind, xinId, xinAlign, xinSize, xinFirstByte, xinStmt, xinLive, xv, xfedBytes, xrelocOwner, xrelocOffset, xrelocType, xrelocTarget, xrelocAddend) → wpX_place post (xphase, (nI ns), xopenOut, xopenGroup, (nI no), (nI ng), (nI ni), (nI nb), (nI nr), xregionSize, xcounter, xmemory, xstmtOp, xstmtA, xstmtB, xstmtOwner, xoutRegion, xoutLoaded, xoutGroup, xoutAlign, xoutVma, xoutLma, xoutDot, xgroupStart, xgroupEnd, xgroupResident, xinKind, xinId, xinAlign, xinSize, xinFirstByte, xinStmt, xinLive, xinVma, xfedBytes, xrelocOwner, xrelocOffset, xrelocType, xrelocTarget, xrelocAddend) (nI i)) ∧ (∀ (post : Int32 → SY → Prop) (n : Nat), wY_walk_32 post (nI R0) (nI R1) xphase (nI ns) (nI no) (nI ng) (nI ni) (nI nb) (nI nr) xopenOut yinGroup (nI ni - 1) yfinalC0 yfinalC1 n d0 d1 d2 d3 d4 d5 d6 d7 d8 d9 (nI (i + 1)) xstmtOp xstmtA xstmtB ystOut xoutRegion xoutLoaded xoutGroup vm lm os oa youtRes yg0 yg1 xinKind xinId xinAlign yinBss xinFirstByte yinLen xinStmt xinLive yv yl xfedBytes xrelocOwner xrelocOffset xrelocType xrelocTarget xrelocAddend yrom yram → wY_walk_32 post (nI R0) (nI R1) xphase (nI ns) (nI no) (nI ng) (nI ni) (nI nb) (nI nr) xopenOut yinGroup (nI ni - 1) yfinalC0 yfinalC1 (n + 1) c0 c1 g0 yge grp kk dot vma lma ing (nI i) xstmtOp xstmtA xstmtB ystOut xoutRegion xoutLoaded xoutGroup xoutVma xoutLma youtSize xoutAlign youtRes ygStart ygEnd xinKind xinId xinAlign yinBss xinFirstByte yinLen xinStmt xinLive yinVma yinLma xfedBytes xrelocOwner xrelocOffset xrelocType xrelocTarget xrelocAddend yrom yram) := by
  have n32 := hA.1
  have e : (nI i).toNatClampNeg = i := nI_clamp (by omega)
  have vi : vp_in (nI i) 32 := vp_in_nI (by omega) (by omega)
  have nglt := lk_ng_m (op := xstmtOp) (i := i) (ns - i)
  rw [show i + (ns - i) = ns by omega, ← hng] at nglt
  have sc : lk_is xstmtOp i = false ∧ lk_ig xstmtOp i = true ∧ xstmtOwner i = nI (lk_ng xstmtOp i - 1) := by
    rcases hS i hi with ⟨h, _⟩ | ⟨h | h | h, _⟩ | ⟨h | h | h, _⟩ | ⟨h, _⟩ | ⟨_, h⟩
    case inr.inr.inr.inr => exact h
    all_goals rw [ho] at h; exact absurd h (by decide)
  obtain ⟨his, hig, eox⟩ := sc
  have hW2 := hW
  unfold lk_WI at hW2
  obtain ⟨_, ⟨w1, w2, w3, w4⟩, _, _, w5, _, _, ⟨_, w6, w7⟩, _⟩ := hW2
  obtain ⟨g, hg⟩ : ∃ g, lk_ng xstmtOp i = g + 1 := ⟨lk_ng xstmtOp i - 1, by have := (w7 hig).1; omega⟩
  have W1 := lk_V_ove hW hA hi ho his hig hg
  have ege := (w5 g (by omega)).2
  rw [hg, Nat.add_sub_cancel] at eox
  rw [hg, nI_pred] at w6
  have vg : vp_in (nI g) 4 := vp_in_nI (by omega) (by omega)
  have eg : (nI g).toNatClampNeg = g := nI_clamp (by omega)
  refine ⟨_, _, _, _, _, _, _, _, _, xoutAlign, _, _, _, _, _, _, _, _, _, _, _, _, _, _, _, _, _, _, _, _, _, W1, fun post hp => ?_, fun post n hp => ?_⟩
  · exact ⟨vi, nm_r (e' := nI g) (by rw [e, eox]) ⟨vi, nm_r (e' := 9) (by rw [e, ho]) (br_f (by decide) (br_f (by decide) (br_f (by decide) (br_f (by decide) (br_f (by decide) (br_f (by decide) (br_f (by decide) (br_f (by decide) (br_f (by decide) (br_f (by decide) (br_t rfl ⟨vg, nm_r (by rw [eg, ege]) hp⟩)))))))))))⟩⟩
  · rw [w6] at hp ⊢
    exact br_f (nI_ge hi (by omega)) (br_f (nI_ge (b := 32) (by omega) (by omega)) ⟨vi, nm_r (e' := 9) (by rw [e, ho]) ⟨vi, nm_e ⟨vi, nm_e (br_f (by decide) (br_f (by decide) (br_f (by decide) (br_f (by decide) (br_f (by decide) (br_f (by decide) (br_f (by decide) (br_f (by decide) (br_t rfl (br_f (nI_pos (by omega)) (br_f (nI_ge (b := 4) (by omega) (by omega)) ⟨vg, nm_r (by rw [eg]) ⟨vg, nm_r (by rw [eg]) (nm_r (nI_1 i) hp)⟩⟩)))))))))))⟩⟩⟩)
theorem lx_mv {post : Int32 → Prop} {ns no ng ni nb nr : Nat} {xphase xopenOut xopenGroup : Int32} {xregionSize xcounter xmemory xstmtOp xstmtA xstmtB xstmtOwner xoutRegion xoutLoaded xoutGroup xoutAlign xoutVma xoutLma xoutDot xgroupStart xgroupEnd xgroupResident xinKind xinId xinAlign xinSize xinFirstByte xinStmt xinLive xinVma xfedBytes xrelocOwner xrelocOffset xrelocType xrelocTarget xrelocAddend : Nat → Int32} {i d x y : Nat} (hi : i < 32) (ea : xstmtA i = nI x) (hd : d < 2 ^ 30) (ho : (xstmtOp i = 5 ∧ d ≤ x ∧ y = x) ∨ (xstmtOp i = 6 ∧ y = d + x) ∨ (xstmtOp i = 7 ∧ lk_A x ∧ y = lk_al d x)) (h : post (nI y)) : wpX_movedDot post (xphase, (nI ns), xopenOut, xopenGroup, (nI no), (nI ng), (nI ni), (nI nb), (nI nr), xregionSize, xcounter, xmemory, xstmtOp, xstmtA, xstmtB, xstmtOwner, xoutRegion, xoutLoaded, xoutGroup, xoutAlign, xoutVma, xoutLma, xoutDot, xgroupStart, xgroupEnd, xgroupResident, xinKind, xinId, xinAlign, xinSize, xinFirstByte, xinStmt, xinLive, xinVma, xfedBytes, xrelocOwner, xrelocOffset, xrelocType, xrelocTarget, xrelocAddend) (nI i) (nI d) := by
  have e : (nI i).toNatClampNeg = i := nI_clamp (by omega)
  have vi : vp_in (nI i) 32 := vp_in_nI hi (by omega)
  rcases ho with ⟨o, _, ey⟩ | ⟨o, ey⟩ | ⟨o, hx, ey⟩
  · refine ⟨vi, nm_r (e' := 5) (by rw [e, o]) (br_t rfl ⟨vi, ?_⟩)⟩
    rw [e, ea, ← ey]
    exact h
  · refine ⟨vi, nm_r (e' := 6) (by rw [e, o]) (br_f (by decide) (br_t rfl ⟨vi, ?_⟩))⟩
    rw [e, ea, nI_add, ← ey]
    exact h
  · refine ⟨vi, nm_r (e' := 7) (by rw [e, o]) (br_f (by decide) (br_f (by decide) ⟨vi, lx_al2 rfl (by rw [e, ea]) hx hd ?_⟩))⟩
    rw [← ey]
    exact h
theorem lx_md1 {post : Int32 → SX → Prop} {ns no ng ni nb nr : Nat} {xphase xopenOut xopenGroup : Int32} {xregionSize xcounter xmemory xstmtOp xstmtA xstmtB xstmtOwner xoutRegion xoutLoaded xoutGroup xoutAlign xoutVma xoutLma xoutDot xgroupStart xgroupEnd xgroupResident xinKind xinId xinAlign xinSize xinFirstByte xinStmt xinLive xinVma xfedBytes xrelocOwner xrelocOffset xrelocType xrelocTarget xrelocAddend : Nat → Int32} {i c d x y : Nat} (hi : i < 32) (eox : xstmtOwner i = nI c) (hc : c < 8) (ed : xoutDot c = nI d) (ea : xstmtA i = nI x) (hx : x ≤ 1023) (hd : d < 2 ^ 30) (ho : (xstmtOp i = 5 ∧ d ≤ x ∧ y = x) ∨ (xstmtOp i = 6 ∧ y = d + x) ∨ (xstmtOp i = 7 ∧ lk_A x ∧ y = lk_al d x)) (h : post 1 (xphase, (nI ns), xopenOut, xopenGroup, (nI no), (nI ng), (nI ni), (nI nb), (nI nr), xregionSize, xcounter, xmemory, xstmtOp, xstmtA, xstmtB, xstmtOwner, xoutRegion, xoutLoaded, xoutGroup, xoutAlign, xoutVma, xoutLma, (upd xoutDot c (nI y)), xgroupStart, xgroupEnd, xgroupResident, xinKind, xinId, xinAlign, xinSize, xinFirstByte, xinStmt, xinLive, xinVma, xfedBytes, xrelocOwner, xrelocOffset, xrelocType, xrelocTarget, xrelocAddend)) : wX_place_125 post (nI i) xphase (nI ns) xopenOut xopenGroup (nI no) (nI ng) (nI ni) (nI nb) (nI nr) xregionSize xcounter xmemory xstmtOp xstmtA xstmtB xstmtOwner xoutRegion xoutLoaded xoutGroup xoutAlign xoutVma xoutLma xoutDot xgroupStart xgroupEnd xgroupResident xinKind xinId xinAlign xinSize xinFirstByte xinStmt xinLive xinVma xfedBytes xrelocOwner xrelocOffset xrelocType xrelocTarget xrelocAddend := by
  have e : (nI i).toNatClampNeg = i := nI_clamp (by omega)
  have vi : vp_in (nI i) 32 := vp_in_nI hi (by omega)
  have ec : (nI c).toNatClampNeg = c := nI_clamp (by omega)
  have vc : vp_in (nI c) 8 := vp_in_nI hc (by omega)
  have ed' : xoutDot (nI c).toNatClampNeg = nI d := by rw [ec, ed]
  have nc : ¬ nI c = -1 := lk_nn1 (by omega)
  refine ⟨vi, nm_r (e' := nI c) (by rw [e, eox]) (br_f nc ⟨vc, vi, ?_⟩)⟩
  rw [ed']
  by_cases o5 : xstmtOp (nI i).toNatClampNeg = 5
  · refine br_t o5 ⟨vi, br_t ?_ (lx_mv hi ea hd ho (br_f nc ⟨vc, nm_r (by rw [ec]) ⟨rfl, h⟩⟩))⟩
    rw [e] at o5 ⊢
    rw [ea, nI_leI (by omega) (by omega)]
    rcases ho with ⟨_, z, _⟩ | ⟨z, _⟩ | ⟨z, _⟩
    · exact z
    · rw [o5] at z; exact absurd z (by decide)
    · rw [o5] at z; exact absurd z (by decide)
  · exact br_f o5 (lx_mv hi ea hd ho (br_f nc ⟨vc, nm_r (by rw [ec]) ⟨rfl, h⟩⟩))
theorem lx_md0 {post : Int32 → SX → Prop} {ns no ng ni nb nr : Nat} {xphase xopenOut xopenGroup : Int32} {xregionSize xcounter xmemory xstmtOp xstmtA xstmtB xstmtOwner xoutRegion xoutLoaded xoutGroup xoutAlign xoutVma xoutLma xoutDot xgroupStart xgroupEnd xgroupResident xinKind xinId xinAlign xinSize xinFirstByte xinStmt xinLive xinVma xfedBytes xrelocOwner xrelocOffset xrelocType xrelocTarget xrelocAddend : Nat → Int32} {i r d x y : Nat} (hi : i < 32) (eox : xstmtOwner i = -1) (hr : r < 2) (eb : xstmtB i = nI r) (ed : xcounter r = nI d) (ea : xstmtA i = nI x) (hx : x ≤ 1023) (hd : d < 2 ^ 30) (ho : (xstmtOp i = 5 ∧ d ≤ x ∧ y = x) ∨ (xstmtOp i = 6 ∧ y = d + x) ∨ (xstmtOp i = 7 ∧ lk_A x ∧ y = lk_al d x)) (h : post 1 (xphase, (nI ns), xopenOut, xopenGroup, (nI no), (nI ng), (nI ni), (nI nb), (nI nr), xregionSize, (upd xcounter r (nI y)), xmemory, xstmtOp, xstmtA, xstmtB, xstmtOwner, xoutRegion, xoutLoaded, xoutGroup, xoutAlign, xoutVma, xoutLma, xoutDot, xgroupStart, xgroupEnd, xgroupResident, xinKind, xinId, xinAlign, xinSize, xinFirstByte, xinStmt, xinLive, xinVma, xfedBytes, xrelocOwner, xrelocOffset, xrelocType, xrelocTarget, xrelocAddend)) : wX_place_125 post (nI i) xphase (nI ns) xopenOut xopenGroup (nI no) (nI ng) (nI ni) (nI nb) (nI nr) xregionSize xcounter xmemory xstmtOp xstmtA xstmtB xstmtOwner xoutRegion xoutLoaded xoutGroup xoutAlign xoutVma xoutLma xoutDot xgroupStart xgroupEnd xgroupResident xinKind xinId xinAlign xinSize xinFirstByte xinStmt xinLive xinVma xfedBytes xrelocOwner xrelocOffset xrelocType xrelocTarget xrelocAddend := by
  have e : (nI i).toNatClampNeg = i := nI_clamp (by omega)
  have vi : vp_in (nI i) 32 := vp_in_nI hi (by omega)
  have er : (nI r).toNatClampNeg = r := nI_clamp (by omega)
  have vr : vp_in (xstmtB (nI i).toNatClampNeg) 2 := by rw [e, eb]; exact vp_in_nI hr (by omega)
  have ed' : xcounter (xstmtB (nI i).toNatClampNeg).toNatClampNeg = nI d := by rw [e, eb, er, ed]
  refine ⟨vi, nm_r (e' := -1) (by rw [e, eox]) (br_t rfl ⟨vi, vr, vi, ?_⟩)⟩
  rw [ed']
  by_cases o5 : xstmtOp (nI i).toNatClampNeg = 5
  · refine br_t o5 ⟨vi, br_t ?_ (lx_mv hi ea hd ho (br_t rfl ⟨vi, vr, nm_r (by rw [e, eb, er]) ⟨rfl, h⟩⟩))⟩
    rw [e] at o5 ⊢
    rw [ea, nI_leI (by omega) (by omega)]
    rcases ho with ⟨_, z, _⟩ | ⟨z, _⟩ | ⟨z, _⟩
    · exact z
    · rw [o5] at z; exact absurd z (by decide)
    · rw [o5] at z; exact absurd z (by decide)
  · exact br_f o5 (lx_mv hi ea hd ho (br_t rfl ⟨vi, vr, nm_r (by rw [e, eb, er]) ⟨rfl, h⟩⟩))
theorem lx_b1 {post : Int32 → SX → Prop} {ns no ng ni nb nr : Nat} {xphase xopenOut xopenGroup : Int32} {xregionSize xcounter xmemory xstmtOp xstmtA xstmtB xstmtOwner xoutRegion xoutLoaded xoutGroup xoutAlign xoutVma xoutLma xoutDot xgroupStart xgroupEnd xgroupResident xinKind xinId xinAlign xinSize xinFirstByte xinStmt xinLive xinVma xfedBytes xrelocOwner xrelocOffset xrelocType xrelocTarget xrelocAddend : Nat → Int32} {i c d x : Nat} (hi : i < 32) (eox : xstmtOwner i = nI c) (hc : c < 8) (ed : xoutDot c = nI d) (ea : xstmtA i = nI x) (hx : x < d) (hd : d < 2 ^ 30) (o : xstmtOp i = 5) (h : post 0 (xphase, (nI ns), xopenOut, xopenGroup, (nI no), (nI ng), (nI ni), (nI nb), (nI nr), xregionSize, xcounter, xmemory, xstmtOp, xstmtA, xstmtB, xstmtOwner, xoutRegion, xoutLoaded, xoutGroup, xoutAlign, xoutVma, xoutLma, xoutDot, xgroupStart, xgroupEnd, xgroupResident, xinKind, xinId, xinAlign, xinSize, xinFirstByte, xinStmt, xinLive, xinVma, xfedBytes, xrelocOwner, xrelocOffset, xrelocType, xrelocTarget, xrelocAddend)) : wX_place_125 post (nI i) xphase (nI ns) xopenOut xopenGroup (nI no) (nI ng) (nI ni) (nI nb) (nI nr) xregionSize xcounter xmemory xstmtOp xstmtA xstmtB xstmtOwner xoutRegion xoutLoaded xoutGroup xoutAlign xoutVma xoutLma xoutDot xgroupStart xgroupEnd xgroupResident xinKind xinId xinAlign xinSize xinFirstByte xinStmt xinLive xinVma xfedBytes xrelocOwner xrelocOffset xrelocType xrelocTarget xrelocAddend := by
  have e : (nI i).toNatClampNeg = i := nI_clamp (by omega)
  have vi : vp_in (nI i) 32 := vp_in_nI hi (by omega)
  have ec : (nI c).toNatClampNeg = c := nI_clamp (by omega)
  have vc : vp_in (nI c) 8 := vp_in_nI hc (by omega)
  refine ⟨vi, nm_r (e' := nI c) (by rw [e, eox]) (br_f (lk_nn1 (by omega)) ⟨vc, vi, br_t (by rw [e, o]) ⟨vi, br_f ?_ ⟨rfl, h⟩⟩⟩)⟩
  rw [ec, ed, e, ea]
  exact nI_ge hx (by omega)
theorem lx_b0 {post : Int32 → SX → Prop} {ns no ng ni nb nr : Nat} {xphase xopenOut xopenGroup : Int32} {xregionSize xcounter xmemory xstmtOp xstmtA xstmtB xstmtOwner xoutRegion xoutLoaded xoutGroup xoutAlign xoutVma xoutLma xoutDot xgroupStart xgroupEnd xgroupResident xinKind xinId xinAlign xinSize xinFirstByte xinStmt xinLive xinVma xfedBytes xrelocOwner xrelocOffset xrelocType xrelocTarget xrelocAddend : Nat → Int32} {i r d x : Nat} (hi : i < 32) (eox : xstmtOwner i = -1) (hr : r < 2) (eb : xstmtB i = nI r) (ed : xcounter r = nI d) (ea : xstmtA i = nI x) (hx : x < d) (hd : d < 2 ^ 30) (o : xstmtOp i = 5) (h : post 0 (xphase, (nI ns), xopenOut, xopenGroup, (nI no), (nI ng), (nI ni), (nI nb), (nI nr), xregionSize, xcounter, xmemory, xstmtOp, xstmtA, xstmtB, xstmtOwner, xoutRegion, xoutLoaded, xoutGroup, xoutAlign, xoutVma, xoutLma, xoutDot, xgroupStart, xgroupEnd, xgroupResident, xinKind, xinId, xinAlign, xinSize, xinFirstByte, xinStmt, xinLive, xinVma, xfedBytes, xrelocOwner, xrelocOffset, xrelocType, xrelocTarget, xrelocAddend)) : wX_place_125 post (nI i) xphase (nI ns) xopenOut xopenGroup (nI no) (nI ng) (nI ni) (nI nb) (nI nr) xregionSize xcounter xmemory xstmtOp xstmtA xstmtB xstmtOwner xoutRegion xoutLoaded xoutGroup xoutAlign xoutVma xoutLma xoutDot xgroupStart xgroupEnd xgroupResident xinKind xinId xinAlign xinSize xinFirstByte xinStmt xinLive xinVma xfedBytes xrelocOwner xrelocOffset xrelocType xrelocTarget xrelocAddend := by
  have e : (nI i).toNatClampNeg = i := nI_clamp (by omega)
  have vi : vp_in (nI i) 32 := vp_in_nI hi (by omega)
  have er : (nI r).toNatClampNeg = r := nI_clamp (by omega)
  have vr : vp_in (xstmtB (nI i).toNatClampNeg) 2 := by rw [e, eb]; exact vp_in_nI hr (by omega)
  refine ⟨vi, nm_r (e' := -1) (by rw [e, eox]) (br_t rfl ⟨vi, vr, vi, br_t (by rw [e, o]) ⟨vi, br_f ?_ ⟨rfl, h⟩⟩⟩)⟩
  rw [e, eb, er, ed, ea]
  exact nI_ge hx (by omega)
end
end
section

section
/-! AA: the walk: the dot ops -/
theorem lk_w_d5 {ns no ng ni nb nr R0 R1 : Nat} {xphase xopenOut xopenGroup yinGroup yfinalC0 yfinalC1 : Int32} {xregionSize xcounter xmemory xstmtOp xstmtA xstmtB xstmtOwner xoutRegion xoutLoaded xoutGroup xoutAlign xoutVma xoutLma xoutDot xgroupStart xgroupEnd xgroupResident xinKind xinId xinAlign xinSize xinFirstByte xinStmt xinLive xinVma xfedBytes xrelocOwner xrelocOffset xrelocType xrelocTarget xrelocAddend ystOut youtSize youtRes ygStart ygEnd yinBss yinLen yinVma yinLma yrom yram : Nat → Int32} {i C0 C1 : Nat} {V L D G0 GE IV : Nat → Nat} {c0 c1 g0 yge grp kk dot vma lma ing : Int32} (hS : ∀ i, i < ns → lk_sc xstmtOp xstmtA xstmtB xstmtOwner ystOut xoutRegion xoutLoaded xoutGroup i) (hno : no = lk_no xstmtOp ns) (hng : ng = lk_ng xstmtOp ns) (h8 : no ≤ 8) (h4 : ng ≤ 4) (hN : lk_N ni nb xinKind xinAlign xinSize xinFirstByte yinBss yinLen) (hA : lk_hA ni ns xstmtOp xinStmt xinLive) (hl : lk_hl ni no ns xinStmt xinLive xstmtOwner ystOut) (hi : i < ns) (hW : lk_WI ni xstmtOp xoutRegion xoutLoaded xinStmt xinLive (fun s => (xstmtOwner (xinStmt s).toNatClampNeg).toNatClampNeg) (fun s => (xinSize s).toNatClampNeg) i C0 C1 V L D G0 GE IV xcounter xoutVma xoutLma xoutDot xgroupStart xgroupEnd xinVma youtSize ygStart ygEnd yinVma yinLma c0 c1 g0 yge grp kk dot vma lma ing) (ho : xstmtOp i = 5) : (∃ (C0' C1' : Nat) (V' L' D' G0' GE' IV' : Nat → Nat) (ct oa vm lm dt gs ge xv os yg0 yg1 yv yl : Nat → Int32) (d0 d1 d2 d3 d4 d5 d6 d7 d8 d9 : Int32), lk_WI ni xstmtOp xoutRegion xoutLoaded xinStmt xinLive (fun s => (xstmtOwner (xinStmt s).toNatClampNeg).toNatClampNeg) (fun s => (xinSize s).toNatClampNeg) (i + 1) C0' C1' V' L' D' G0' GE' IV' ct vm lm dt gs ge xv os yg0 yg1 yv yl d0 d1 d2 d3 d4 d5 d6 d7 d8 d9 ∧ (∀ post : Int32 → SX → Prop, post 1 (xphase, (nI ns), xopenOut, xopenGroup, (nI no), (nI ng), (nI ni), (nI nb), (nI nr), xregionSize, ct, xmemory, xstmtOp, xstmtA, xstmtB, xstmtOwner, xoutRegion, xoutLoaded, xoutGroup, oa, vm, lm, dt, gs, ge, xgroupResident, xinKind, xinId, xinAlign, xinSize, xinFirstByte, xinStmt, xinLive, xv, xfedBytes, xrelocOwner, xrelocOffset, xrelocType, xrelocTarget, xrelocAddend) → wpX_place post (xphase, (nI ns), xopenOut, xopenGroup, (nI no), (nI ng), (nI ni), (nI nb), (nI nr), xregionSize, xcounter, xmemory, xstmtOp, xstmtA, xstmtB, xstmtOwner, xoutRegion, xoutLoaded, xoutGroup, xoutAlign, xoutVma, xoutLma, xoutDot, xgroupStart, xgroupEnd, xgroupResident, xinKind, xinId, xinAlign, xinSize, xinFirstByte, xinStmt, xinLive, xinVma, xfedBytes, xrelocOwner, xrelocOffset, xrelocType, xrelocTarget, xrelocAddend) (nI i)) ∧ (∀ (post : Int32 → SY → Prop) (n : Nat), wY_walk_32 post (nI R0) (nI R1) xphase (nI ns) (nI no) (nI ng) (nI ni) (nI nb) (nI nr) xopenOut yinGroup (nI ni - 1) yfinalC0 yfinalC1 n d0 d1 d2 d3 d4 d5 d6 d7 d8 d9 (nI (i + 1)) xstmtOp xstmtA xstmtB ystOut xoutRegion xoutLoaded xoutGroup vm lm os oa youtRes yg0 yg1 xinKind xinId xinAlign yinBss xinFirstByte yinLen xinStmt xinLive yv yl xfedBytes xrelocOwner xrelocOffset xrelocType xrelocTarget xrelocAddend yrom yram → wY_walk_32 post (nI R0) (nI R1) xphase (nI ns) (nI no) (nI ng) (nI ni) (nI nb) (nI nr) xopenOut yinGroup (nI ni - 1) yfinalC0 yfinalC1 (n + 1) c0 c1 g0 yge grp kk dot vma lma ing (nI i) xstmtOp xstmtA xstmtB ystOut xoutRegion xoutLoaded xoutGroup xoutVma xoutLma youtSize xoutAlign youtRes ygStart ygEnd xinKind xinId xinAlign yinBss xinFirstByte yinLen xinStmt xinLive yinVma yinLma xfedBytes xrelocOwner xrelocOffset xrelocType xrelocTarget xrelocAddend yrom yram)) ∨ ((∀ post : Int32 → SX → Prop, post 0 (xphase, (nI ns), xopenOut, xopenGroup, (nI no), (nI ng), (nI ni), (nI nb), (nI nr), xregionSize, xcounter, xmemory, xstmtOp, xstmtA, xstmtB, xstmtOwner, xoutRegion, xoutLoaded, xoutGroup, xoutAlign, xoutVma, xoutLma, xoutDot, xgroupStart, xgroupEnd, xgroupResident, xinKind, xinId, xinAlign, xinSize, xinFirstByte, xinStmt, xinLive, xinVma, xfedBytes, xrelocOwner, xrelocOffset, xrelocType, xrelocTarget, xrelocAddend) → wpX_place post (xphase, (nI ns), xopenOut, xopenGroup, (nI no), (nI ng), (nI ni), (nI nb), (nI nr), xregionSize, xcounter, xmemory, xstmtOp, xstmtA, xstmtB, xstmtOwner, xoutRegion, xoutLoaded, xoutGroup, xoutAlign, xoutVma, xoutLma, xoutDot, xgroupStart, xgroupEnd, xgroupResident, xinKind, xinId, xinAlign, xinSize, xinFirstByte, xinStmt, xinLive, xinVma, xfedBytes, xrelocOwner, xrelocOffset, xrelocType, xrelocTarget, xrelocAddend) (nI i)) ∧ (∀ (post : Int32 → SY → Prop) (n : Nat), post 0 ((nI R0), (nI R1), xphase, (nI ns), (nI no), (nI ng), (nI ni), (nI nb), (nI nr), xopenOut, yinGroup, (nI ni - 1), yfinalC0, yfinalC1, xstmtOp, xstmtA, xstmtB, ystOut, xoutRegion, xoutLoaded, xoutGroup, xoutVma, xoutLma, youtSize, xoutAlign, youtRes, ygStart, ygEnd, xinKind, xinId, xinAlign, yinBss, xinFirstByte, yinLen, xinStmt, xinLive, yinVma, yinLma, xfedBytes, xrelocOwner, xrelocOffset, xrelocType, xrelocTarget, xrelocAddend, yrom, yram) → wY_walk_32 post (nI R0) (nI R1) xphase (nI ns) (nI no) (nI ng) (nI ni) (nI nb) (nI nr) xopenOut yinGroup (nI ni - 1) yfinalC0 yfinalC1 (n + 1) c0 c1 g0 yge grp kk dot vma lma ing (nI i) xstmtOp xstmtA xstmtB ystOut xoutRegion xoutLoaded xoutGroup xoutVma xoutLma youtSize xoutAlign youtRes ygStart ygEnd xinKind xinId xinAlign yinBss xinFirstByte yinLen xinStmt xinLive yinVma yinLma xfedBytes xrelocOwner xrelocOffset xrelocType xrelocTarget xrelocAddend yrom yram)) := by
  have n32 := hA.1
  have e : (nI i).toNatClampNeg = i := nI_clamp (by omega)
  have vi : vp_in (nI i) 32 := vp_in_nI (by omega) (by omega)
  have sc : (∃ x, x ≤ 1023 ∧ xstmtA i = nI x ∧ (xstmtOp i = 7 → lk_A x)) ∧ ((lk_is xstmtOp i = true ∧ xstmtOwner i = nI (lk_no xstmtOp i - 1) ∧ ystOut i = nI (lk_no xstmtOp i - 1)) ∨ (lk_is xstmtOp i = false ∧ lk_ig xstmtOp i = false ∧ xstmtOwner i = -1 ∧ ystOut i = -1 ∧ (xstmtB i = 0 ∨ xstmtB i = 1))) := by
    rcases hS i hi with ⟨h, _⟩ | ⟨h | h | h, _⟩ | ⟨_, h⟩ | ⟨h, _⟩ | ⟨h, _⟩
    case inr.inr.inl => exact h
    all_goals rw [ho] at h; exact absurd h (by decide)
  obtain ⟨⟨x, hx, ea, hx7⟩, sc⟩ := sc
  have nm := lk_no_m (op := xstmtOp) (i := i) (ns - i)
  rw [show i + (ns - i) = ns by omega, ← hno] at nm
  have hW2 := hW
  unfold lk_WI at hW2
  obtain ⟨⟨⟨g1, g2, g3, _, _⟩, g4, _⟩, ⟨w1, w2, w3, w4⟩, w8, _, _, _, _, _, w9, w10⟩ := hW2
  rcases sc with ⟨his, eox, _⟩ | ⟨his, hig, eox, _, eb⟩
  · have hnt := lk_nc_t his
    rw [show lk_no xstmtOp i - 1 = lk_nc xstmtOp i by omega] at eox
    have hD := (g4 (lk_nc xstmtOp i) (by omega)).2.1
    have ed := (w8 (lk_nc xstmtOp i) (by omega)).2.2
    obtain ⟨k1, k2, _, _⟩ := w9 (by omega)
    have nk : ¬ kk < 0 := by rw [k1]; exact nI_pos (by omega)
    by_cases cx : D (lk_nc xstmtOp i) ≤ x
    · have W1 := lk_V_dot (x := x) hW hA hi (Or.inl ho) his (by omega) (by omega)
      refine Or.inl ⟨_, _, _, _, _, _, _, _, _, xoutAlign, _, _, _, _, _, _, _, _, _, _, _, _, _, _, _, _, _, _, _, _, _, W1, fun post hp => ?_, fun post n hp => ?_⟩
      · exact ⟨vi, nm_e ⟨vi, nm_r (e' := 5) (by rw [e, ho]) (br_f (by decide) (br_f (by decide) (br_f (by decide) (br_f (by decide) (br_f (by decide) (br_f (by decide) (br_t rfl (lx_md1 (by omega) eox (by omega) ed ea hx (by omega) (Or.inl ⟨ho, cx, rfl⟩) hp))))))))⟩⟩
      · exact br_f (nI_ge hi (by omega)) (br_f (nI_ge (b := 32) (by omega) (by omega)) ⟨vi, nm_r (e' := 5) (by rw [e, ho]) ⟨vi, nm_r (e' := nI x) (by rw [e, ea]) ⟨vi, nm_r (e' := xstmtB i) (by rw [e]) (br_f (by decide) (br_f (by decide) (br_f (by decide) (br_f (by decide) (br_t rfl (br_f nk (br_t (by rw [k2, nI_leI (by omega) (by omega)]; exact cx) (nm_r (nI_1 i) hp))))))))⟩⟩⟩)
    · refine Or.inr ⟨fun post hp => ?_, fun post n hp => ?_⟩
      · exact ⟨vi, nm_e ⟨vi, nm_r (e' := 5) (by rw [e, ho]) (br_f (by decide) (br_f (by decide) (br_f (by decide) (br_f (by decide) (br_f (by decide) (br_f (by decide) (br_t rfl (lx_b1 (by omega) eox (by omega) ed ea (by omega) (by omega) ho hp))))))))⟩⟩
      · exact br_f (nI_ge hi (by omega)) (br_f (nI_ge (b := 32) (by omega) (by omega)) ⟨vi, nm_r (e' := 5) (by rw [e, ho]) ⟨vi, nm_r (e' := nI x) (by rw [e, ea]) ⟨vi, nm_r (e' := xstmtB i) (by rw [e]) (br_f (by decide) (br_f (by decide) (br_f (by decide) (br_f (by decide) (br_t rfl (br_f nk (br_f (by rw [k2, nI_leI (by omega) (by omega)]; exact cx) hp)))))))⟩⟩⟩)
  · have hnf := lk_nc_f his
    have k1 := w10 hnf
    have nk : kk < 0 := by rw [k1]; decide
    rcases eb with eb | eb
    · by_cases cx : C0 ≤ x
      · have W1 := lk_V_cnt (C0' := x) (C1' := C1) (ct' := upd xcounter 0 (nI (x))) (c0' := nI (x)) (c1' := c1) hW hA hi (Or.inl ho) his (by omega) (by omega) (by omega) (by omega) ⟨pk_us, by rw [pk_un (by decide)]; exact w2, rfl, w4⟩
        refine Or.inl ⟨_, _, _, _, _, _, _, _, _, xoutAlign, _, _, _, _, _, _, _, _, _, _, _, _, _, _, _, _, _, _, _, _, _, W1, fun post hp => ?_, fun post n hp => ?_⟩
        · exact ⟨vi, nm_e ⟨vi, nm_r (e' := 5) (by rw [e, ho]) (br_f (by decide) (br_f (by decide) (br_f (by decide) (br_f (by decide) (br_f (by decide) (br_f (by decide) (br_t rfl (lx_md0 (r := 0) (by omega) eox (by omega) eb w1 ea hx (by omega) (Or.inl ⟨ho, cx, rfl⟩) hp))))))))⟩⟩
        · exact br_f (nI_ge hi (by omega)) (br_f (nI_ge (b := 32) (by omega) (by omega)) ⟨vi, nm_r (e' := 5) (by rw [e, ho]) ⟨vi, nm_r (e' := nI x) (by rw [e, ea]) ⟨vi, nm_r (e' := xstmtB i) (by rw [e]) (br_f (by decide) (br_f (by decide) (br_f (by decide) (br_f (by decide) (br_t rfl (br_t nk (br_t eb (br_t (by rw [w3, nI_leI (by omega) (by omega)]; exact cx) (nm_r (nI_1 i) hp)))))))))⟩⟩⟩)
      · refine Or.inr ⟨fun post hp => ?_, fun post n hp => ?_⟩
        · exact ⟨vi, nm_e ⟨vi, nm_r (e' := 5) (by rw [e, ho]) (br_f (by decide) (br_f (by decide) (br_f (by decide) (br_f (by decide) (br_f (by decide) (br_f (by decide) (br_t rfl (lx_b0 (r := 0) (by omega) eox (by omega) eb w1 ea (by omega) (by omega) ho hp))))))))⟩⟩
        · exact br_f (nI_ge hi (by omega)) (br_f (nI_ge (b := 32) (by omega) (by omega)) ⟨vi, nm_r (e' := 5) (by rw [e, ho]) ⟨vi, nm_r (e' := nI x) (by rw [e, ea]) ⟨vi, nm_r (e' := xstmtB i) (by rw [e]) (br_f (by decide) (br_f (by decide) (br_f (by decide) (br_f (by decide) (br_t rfl (br_t nk (br_t eb (br_f (by rw [w3, nI_leI (by omega) (by omega)]; exact cx) hp))))))))⟩⟩⟩)
    · by_cases cx : C1 ≤ x
      · have W1 := lk_V_cnt (C0' := C0) (C1' := x) (ct' := upd xcounter 1 (nI (x))) (c0' := c0) (c1' := nI (x)) hW hA hi (Or.inl ho) his (by omega) (by omega) (by omega) (by omega) ⟨by rw [pk_un (by decide)]; exact w1, pk_us, w3, rfl⟩
        refine Or.inl ⟨_, _, _, _, _, _, _, _, _, xoutAlign, _, _, _, _, _, _, _, _, _, _, _, _, _, _, _, _, _, _, _, _, _, W1, fun post hp => ?_, fun post n hp => ?_⟩
        · exact ⟨vi, nm_e ⟨vi, nm_r (e' := 5) (by rw [e, ho]) (br_f (by decide) (br_f (by decide) (br_f (by decide) (br_f (by decide) (br_f (by decide) (br_f (by decide) (br_t rfl (lx_md0 (r := 1) (by omega) eox (by omega) eb w2 ea hx (by omega) (Or.inl ⟨ho, cx, rfl⟩) hp))))))))⟩⟩
        · exact br_f (nI_ge hi (by omega)) (br_f (nI_ge (b := 32) (by omega) (by omega)) ⟨vi, nm_r (e' := 5) (by rw [e, ho]) ⟨vi, nm_r (e' := nI x) (by rw [e, ea]) ⟨vi, nm_r (e' := xstmtB i) (by rw [e]) (br_f (by decide) (br_f (by decide) (br_f (by decide) (br_f (by decide) (br_t rfl (br_t nk (br_f (by rw [eb]; decide) (br_t (by rw [w4, nI_leI (by omega) (by omega)]; exact cx) (nm_r (nI_1 i) hp)))))))))⟩⟩⟩)
      · refine Or.inr ⟨fun post hp => ?_, fun post n hp => ?_⟩
        · exact ⟨vi, nm_e ⟨vi, nm_r (e' := 5) (by rw [e, ho]) (br_f (by decide) (br_f (by decide) (br_f (by decide) (br_f (by decide) (br_f (by decide) (br_f (by decide) (br_t rfl (lx_b0 (r := 1) (by omega) eox (by omega) eb w2 ea (by omega) (by omega) ho hp))))))))⟩⟩
        · exact br_f (nI_ge hi (by omega)) (br_f (nI_ge (b := 32) (by omega) (by omega)) ⟨vi, nm_r (e' := 5) (by rw [e, ho]) ⟨vi, nm_r (e' := nI x) (by rw [e, ea]) ⟨vi, nm_r (e' := xstmtB i) (by rw [e]) (br_f (by decide) (br_f (by decide) (br_f (by decide) (br_f (by decide) (br_t rfl (br_t nk (br_f (by rw [eb]; decide) (br_f (by rw [w4, nI_leI (by omega) (by omega)]; exact cx) hp))))))))⟩⟩⟩)
theorem lk_w_d6 {ns no ng ni nb nr R0 R1 : Nat} {xphase xopenOut xopenGroup yinGroup yfinalC0 yfinalC1 : Int32} {xregionSize xcounter xmemory xstmtOp xstmtA xstmtB xstmtOwner xoutRegion xoutLoaded xoutGroup xoutAlign xoutVma xoutLma xoutDot xgroupStart xgroupEnd xgroupResident xinKind xinId xinAlign xinSize xinFirstByte xinStmt xinLive xinVma xfedBytes xrelocOwner xrelocOffset xrelocType xrelocTarget xrelocAddend ystOut youtSize youtRes ygStart ygEnd yinBss yinLen yinVma yinLma yrom yram : Nat → Int32} {i C0 C1 : Nat} {V L D G0 GE IV : Nat → Nat} {c0 c1 g0 yge grp kk dot vma lma ing : Int32} (hS : ∀ i, i < ns → lk_sc xstmtOp xstmtA xstmtB xstmtOwner ystOut xoutRegion xoutLoaded xoutGroup i) (hno : no = lk_no xstmtOp ns) (hng : ng = lk_ng xstmtOp ns) (h8 : no ≤ 8) (h4 : ng ≤ 4) (hN : lk_N ni nb xinKind xinAlign xinSize xinFirstByte yinBss yinLen) (hA : lk_hA ni ns xstmtOp xinStmt xinLive) (hl : lk_hl ni no ns xinStmt xinLive xstmtOwner ystOut) (hi : i < ns) (hW : lk_WI ni xstmtOp xoutRegion xoutLoaded xinStmt xinLive (fun s => (xstmtOwner (xinStmt s).toNatClampNeg).toNatClampNeg) (fun s => (xinSize s).toNatClampNeg) i C0 C1 V L D G0 GE IV xcounter xoutVma xoutLma xoutDot xgroupStart xgroupEnd xinVma youtSize ygStart ygEnd yinVma yinLma c0 c1 g0 yge grp kk dot vma lma ing) (ho : xstmtOp i = 6) : ∃ (C0' C1' : Nat) (V' L' D' G0' GE' IV' : Nat → Nat) (ct oa vm lm dt gs ge xv os yg0 yg1 yv yl : Nat → Int32) (d0 d1 d2 d3 d4 d5 d6 d7 d8 d9 : Int32), lk_WI ni xstmtOp xoutRegion xoutLoaded xinStmt xinLive (fun s => (xstmtOwner (xinStmt s).toNatClampNeg).toNatClampNeg) (fun s => (xinSize s).toNatClampNeg) (i + 1) C0' C1' V' L' D' G0' GE' IV' ct vm lm dt gs ge xv os yg0 yg1 yv yl d0 d1 d2 d3 d4 d5 d6 d7 d8 d9 ∧ (∀ post : Int32 → SX → Prop, post 1 (xphase, (nI ns), xopenOut, xopenGroup, (nI no), (nI ng), (nI ni), (nI nb), (nI nr), xregionSize, ct, xmemory, xstmtOp, xstmtA, xstmtB, xstmtOwner, xoutRegion, xoutLoaded, xoutGroup, oa, vm, lm, dt, gs, ge, xgroupResident, xinKind, xinId, xinAlign, xinSize, xinFirstByte, xinStmt, xinLive, xv, xfedBytes, xrelocOwner, xrelocOffset, xrelocType, xrelocTarget, xrelocAddend) → wpX_place post (xphase, (nI ns), xopenOut, xopenGroup, (nI no), (nI ng), (nI ni), (nI nb), (nI nr), xregionSize, xcounter, xmemory, xstmtOp, xstmtA, xstmtB, xstmtOwner, xoutRegion, xoutLoaded, xoutGroup, xoutAlign, xoutVma, xoutLma, xoutDot, xgroupStart, xgroupEnd, xgroupResident, xinKind, xinId, xinAlign, xinSize, xinFirstByte, xinStmt, xinLive, xinVma, xfedBytes, xrelocOwner, xrelocOffset, xrelocType, xrelocTarget, xrelocAddend) (nI i)) ∧ (∀ (post : Int32 → SY → Prop) (n : Nat), wY_walk_32 post (nI R0) (nI R1) xphase (nI ns) (nI no) (nI ng) (nI ni) (nI nb) (nI nr) xopenOut yinGroup (nI ni - 1) yfinalC0 yfinalC1 n d0 d1 d2 d3 d4 d5 d6 d7 d8 d9 (nI (i + 1)) xstmtOp xstmtA xstmtB ystOut xoutRegion xoutLoaded xoutGroup vm lm os oa youtRes yg0 yg1 xinKind xinId xinAlign yinBss xinFirstByte yinLen xinStmt xinLive yv yl xfedBytes xrelocOwner xrelocOffset xrelocType xrelocTarget xrelocAddend yrom yram → wY_walk_32 post (nI R0) (nI R1) xphase (nI ns) (nI no) (nI ng) (nI ni) (nI nb) (nI nr) xopenOut yinGroup (nI ni - 1) yfinalC0 yfinalC1 (n + 1) c0 c1 g0 yge grp kk dot vma lma ing (nI i) xstmtOp xstmtA xstmtB ystOut xoutRegion xoutLoaded xoutGroup xoutVma xoutLma youtSize xoutAlign youtRes ygStart ygEnd xinKind xinId xinAlign yinBss xinFirstByte yinLen xinStmt xinLive yinVma yinLma xfedBytes xrelocOwner xrelocOffset xrelocType xrelocTarget xrelocAddend yrom yram) := by
  have n32 := hA.1
  have e : (nI i).toNatClampNeg = i := nI_clamp (by omega)
  have vi : vp_in (nI i) 32 := vp_in_nI (by omega) (by omega)
  have sc : (∃ x, x ≤ 1023 ∧ xstmtA i = nI x ∧ (xstmtOp i = 7 → lk_A x)) ∧ ((lk_is xstmtOp i = true ∧ xstmtOwner i = nI (lk_no xstmtOp i - 1) ∧ ystOut i = nI (lk_no xstmtOp i - 1)) ∨ (lk_is xstmtOp i = false ∧ lk_ig xstmtOp i = false ∧ xstmtOwner i = -1 ∧ ystOut i = -1 ∧ (xstmtB i = 0 ∨ xstmtB i = 1))) := by
    rcases hS i hi with ⟨h, _⟩ | ⟨h | h | h, _⟩ | ⟨_, h⟩ | ⟨h, _⟩ | ⟨h, _⟩
    case inr.inr.inl => exact h
    all_goals rw [ho] at h; exact absurd h (by decide)
  obtain ⟨⟨x, hx, ea, hx7⟩, sc⟩ := sc
  have nm := lk_no_m (op := xstmtOp) (i := i) (ns - i)
  rw [show i + (ns - i) = ns by omega, ← hno] at nm
  have hW2 := hW
  unfold lk_WI at hW2
  obtain ⟨⟨⟨g1, g2, g3, _, _⟩, g4, _⟩, ⟨w1, w2, w3, w4⟩, w8, _, _, _, _, _, w9, w10⟩ := hW2
  rcases sc with ⟨his, eox, _⟩ | ⟨his, hig, eox, _, eb⟩
  · have hnt := lk_nc_t his
    rw [show lk_no xstmtOp i - 1 = lk_nc xstmtOp i by omega] at eox
    have hD := (g4 (lk_nc xstmtOp i) (by omega)).2.1
    have ed := (w8 (lk_nc xstmtOp i) (by omega)).2.2
    obtain ⟨k1, k2, _, _⟩ := w9 (by omega)
    have nk : ¬ kk < 0 := by rw [k1]; exact nI_pos (by omega)
    have W1 := lk_V_dot (x := D (lk_nc xstmtOp i) + x) hW hA hi (Or.inr (Or.inl ho)) his (by omega) (by omega)
    refine ⟨_, _, _, _, _, _, _, _, _, xoutAlign, _, _, _, _, _, _, _, _, _, _, _, _, _, _, _, _, _, _, _, _, _, W1, fun post hp => ?_, fun post n hp => ?_⟩
    · exact ⟨vi, nm_e ⟨vi, nm_r (e' := 6) (by rw [e, ho]) (br_f (by decide) (br_f (by decide) (br_f (by decide) (br_f (by decide) (br_f (by decide) (br_f (by decide) (br_f (by decide) (br_t rfl (lx_md1 (by omega) eox (by omega) ed ea hx (by omega) (Or.inr (Or.inl ⟨ho, rfl⟩)) hp)))))))))⟩⟩
    · exact br_f (nI_ge hi (by omega)) (br_f (nI_ge (b := 32) (by omega) (by omega)) ⟨vi, nm_r (e' := 6) (by rw [e, ho]) ⟨vi, nm_r (e' := nI x) (by rw [e, ea]) ⟨vi, nm_r (e' := xstmtB i) (by rw [e]) (br_f (by decide) (br_f (by decide) (br_f (by decide) (br_f (by decide) (br_f (by decide) (br_t rfl (br_f nk (nm_r (by rw [k2, nI_add]) (nm_r (nI_1 i) hp)))))))))⟩⟩⟩)
  · have hnf := lk_nc_f his
    have k1 := w10 hnf
    have nk : kk < 0 := by rw [k1]; decide
    rcases eb with eb | eb
    · have W1 := lk_V_cnt (C0' := C0 + x) (C1' := C1) (ct' := upd xcounter 0 (nI (C0 + x))) (c0' := nI (C0 + x)) (c1' := c1) hW hA hi (Or.inr (Or.inl ho)) his (by omega) (by omega) (by omega) (by omega) ⟨pk_us, by rw [pk_un (by decide)]; exact w2, rfl, w4⟩
      refine ⟨_, _, _, _, _, _, _, _, _, xoutAlign, _, _, _, _, _, _, _, _, _, _, _, _, _, _, _, _, _, _, _, _, _, W1, fun post hp => ?_, fun post n hp => ?_⟩
      · exact ⟨vi, nm_e ⟨vi, nm_r (e' := 6) (by rw [e, ho]) (br_f (by decide) (br_f (by decide) (br_f (by decide) (br_f (by decide) (br_f (by decide) (br_f (by decide) (br_f (by decide) (br_t rfl (lx_md0 (r := 0) (by omega) eox (by omega) eb w1 ea hx (by omega) (Or.inr (Or.inl ⟨ho, rfl⟩)) hp)))))))))⟩⟩
      · exact br_f (nI_ge hi (by omega)) (br_f (nI_ge (b := 32) (by omega) (by omega)) ⟨vi, nm_r (e' := 6) (by rw [e, ho]) ⟨vi, nm_r (e' := nI x) (by rw [e, ea]) ⟨vi, nm_r (e' := xstmtB i) (by rw [e]) (br_f (by decide) (br_f (by decide) (br_f (by decide) (br_f (by decide) (br_f (by decide) (br_t rfl (br_t nk (br_t eb (nm_r (by rw [w3, nI_add]) (nm_r (nI_1 i) hp))))))))))⟩⟩⟩)
    · have W1 := lk_V_cnt (C0' := C0) (C1' := C1 + x) (ct' := upd xcounter 1 (nI (C1 + x))) (c0' := c0) (c1' := nI (C1 + x)) hW hA hi (Or.inr (Or.inl ho)) his (by omega) (by omega) (by omega) (by omega) ⟨by rw [pk_un (by decide)]; exact w1, pk_us, w3, rfl⟩
      refine ⟨_, _, _, _, _, _, _, _, _, xoutAlign, _, _, _, _, _, _, _, _, _, _, _, _, _, _, _, _, _, _, _, _, _, W1, fun post hp => ?_, fun post n hp => ?_⟩
      · exact ⟨vi, nm_e ⟨vi, nm_r (e' := 6) (by rw [e, ho]) (br_f (by decide) (br_f (by decide) (br_f (by decide) (br_f (by decide) (br_f (by decide) (br_f (by decide) (br_f (by decide) (br_t rfl (lx_md0 (r := 1) (by omega) eox (by omega) eb w2 ea hx (by omega) (Or.inr (Or.inl ⟨ho, rfl⟩)) hp)))))))))⟩⟩
      · exact br_f (nI_ge hi (by omega)) (br_f (nI_ge (b := 32) (by omega) (by omega)) ⟨vi, nm_r (e' := 6) (by rw [e, ho]) ⟨vi, nm_r (e' := nI x) (by rw [e, ea]) ⟨vi, nm_r (e' := xstmtB i) (by rw [e]) (br_f (by decide) (br_f (by decide) (br_f (by decide) (br_f (by decide) (br_f (by decide) (br_t rfl (br_t nk (br_f (by rw [eb]; decide) (nm_r (by rw [w4, nI_add]) (nm_r (nI_1 i) hp))))))))))⟩⟩⟩)
theorem lk_w_d7 {ns no ng ni nb nr R0 R1 : Nat} {xphase xopenOut xopenGroup yinGroup yfinalC0 yfinalC1 : Int32} {xregionSize xcounter xmemory xstmtOp xstmtA xstmtB xstmtOwner xoutRegion xoutLoaded xoutGroup xoutAlign xoutVma xoutLma xoutDot xgroupStart xgroupEnd xgroupResident xinKind xinId xinAlign xinSize xinFirstByte xinStmt xinLive xinVma xfedBytes xrelocOwner xrelocOffset xrelocType xrelocTarget xrelocAddend ystOut youtSize youtRes ygStart ygEnd yinBss yinLen yinVma yinLma yrom yram : Nat → Int32} {i C0 C1 : Nat} {V L D G0 GE IV : Nat → Nat} {c0 c1 g0 yge grp kk dot vma lma ing : Int32} (hS : ∀ i, i < ns → lk_sc xstmtOp xstmtA xstmtB xstmtOwner ystOut xoutRegion xoutLoaded xoutGroup i) (hno : no = lk_no xstmtOp ns) (hng : ng = lk_ng xstmtOp ns) (h8 : no ≤ 8) (h4 : ng ≤ 4) (hN : lk_N ni nb xinKind xinAlign xinSize xinFirstByte yinBss yinLen) (hA : lk_hA ni ns xstmtOp xinStmt xinLive) (hl : lk_hl ni no ns xinStmt xinLive xstmtOwner ystOut) (hi : i < ns) (hW : lk_WI ni xstmtOp xoutRegion xoutLoaded xinStmt xinLive (fun s => (xstmtOwner (xinStmt s).toNatClampNeg).toNatClampNeg) (fun s => (xinSize s).toNatClampNeg) i C0 C1 V L D G0 GE IV xcounter xoutVma xoutLma xoutDot xgroupStart xgroupEnd xinVma youtSize ygStart ygEnd yinVma yinLma c0 c1 g0 yge grp kk dot vma lma ing) (ho : xstmtOp i = 7) : ∃ (C0' C1' : Nat) (V' L' D' G0' GE' IV' : Nat → Nat) (ct oa vm lm dt gs ge xv os yg0 yg1 yv yl : Nat → Int32) (d0 d1 d2 d3 d4 d5 d6 d7 d8 d9 : Int32), lk_WI ni xstmtOp xoutRegion xoutLoaded xinStmt xinLive (fun s => (xstmtOwner (xinStmt s).toNatClampNeg).toNatClampNeg) (fun s => (xinSize s).toNatClampNeg) (i + 1) C0' C1' V' L' D' G0' GE' IV' ct vm lm dt gs ge xv os yg0 yg1 yv yl d0 d1 d2 d3 d4 d5 d6 d7 d8 d9 ∧ (∀ post : Int32 → SX → Prop, post 1 (xphase, (nI ns), xopenOut, xopenGroup, (nI no), (nI ng), (nI ni), (nI nb), (nI nr), xregionSize, ct, xmemory, xstmtOp, xstmtA, xstmtB, xstmtOwner, xoutRegion, xoutLoaded, xoutGroup, oa, vm, lm, dt, gs, ge, xgroupResident, xinKind, xinId, xinAlign, xinSize, xinFirstByte, xinStmt, xinLive, xv, xfedBytes, xrelocOwner, xrelocOffset, xrelocType, xrelocTarget, xrelocAddend) → wpX_place post (xphase, (nI ns), xopenOut, xopenGroup, (nI no), (nI ng), (nI ni), (nI nb), (nI nr), xregionSize, xcounter, xmemory, xstmtOp, xstmtA, xstmtB, xstmtOwner, xoutRegion, xoutLoaded, xoutGroup, xoutAlign, xoutVma, xoutLma, xoutDot, xgroupStart, xgroupEnd, xgroupResident, xinKind, xinId, xinAlign, xinSize, xinFirstByte, xinStmt, xinLive, xinVma, xfedBytes, xrelocOwner, xrelocOffset, xrelocType, xrelocTarget, xrelocAddend) (nI i)) ∧ (∀ (post : Int32 → SY → Prop) (n : Nat), wY_walk_32 post (nI R0) (nI R1) xphase (nI ns) (nI no) (nI ng) (nI ni) (nI nb) (nI nr) xopenOut yinGroup (nI ni - 1) yfinalC0 yfinalC1 n d0 d1 d2 d3 d4 d5 d6 d7 d8 d9 (nI (i + 1)) xstmtOp xstmtA xstmtB ystOut xoutRegion xoutLoaded xoutGroup vm lm os oa youtRes yg0 yg1 xinKind xinId xinAlign yinBss xinFirstByte yinLen xinStmt xinLive yv yl xfedBytes xrelocOwner xrelocOffset xrelocType xrelocTarget xrelocAddend yrom yram → wY_walk_32 post (nI R0) (nI R1) xphase (nI ns) (nI no) (nI ng) (nI ni) (nI nb) (nI nr) xopenOut yinGroup (nI ni - 1) yfinalC0 yfinalC1 (n + 1) c0 c1 g0 yge grp kk dot vma lma ing (nI i) xstmtOp xstmtA xstmtB ystOut xoutRegion xoutLoaded xoutGroup xoutVma xoutLma youtSize xoutAlign youtRes ygStart ygEnd xinKind xinId xinAlign yinBss xinFirstByte yinLen xinStmt xinLive yinVma yinLma xfedBytes xrelocOwner xrelocOffset xrelocType xrelocTarget xrelocAddend yrom yram) := by
  have n32 := hA.1
  have e : (nI i).toNatClampNeg = i := nI_clamp (by omega)
  have vi : vp_in (nI i) 32 := vp_in_nI (by omega) (by omega)
  have sc : (∃ x, x ≤ 1023 ∧ xstmtA i = nI x ∧ (xstmtOp i = 7 → lk_A x)) ∧ ((lk_is xstmtOp i = true ∧ xstmtOwner i = nI (lk_no xstmtOp i - 1) ∧ ystOut i = nI (lk_no xstmtOp i - 1)) ∨ (lk_is xstmtOp i = false ∧ lk_ig xstmtOp i = false ∧ xstmtOwner i = -1 ∧ ystOut i = -1 ∧ (xstmtB i = 0 ∨ xstmtB i = 1))) := by
    rcases hS i hi with ⟨h, _⟩ | ⟨h | h | h, _⟩ | ⟨_, h⟩ | ⟨h, _⟩ | ⟨h, _⟩
    case inr.inr.inl => exact h
    all_goals rw [ho] at h; exact absurd h (by decide)
  obtain ⟨⟨x, hx, ea, hx7⟩, sc⟩ := sc
  have nm := lk_no_m (op := xstmtOp) (i := i) (ns - i)
  rw [show i + (ns - i) = ns by omega, ← hno] at nm
  have hW2 := hW
  unfold lk_WI at hW2
  obtain ⟨⟨⟨g1, g2, g3, _, _⟩, g4, _⟩, ⟨w1, w2, w3, w4⟩, w8, _, _, _, _, _, w9, w10⟩ := hW2
  rcases sc with ⟨his, eox, _⟩ | ⟨his, hig, eox, _, eb⟩
  · have hnt := lk_nc_t his
    rw [show lk_no xstmtOp i - 1 = lk_nc xstmtOp i by omega] at eox
    have hD := (g4 (lk_nc xstmtOp i) (by omega)).2.1
    have ed := (w8 (lk_nc xstmtOp i) (by omega)).2.2
    obtain ⟨k1, k2, _, _⟩ := w9 (by omega)
    have nk : ¬ kk < 0 := by rw [k1]; exact nI_pos (by omega)
    have hal := lk_al_b (x := D (lk_nc xstmtOp i)) (hx7 ho)
    have W1 := lk_V_dot (x := lk_al (D (lk_nc xstmtOp i)) x) hW hA hi (Or.inr (Or.inr ho)) his (by omega) (by omega)
    refine ⟨_, _, _, _, _, _, _, _, _, xoutAlign, _, _, _, _, _, _, _, _, _, _, _, _, _, _, _, _, _, _, _, _, _, W1, fun post hp => ?_, fun post n hp => ?_⟩
    · exact ⟨vi, nm_e ⟨vi, nm_r (e' := 7) (by rw [e, ho]) (br_f (by decide) (br_f (by decide) (br_f (by decide) (br_f (by decide) (br_f (by decide) (br_f (by decide) (br_f (by decide) (br_f (by decide) (br_t rfl (lx_md1 (by omega) eox (by omega) ed ea hx (by omega) (Or.inr (Or.inr ⟨ho, hx7 ho, rfl⟩)) hp))))))))))⟩⟩
    · exact br_f (nI_ge hi (by omega)) (br_f (nI_ge (b := 32) (by omega) (by omega)) ⟨vi, nm_r (e' := 7) (by rw [e, ho]) ⟨vi, nm_r (e' := nI x) (by rw [e, ea]) ⟨vi, nm_r (e' := xstmtB i) (by rw [e]) (br_f (by decide) (br_f (by decide) (br_f (by decide) (br_f (by decide) (br_f (by decide) (br_f (by decide) (br_t rfl (br_f nk (ly_al2 k2 rfl (hx7 ho) (by omega) (nm_r (nI_1 i) hp))))))))))⟩⟩⟩)
  · have hnf := lk_nc_f his
    have k1 := w10 hnf
    have nk : kk < 0 := by rw [k1]; decide
    rcases eb with eb | eb
    · have hal := lk_al_b (x := C0) (hx7 ho)
      have W1 := lk_V_cnt (C0' := lk_al (C0) x) (C1' := C1) (ct' := upd xcounter 0 (nI (lk_al (C0) x))) (c0' := nI (lk_al (C0) x)) (c1' := c1) hW hA hi (Or.inr (Or.inr ho)) his (by omega) (by omega) (by omega) (by omega) ⟨pk_us, by rw [pk_un (by decide)]; exact w2, rfl, w4⟩
      refine ⟨_, _, _, _, _, _, _, _, _, xoutAlign, _, _, _, _, _, _, _, _, _, _, _, _, _, _, _, _, _, _, _, _, _, W1, fun post hp => ?_, fun post n hp => ?_⟩
      · exact ⟨vi, nm_e ⟨vi, nm_r (e' := 7) (by rw [e, ho]) (br_f (by decide) (br_f (by decide) (br_f (by decide) (br_f (by decide) (br_f (by decide) (br_f (by decide) (br_f (by decide) (br_f (by decide) (br_t rfl (lx_md0 (r := 0) (by omega) eox (by omega) eb w1 ea hx (by omega) (Or.inr (Or.inr ⟨ho, hx7 ho, rfl⟩)) hp))))))))))⟩⟩
      · exact br_f (nI_ge hi (by omega)) (br_f (nI_ge (b := 32) (by omega) (by omega)) ⟨vi, nm_r (e' := 7) (by rw [e, ho]) ⟨vi, nm_r (e' := nI x) (by rw [e, ea]) ⟨vi, nm_r (e' := xstmtB i) (by rw [e]) (br_f (by decide) (br_f (by decide) (br_f (by decide) (br_f (by decide) (br_f (by decide) (br_f (by decide) (br_t rfl (br_t nk (br_t eb (ly_al2 w3 rfl (hx7 ho) (by omega) (nm_r (nI_1 i) hp)))))))))))⟩⟩⟩)
    · have hal := lk_al_b (x := C1) (hx7 ho)
      have W1 := lk_V_cnt (C0' := C0) (C1' := lk_al (C1) x) (ct' := upd xcounter 1 (nI (lk_al (C1) x))) (c0' := c0) (c1' := nI (lk_al (C1) x)) hW hA hi (Or.inr (Or.inr ho)) his (by omega) (by omega) (by omega) (by omega) ⟨by rw [pk_un (by decide)]; exact w1, pk_us, w3, rfl⟩
      refine ⟨_, _, _, _, _, _, _, _, _, xoutAlign, _, _, _, _, _, _, _, _, _, _, _, _, _, _, _, _, _, _, _, _, _, W1, fun post hp => ?_, fun post n hp => ?_⟩
      · exact ⟨vi, nm_e ⟨vi, nm_r (e' := 7) (by rw [e, ho]) (br_f (by decide) (br_f (by decide) (br_f (by decide) (br_f (by decide) (br_f (by decide) (br_f (by decide) (br_f (by decide) (br_f (by decide) (br_t rfl (lx_md0 (r := 1) (by omega) eox (by omega) eb w2 ea hx (by omega) (Or.inr (Or.inr ⟨ho, hx7 ho, rfl⟩)) hp))))))))))⟩⟩
      · exact br_f (nI_ge hi (by omega)) (br_f (nI_ge (b := 32) (by omega) (by omega)) ⟨vi, nm_r (e' := 7) (by rw [e, ho]) ⟨vi, nm_r (e' := nI x) (by rw [e, ea]) ⟨vi, nm_r (e' := xstmtB i) (by rw [e]) (br_f (by decide) (br_f (by decide) (br_f (by decide) (br_f (by decide) (br_f (by decide) (br_f (by decide) (br_t rfl (br_t nk (br_f (by rw [eb]; decide) (ly_al2 w4 rfl (hx7 ho) (by omega) (nm_r (nI_1 i) hp)))))))))))⟩⟩⟩)
end
end
section

section
/-! AB: the walk joined -/
theorem lk_walk {ns no ng ni nb nr R0 R1 : Nat} {xphase xopenOut xopenGroup yinGroup yfinalC0 yfinalC1 : Int32} {xregionSize xmemory xstmtOp xstmtA xstmtB xstmtOwner xoutRegion xoutLoaded xoutGroup xgroupResident xinKind xinId xinAlign xinSize xinFirstByte xinStmt xinLive xfedBytes xrelocOwner xrelocOffset xrelocType xrelocTarget xrelocAddend ystOut youtRes yinBss yinLen yrom yram : Nat → Int32} (hS : ∀ i, i < ns → lk_sc xstmtOp xstmtA xstmtB xstmtOwner ystOut xoutRegion xoutLoaded xoutGroup i) (hno : no = lk_no xstmtOp ns) (hng : ng = lk_ng xstmtOp ns) (h8 : no ≤ 8) (h4 : ng ≤ 4) (hN : lk_N ni nb xinKind xinAlign xinSize xinFirstByte yinBss yinLen) (hA : lk_hA ni ns xstmtOp xinStmt xinLive) (hl : lk_hl ni no ns xinStmt xinLive xstmtOwner ystOut) : ∀ d i, i + d = ns → ∀ (C0 C1 : Nat) (V L D G0 GE IV : Nat → Nat) (xcounter xoutAlign xoutVma xoutLma xoutDot xgroupStart xgroupEnd xinVma youtSize ygStart ygEnd yinVma yinLma : Nat → Int32) (c0 c1 g0 yge grp kk dot vma lma ing : Int32), lk_WI ni xstmtOp xoutRegion xoutLoaded xinStmt xinLive (fun s => (xstmtOwner (xinStmt s).toNatClampNeg).toNatClampNeg) (fun s => (xinSize s).toNatClampNeg) i C0 C1 V L D G0 GE IV xcounter xoutVma xoutLma xoutDot xgroupStart xgroupEnd xinVma youtSize ygStart ygEnd yinVma yinLma c0 c1 g0 yge grp kk dot vma lma ing →
    ∃ (b : Bool) (C0' C1' : Nat) (V' L' D' G0' GE' IV' : Nat → Nat) (ct oa vm lm dt gs ge xv os yg0 yg1 yv yl : Nat → Int32) (d0 d1 d2 d3 d4 d5 d6 d7 d8 d9 : Int32), (b = true → lk_WI ni xstmtOp xoutRegion xoutLoaded xinStmt xinLive (fun s => (xstmtOwner (xinStmt s).toNatClampNeg).toNatClampNeg) (fun s => (xinSize s).toNatClampNeg) ns C0' C1' V' L' D' G0' GE' IV' ct vm lm dt gs ge xv os yg0 yg1 yv yl d0 d1 d2 d3 d4 d5 d6 d7 d8 d9) ∧
      (∀ post : Int32 → SX → Prop, post (if b = true then 1 else 0) (xphase, (nI ns), xopenOut, xopenGroup, (nI no), (nI ng), (nI ni), (nI nb), (nI nr), xregionSize, ct, xmemory, xstmtOp, xstmtA, xstmtB, xstmtOwner, xoutRegion, xoutLoaded, xoutGroup, oa, vm, lm, dt, gs, ge, xgroupResident, xinKind, xinId, xinAlign, xinSize, xinFirstByte, xinStmt, xinLive, xv, xfedBytes, xrelocOwner, xrelocOffset, xrelocType, xrelocTarget, xrelocAddend) → wX_placeAll_18 post (d + 1) (nI i) xphase (nI ns) xopenOut xopenGroup (nI no) (nI ng) (nI ni) (nI nb) (nI nr) xregionSize xcounter xmemory xstmtOp xstmtA xstmtB xstmtOwner xoutRegion xoutLoaded xoutGroup xoutAlign xoutVma xoutLma xoutDot xgroupStart xgroupEnd xgroupResident xinKind xinId xinAlign xinSize xinFirstByte xinStmt xinLive xinVma xfedBytes xrelocOwner xrelocOffset xrelocType xrelocTarget xrelocAddend) ∧
      (∀ post : Int32 → SY → Prop, (b = true → post 1 ((nI R0), (nI R1), xphase, (nI ns), (nI no), (nI ng), (nI ni), (nI nb), (nI nr), xopenOut, yinGroup, (nI ni - 1), d0, d1, xstmtOp, xstmtA, xstmtB, ystOut, xoutRegion, xoutLoaded, xoutGroup, vm, lm, os, oa, youtRes, yg0, yg1, xinKind, xinId, xinAlign, yinBss, xinFirstByte, yinLen, xinStmt, xinLive, yv, yl, xfedBytes, xrelocOwner, xrelocOffset, xrelocType, xrelocTarget, xrelocAddend, yrom, yram)) → (b = false → post 0 ((nI R0), (nI R1), xphase, (nI ns), (nI no), (nI ng), (nI ni), (nI nb), (nI nr), xopenOut, yinGroup, (nI ni - 1), yfinalC0, yfinalC1, xstmtOp, xstmtA, xstmtB, ystOut, xoutRegion, xoutLoaded, xoutGroup, vm, lm, os, oa, youtRes, yg0, yg1, xinKind, xinId, xinAlign, yinBss, xinFirstByte, yinLen, xinStmt, xinLive, yv, yl, xfedBytes, xrelocOwner, xrelocOffset, xrelocType, xrelocTarget, xrelocAddend, yrom, yram)) → wY_walk_32 post (nI R0) (nI R1) xphase (nI ns) (nI no) (nI ng) (nI ni) (nI nb) (nI nr) xopenOut yinGroup (nI ni - 1) yfinalC0 yfinalC1 (d + 1) c0 c1 g0 yge grp kk dot vma lma ing (nI i) xstmtOp xstmtA xstmtB ystOut xoutRegion xoutLoaded xoutGroup xoutVma xoutLma youtSize xoutAlign youtRes ygStart ygEnd xinKind xinId xinAlign yinBss xinFirstByte yinLen xinStmt xinLive yinVma yinLma xfedBytes xrelocOwner xrelocOffset xrelocType xrelocTarget xrelocAddend yrom yram) := by
  have n32 := hA.1
  intro d
  induction d with
  | zero =>
    intro i hi C0 C1 V L D G0 GE IV xcounter xoutAlign xoutVma xoutLma xoutDot xgroupStart xgroupEnd xinVma youtSize ygStart ygEnd yinVma yinLma c0 c1 g0 yge grp kk dot vma lma ing hW
    have e1 : i = ns := hi
    subst e1
    exact ⟨true, C0, C1, V, L, D, G0, GE, IV, xcounter, xoutAlign, xoutVma, xoutLma, xoutDot, xgroupStart, xgroupEnd, xinVma, youtSize, ygStart, ygEnd, yinVma, yinLma, c0, c1, g0, yge, grp, kk, dot, vma, lma, ing, fun _ => hW, fun post hp => br_t (nI_le (by omega) (by omega)) hp, fun post h1 _ => br_t (nI_le (by omega) (by omega)) (h1 rfl)⟩
  | succ d ih =>
    intro i hid C0 C1 V L D G0 GE IV xcounter xoutAlign xoutVma xoutLma xoutDot xgroupStart xgroupEnd xinVma youtSize ygStart ygEnd yinVma yinLma c0 c1 g0 yge grp kk dot vma lma ing hW
    have hi : i < ns := by omega
    have st : (∃ (C0' C1' : Nat) (V' L' D' G0' GE' IV' : Nat → Nat) (ct oa vm lm dt gs ge xv os yg0 yg1 yv yl : Nat → Int32) (d0 d1 d2 d3 d4 d5 d6 d7 d8 d9 : Int32), lk_WI ni xstmtOp xoutRegion xoutLoaded xinStmt xinLive (fun s => (xstmtOwner (xinStmt s).toNatClampNeg).toNatClampNeg) (fun s => (xinSize s).toNatClampNeg) (i + 1) C0' C1' V' L' D' G0' GE' IV' ct vm lm dt gs ge xv os yg0 yg1 yv yl d0 d1 d2 d3 d4 d5 d6 d7 d8 d9 ∧ (∀ post : Int32 → SX → Prop, post 1 (xphase, (nI ns), xopenOut, xopenGroup, (nI no), (nI ng), (nI ni), (nI nb), (nI nr), xregionSize, ct, xmemory, xstmtOp, xstmtA, xstmtB, xstmtOwner, xoutRegion, xoutLoaded, xoutGroup, oa, vm, lm, dt, gs, ge, xgroupResident, xinKind, xinId, xinAlign, xinSize, xinFirstByte, xinStmt, xinLive, xv, xfedBytes, xrelocOwner, xrelocOffset, xrelocType, xrelocTarget, xrelocAddend) → wpX_place post (xphase, (nI ns), xopenOut, xopenGroup, (nI no), (nI ng), (nI ni), (nI nb), (nI nr), xregionSize, xcounter, xmemory, xstmtOp, xstmtA, xstmtB, xstmtOwner, xoutRegion, xoutLoaded, xoutGroup, xoutAlign, xoutVma, xoutLma, xoutDot, xgroupStart, xgroupEnd, xgroupResident, xinKind, xinId, xinAlign, xinSize, xinFirstByte, xinStmt, xinLive, xinVma, xfedBytes, xrelocOwner, xrelocOffset, xrelocType, xrelocTarget, xrelocAddend) (nI i)) ∧ (∀ (post : Int32 → SY → Prop) (n : Nat), wY_walk_32 post (nI R0) (nI R1) xphase (nI ns) (nI no) (nI ng) (nI ni) (nI nb) (nI nr) xopenOut yinGroup (nI ni - 1) yfinalC0 yfinalC1 n d0 d1 d2 d3 d4 d5 d6 d7 d8 d9 (nI (i + 1)) xstmtOp xstmtA xstmtB ystOut xoutRegion xoutLoaded xoutGroup vm lm os oa youtRes yg0 yg1 xinKind xinId xinAlign yinBss xinFirstByte yinLen xinStmt xinLive yv yl xfedBytes xrelocOwner xrelocOffset xrelocType xrelocTarget xrelocAddend yrom yram → wY_walk_32 post (nI R0) (nI R1) xphase (nI ns) (nI no) (nI ng) (nI ni) (nI nb) (nI nr) xopenOut yinGroup (nI ni - 1) yfinalC0 yfinalC1 (n + 1) c0 c1 g0 yge grp kk dot vma lma ing (nI i) xstmtOp xstmtA xstmtB ystOut xoutRegion xoutLoaded xoutGroup xoutVma xoutLma youtSize xoutAlign youtRes ygStart ygEnd xinKind xinId xinAlign yinBss xinFirstByte yinLen xinStmt xinLive yinVma yinLma xfedBytes xrelocOwner xrelocOffset xrelocType xrelocTarget xrelocAddend yrom yram)) ∨ ((∀ post : Int32 → SX → Prop, post 0 (xphase, (nI ns), xopenOut, xopenGroup, (nI no), (nI ng), (nI ni), (nI nb), (nI nr), xregionSize, xcounter, xmemory, xstmtOp, xstmtA, xstmtB, xstmtOwner, xoutRegion, xoutLoaded, xoutGroup, xoutAlign, xoutVma, xoutLma, xoutDot, xgroupStart, xgroupEnd, xgroupResident, xinKind, xinId, xinAlign, xinSize, xinFirstByte, xinStmt, xinLive, xinVma, xfedBytes, xrelocOwner, xrelocOffset, xrelocType, xrelocTarget, xrelocAddend) → wpX_place post (xphase, (nI ns), xopenOut, xopenGroup, (nI no), (nI ng), (nI ni), (nI nb), (nI nr), xregionSize, xcounter, xmemory, xstmtOp, xstmtA, xstmtB, xstmtOwner, xoutRegion, xoutLoaded, xoutGroup, xoutAlign, xoutVma, xoutLma, xoutDot, xgroupStart, xgroupEnd, xgroupResident, xinKind, xinId, xinAlign, xinSize, xinFirstByte, xinStmt, xinLive, xinVma, xfedBytes, xrelocOwner, xrelocOffset, xrelocType, xrelocTarget, xrelocAddend) (nI i)) ∧ (∀ (post : Int32 → SY → Prop) (n : Nat), post 0 ((nI R0), (nI R1), xphase, (nI ns), (nI no), (nI ng), (nI ni), (nI nb), (nI nr), xopenOut, yinGroup, (nI ni - 1), yfinalC0, yfinalC1, xstmtOp, xstmtA, xstmtB, ystOut, xoutRegion, xoutLoaded, xoutGroup, xoutVma, xoutLma, youtSize, xoutAlign, youtRes, ygStart, ygEnd, xinKind, xinId, xinAlign, yinBss, xinFirstByte, yinLen, xinStmt, xinLive, yinVma, yinLma, xfedBytes, xrelocOwner, xrelocOffset, xrelocType, xrelocTarget, xrelocAddend, yrom, yram) → wY_walk_32 post (nI R0) (nI R1) xphase (nI ns) (nI no) (nI ng) (nI ni) (nI nb) (nI nr) xopenOut yinGroup (nI ni - 1) yfinalC0 yfinalC1 (n + 1) c0 c1 g0 yge grp kk dot vma lma ing (nI i) xstmtOp xstmtA xstmtB ystOut xoutRegion xoutLoaded xoutGroup xoutVma xoutLma youtSize xoutAlign youtRes ygStart ygEnd xinKind xinId xinAlign yinBss xinFirstByte yinLen xinStmt xinLive yinVma yinLma xfedBytes xrelocOwner xrelocOffset xrelocType xrelocTarget xrelocAddend yrom yram)) := by
      rcases hS i hi with ⟨h, _⟩ | ⟨h | h | h, _⟩ | ⟨h | h | h, _⟩ | ⟨h, _⟩ | ⟨h, _⟩
      · exact Or.inl (lk_w_sec hS hno hng h8 h4 hN hA hl hi hW h)
      · exact Or.inl (lk_w_end hS hno hng h8 h4 hN hA hl hi hW h)
      · exact Or.inl (lk_w_inp hS hno hng h8 h4 hN hA hl hi hW (Or.inl h))
      · exact Or.inl (lk_w_inp hS hno hng h8 h4 hN hA hl hi hW (Or.inr h))
      · exact lk_w_d5 hS hno hng h8 h4 hN hA hl hi hW h
      · exact Or.inl (lk_w_d6 hS hno hng h8 h4 hN hA hl hi hW h)
      · exact Or.inl (lk_w_d7 hS hno hng h8 h4 hN hA hl hi hW h)
      · exact Or.inl (lk_w_ovl hS hno hng h8 h4 hN hA hl hi hW h)
      · exact Or.inl (lk_w_ove hS hno hng h8 h4 hN hA hl hi hW h)
    rcases st with ⟨C0', C1', V', L', D', G0', GE', IV', ct, oa, vm, lm, dt, gs, ge, xv, os, yg0, yg1, yv, yl, d0, d1, d2, d3, d4, d5, d6, d7, d8, d9, W1, k2, k3⟩ | ⟨f1, f2⟩
    · obtain ⟨b, C0n, C1n, Vn, Ln, Dn, G0n, GEn, IVn, ctn, oan, vmn, lmn, dtn, gsn, gen, xvn, osn, yg0n, yg1n, yvn, yln, n0, n1, n2, n3, n4, n5, n6, n7, n8, n9, j1, j2, j3⟩ := ih (i + 1) (by omega) C0' C1' V' L' D' G0' GE' IV' ct oa vm lm dt gs ge xv os yg0 yg1 yv yl d0 d1 d2 d3 d4 d5 d6 d7 d8 d9 W1
      exact ⟨b, C0n, C1n, Vn, Ln, Dn, G0n, GEn, IVn, ctn, oan, vmn, lmn, dtn, gsn, gen, xvn, osn, yg0n, yg1n, yvn, yln, n0, n1, n2, n3, n4, n5, n6, n7, n8, n9, j1, fun post hp => br_f (nI_ge hi (by omega)) (k2 _ (br_f (by decide) (nm_r (nI_1 i) (j2 post hp)))), fun post h1 h0 => k3 post (d + 1) (j3 post h1 h0)⟩
    · exact ⟨false, C0, C1, V, L, D, G0, GE, IV, xcounter, xoutAlign, xoutVma, xoutLma, xoutDot, xgroupStart, xgroupEnd, xinVma, youtSize, ygStart, ygEnd, yinVma, yinLma, c0, c1, g0, yge, grp, kk, dot, vma, lma, ing, fun z => Bool.noConfusion z, fun post hp => br_f (nI_ge hi (by omega)) (f1 _ (br_t rfl hp)), fun post _ h0 => f2 post _ (h0 rfl)⟩
end
end
section

section
/-! AC: overflow -/
def lk_hk (no : Nat) (rg vm lm : Nat → Int32) (V L D : Nat → Nat) : Prop := no ≤ 8 ∧ ∀ k, k < no → (rg k = 0 ∨ rg k = 1) ∧ vm k = nI (V k) ∧ lm k = nI (L k) ∧ V k ≤ D k ∧ D k < 2 ^ 29 ∧ L k + (D k - V k) < 2 ^ 29 ∧ (rg k = 0 → L k = V k)
theorem lx_re {post : Int32 → Prop} {ns no ng ni nb nr : Nat} {xphase xopenOut xopenGroup : Int32} {xregionSize xcounter xmemory xstmtOp xstmtA xstmtB xstmtOwner xoutRegion xoutLoaded xoutGroup xoutAlign xoutVma xoutLma xoutDot xgroupStart xgroupEnd xgroupResident xinKind xinId xinAlign xinSize xinFirstByte xinStmt xinLive xinVma xfedBytes xrelocOwner xrelocOffset xrelocType xrelocTarget xrelocAddend : Nat → Int32} {R0 R1 : Nat} {z : Int32} (hZ : lk_Z xregionSize R0 R1) (hz : z = 0 ∨ z = 1) (h : post (nI (if z = 0 then R0 else 256 + R1))) : wpX_regionEnd post (xphase, (nI ns), xopenOut, xopenGroup, (nI no), (nI ng), (nI ni), (nI nb), (nI nr), xregionSize, xcounter, xmemory, xstmtOp, xstmtA, xstmtB, xstmtOwner, xoutRegion, xoutLoaded, xoutGroup, xoutAlign, xoutVma, xoutLma, xoutDot, xgroupStart, xgroupEnd, xgroupResident, xinKind, xinId, xinAlign, xinSize, xinFirstByte, xinStmt, xinLive, xinVma, xfedBytes, xrelocOwner, xrelocOffset, xrelocType, xrelocTarget, xrelocAddend) z := by
  rcases hz with e | e
  · subst e
    rw [if_pos rfl] at h
    refine br_t rfl ⟨vp_in_iff.mpr (by decide), ?_⟩
    rw [lk_e0, hZ.1, Int32.zero_add]
    exact h
  · subst e
    rw [if_neg (by decide)] at h
    refine br_f (by decide) ⟨vp_in_iff.mpr (by decide), ?_⟩
    rw [lk_e1, hZ.2.1, lk_256]
    exact h
theorem lx_le {post : Int32 → Prop} {ns no ng ni nb nr : Nat} {xphase xopenOut xopenGroup : Int32} {xregionSize xcounter xmemory xstmtOp xstmtA xstmtB xstmtOwner xoutRegion xoutLoaded xoutGroup xoutAlign xoutVma xoutLma xoutDot xgroupStart xgroupEnd xgroupResident xinKind xinId xinAlign xinSize xinFirstByte xinStmt xinLive xinVma xfedBytes xrelocOwner xrelocOffset xrelocType xrelocTarget xrelocAddend : Nat → Int32} {k l d v : Nat} (hk : k < 8) (el : xoutLma k = nI l) (ed : xoutDot k = nI d) (ev : xoutVma k = nI v) (hvd : v ≤ d) (h : post (nI (l + (d - v)))) : wpX_loadEnd post (xphase, (nI ns), xopenOut, xopenGroup, (nI no), (nI ng), (nI ni), (nI nb), (nI nr), xregionSize, xcounter, xmemory, xstmtOp, xstmtA, xstmtB, xstmtOwner, xoutRegion, xoutLoaded, xoutGroup, xoutAlign, xoutVma, xoutLma, xoutDot, xgroupStart, xgroupEnd, xgroupResident, xinKind, xinId, xinAlign, xinSize, xinFirstByte, xinStmt, xinLive, xinVma, xfedBytes, xrelocOwner, xrelocOffset, xrelocType, xrelocTarget, xrelocAddend) (nI k) := by
  have e : (nI k).toNatClampNeg = k := nI_clamp (by omega)
  have v8 : vp_in (nI k) 8 := vp_in_nI hk (by omega)
  refine ⟨v8, v8, v8, ?_⟩
  rw [e, el, ed, ev, pk_sub hvd]
  show post (nI l + nI (d - v))
  rw [nI_add]
  exact h
theorem lx_ov {post : Int32 → Prop} {ns no ng ni nb nr : Nat} {xphase xopenOut xopenGroup : Int32} {xregionSize xcounter xmemory xstmtOp xstmtA xstmtB xstmtOwner xoutRegion xoutLoaded xoutGroup xoutAlign xoutVma xoutLma xoutDot xgroupStart xgroupEnd xgroupResident xinKind xinId xinAlign xinSize xinFirstByte xinStmt xinLive xinVma xfedBytes xrelocOwner xrelocOffset xrelocType xrelocTarget xrelocAddend : Nat → Int32} {R0 R1 : Nat} {V L D : Nat → Nat} (hZ : lk_Z xregionSize R0 R1) (hk : lk_hk no xoutRegion xoutVma xoutLma V L D) (hd : ∀ k, k < no → xoutDot k = nI (D k)) (h1 : lk_ex (lk_ov R0 R1 xoutRegion xoutLoaded V L D) no 0 = true → post 1) (h0 : lk_ex (lk_ov R0 R1 xoutRegion xoutLoaded V L D) no 0 = false → post 0) : wpX_overflows post (xphase, (nI ns), xopenOut, xopenGroup, (nI no), (nI ng), (nI ni), (nI nb), (nI nr), xregionSize, xcounter, xmemory, xstmtOp, xstmtA, xstmtB, xstmtOwner, xoutRegion, xoutLoaded, xoutGroup, xoutAlign, xoutVma, xoutLma, xoutDot, xgroupStart, xgroupEnd, xgroupResident, xinKind, xinId, xinAlign, xinSize, xinFirstByte, xinStmt, xinLive, xinVma, xfedBytes, xrelocOwner, xrelocOffset, xrelocType, xrelocTarget, xrelocAddend) := by
  obtain ⟨h8, hk⟩ := hk
  have hZ2 := hZ
  obtain ⟨_, _, z1, z2, z3, z4⟩ := hZ2
  have H : ∀ d k, k + d = no → (lk_ex (lk_ov R0 R1 xoutRegion xoutLoaded V L D) d k = true → post 1) → (lk_ex (lk_ov R0 R1 xoutRegion xoutLoaded V L D) d k = false → post 0) → wX_overflows_8 post (nI R0) xphase (nI ns) xopenOut xopenGroup (nI no) (nI ng) (nI ni) (nI nb) (nI nr) xregionSize xcounter xmemory xstmtOp xstmtA xstmtB xstmtOwner xoutRegion xoutLoaded xoutGroup xoutAlign xoutVma xoutLma xoutDot xgroupStart xgroupEnd xgroupResident xinKind xinId xinAlign xinSize xinFirstByte xinStmt xinLive xinVma xfedBytes xrelocOwner xrelocOffset xrelocType xrelocTarget xrelocAddend (d + 1) (nI k) := by
    intro d
    induction d with
    | zero => intro k hkd _ h0; exact br_t (nI_le (by omega) (by omega)) (h0 rfl)
    | succ d ih =>
      intro k hkd h1 h0
      obtain ⟨r1, e1, e2, e3, e4, e5, e6⟩ := hk k (by omega)
      have e7 := hd k (by omega)
      have e : (nI k).toNatClampNeg = k := nI_clamp (by omega)
      have v8 : vp_in (nI k) 8 := vp_in_nI (by omega) (by omega)
      have hn : ¬ lk_ov R0 R1 xoutRegion xoutLoaded V L D k = true → wX_overflows_8 post (nI R0) xphase (nI ns) xopenOut xopenGroup (nI no) (nI ng) (nI ni) (nI nb) (nI nr) xregionSize xcounter xmemory xstmtOp xstmtA xstmtB xstmtOwner xoutRegion xoutLoaded xoutGroup xoutAlign xoutVma xoutLma xoutDot xgroupStart xgroupEnd xgroupResident xinKind xinId xinAlign xinSize xinFirstByte xinStmt xinLive xinVma xfedBytes xrelocOwner xrelocOffset xrelocType xrelocTarget xrelocAddend (d + 1) (nI (k + 1)) := by
        intro z
        rw [lk_ex_f z] at h1 h0
        exact ih (k + 1) (by omega) h1 h0
      have hy : lk_ov R0 R1 xoutRegion xoutLoaded V L D k = true → post 1 := fun z => h1 (lk_ex_t z)
      obtain ⟨rg, hrg⟩ : ∃ rg, rg = if xoutRegion k = 0 then R0 else 256 + R1 := ⟨_, rfl⟩
      have hrg2 : rg ≤ 384 := by rw [hrg]; split <;> omega
      refine br_f (nI_ge (by omega) (by omega)) ⟨v8, v8, lx_re hZ (by rw [e]; exact r1) ?_⟩
      rw [e, ← hrg]
      by_cases a : D k ≤ rg
      · refine br_t (by rw [e7, nI_leI (by omega) (by omega)]; exact a) ⟨v8, ?_⟩
        by_cases b : xoutLoaded k = 1
        · refine br_t b (lx_le (by omega) e2 e7 e1 e3 ?_)
          by_cases c : L k + (D k - V k) ≤ R0
          · refine br_t (nI_le c (by omega)) (nm_r (nI_1 k) (hn (fun z => ?_)))
            rcases of_decide_eq_true z with y | y
            · rw [← hrg] at y; omega
            · have := y.2; omega
          · exact br_f (nI_ge (by omega) (by omega)) (hy (decide_eq_true (Or.inr ⟨b, by omega⟩)))
        · refine br_f b (nm_r (nI_1 k) (hn (fun z => ?_)))
          rcases of_decide_eq_true z with y | y
          · rw [← hrg] at y; omega
          · exact b y.1
      · exact br_f (by rw [e7, nI_leI (by omega) (by omega)]; exact a) (hy (decide_eq_true (Or.inl (by rw [← hrg]; omega))))
  unfold wpX_overflows
  refine lx_re hZ (Or.inl rfl) ?_
  rw [if_pos rfl]
  exact ⟨_, H no 0 (by omega) h1 h0⟩
theorem ly_ov {post : Int32 → SY → Prop} {R0 R1 ns no ng ni nb nr : Nat} {yphase yopenOut yinGroup ycur yfinalC0 yfinalC1 : Int32} {ystOp ystA ystB ystOut youtReg youtLoaded youtGroup youtVma youtLma youtSize youtAlign youtRes ygStart ygEnd yinKind yinId yinAlign yinBss yinStart yinLen yinStmt yinLive yinVma yinLma ybytes yrSec yrOff yrType yrTgt yrAdd yrom yram : Nat → Int32} {V L D : Nat → Nat} (hR : R0 ≤ 128 ∧ R1 ≤ 128) (hk : lk_hk no youtReg youtVma youtLma V L D) (hs : ∀ k, k < no → youtSize k = nI (D k - V k)) (h1 : lk_ex (lk_ov R0 R1 youtReg youtLoaded V L D) no 0 = true → post (-9) ((nI R0), (nI R1), yphase, (nI ns), (nI no), (nI ng), (nI ni), (nI nb), (nI nr), yopenOut, yinGroup, ycur, yfinalC0, yfinalC1, ystOp, ystA, ystB, ystOut, youtReg, youtLoaded, youtGroup, youtVma, youtLma, youtSize, youtAlign, youtRes, ygStart, ygEnd, yinKind, yinId, yinAlign, yinBss, yinStart, yinLen, yinStmt, yinLive, yinVma, yinLma, ybytes, yrSec, yrOff, yrType, yrTgt, yrAdd, yrom, yram)) (h0 : lk_ex (lk_ov R0 R1 youtReg youtLoaded V L D) no 0 = false → ∃ n, wY_link_298 post (nI R0) (nI R1) 1 (nI ns) (nI no) (nI ng) (nI ni) (nI nb) (nI nr) yopenOut yinGroup ycur yfinalC0 yfinalC1 n 0 ystOp ystA ystB ystOut youtReg youtLoaded youtGroup youtVma youtLma youtSize youtAlign youtRes ygStart ygEnd yinKind yinId yinAlign yinBss yinStart yinLen yinStmt yinLive yinVma yinLma ybytes yrSec yrOff yrType yrTgt yrAdd yrom yram) : ∃ n, wY_link_179 post (nI R0) (nI R1) yphase (nI ns) (nI no) (nI ng) (nI ni) (nI nb) (nI nr) yopenOut yinGroup ycur yfinalC0 yfinalC1 ystOp ystA ystB ystOut youtReg youtLoaded youtGroup youtVma youtLma youtSize youtAlign youtRes ygStart ygEnd yinKind yinId yinAlign yinBss yinStart yinLen yinStmt yinLive yinVma yinLma ybytes yrSec yrOff yrType yrTgt yrAdd yrom yram n 0 := by
  obtain ⟨h8, hk⟩ := hk
  have H : ∀ d k, k + d = no → (lk_ex (lk_ov R0 R1 youtReg youtLoaded V L D) d k = true → post (-9) ((nI R0), (nI R1), yphase, (nI ns), (nI no), (nI ng), (nI ni), (nI nb), (nI nr), yopenOut, yinGroup, ycur, yfinalC0, yfinalC1, ystOp, ystA, ystB, ystOut, youtReg, youtLoaded, youtGroup, youtVma, youtLma, youtSize, youtAlign, youtRes, ygStart, ygEnd, yinKind, yinId, yinAlign, yinBss, yinStart, yinLen, yinStmt, yinLive, yinVma, yinLma, ybytes, yrSec, yrOff, yrType, yrTgt, yrAdd, yrom, yram)) → (lk_ex (lk_ov R0 R1 youtReg youtLoaded V L D) d k = false → ∃ n, wY_link_298 post (nI R0) (nI R1) 1 (nI ns) (nI no) (nI ng) (nI ni) (nI nb) (nI nr) yopenOut yinGroup ycur yfinalC0 yfinalC1 n 0 ystOp ystA ystB ystOut youtReg youtLoaded youtGroup youtVma youtLma youtSize youtAlign youtRes ygStart ygEnd yinKind yinId yinAlign yinBss yinStart yinLen yinStmt yinLive yinVma yinLma ybytes yrSec yrOff yrType yrTgt yrAdd yrom yram) → wY_link_179 post (nI R0) (nI R1) yphase (nI ns) (nI no) (nI ng) (nI ni) (nI nb) (nI nr) yopenOut yinGroup ycur yfinalC0 yfinalC1 ystOp ystA ystB ystOut youtReg youtLoaded youtGroup youtVma youtLma youtSize youtAlign youtRes ygStart ygEnd yinKind yinId yinAlign yinBss yinStart yinLen yinStmt yinLive yinVma yinLma ybytes yrSec yrOff yrType yrTgt yrAdd yrom yram (d + 1) (nI k) := by
    intro d
    induction d with
    | zero => intro k hkd _ h0; exact br_t (nI_le (by omega) (by omega)) (h0 rfl)
    | succ d ih =>
      intro k hkd h1 h0
      obtain ⟨r1, e1, e2, e3, e4, e5, e6⟩ := hk k (by omega)
      have e7 := hs k (by omega)
      have e : (nI k).toNatClampNeg = k := nI_clamp (by omega)
      have v8 : vp_in (nI k) 8 := vp_in_nI (by omega) (by omega)
      have hn : ¬ lk_ov R0 R1 youtReg youtLoaded V L D k = true → wY_link_179 post (nI R0) (nI R1) yphase (nI ns) (nI no) (nI ng) (nI ni) (nI nb) (nI nr) yopenOut yinGroup ycur yfinalC0 yfinalC1 ystOp ystA ystB ystOut youtReg youtLoaded youtGroup youtVma youtLma youtSize youtAlign youtRes ygStart ygEnd yinKind yinId yinAlign yinBss yinStart yinLen yinStmt yinLive yinVma yinLma ybytes yrSec yrOff yrType yrTgt yrAdd yrom yram (d + 1) (nI (k + 1)) := by
        intro z
        rw [lk_ex_f z] at h1 h0
        exact ih (k + 1) (by omega) h1 h0
      have hy : lk_ov R0 R1 youtReg youtLoaded V L D k = true → post (-9) ((nI R0), (nI R1), yphase, (nI ns), (nI no), (nI ng), (nI ni), (nI nb), (nI nr), yopenOut, yinGroup, ycur, yfinalC0, yfinalC1, ystOp, ystA, ystB, ystOut, youtReg, youtLoaded, youtGroup, youtVma, youtLma, youtSize, youtAlign, youtRes, ygStart, ygEnd, yinKind, yinId, yinAlign, yinBss, yinStart, yinLen, yinStmt, yinLive, yinVma, yinLma, ybytes, yrSec, yrOff, yrType, yrTgt, yrAdd, yrom, yram) := fun z => h1 (lk_ex_t z)
      obtain ⟨rg, hrg⟩ : ∃ rg, rg = if youtReg k = 0 then R0 else 256 + R1 := ⟨_, rfl⟩
      have hrg2 : rg ≤ 384 := by rw [hrg]; split <;> omega
      have evs : youtVma (nI k).toNatClampNeg + youtSize (nI k).toNatClampNeg = nI (D k) := by rw [e, e1, e7, nI_add, show V k + (D k - V k) = D k by omega]
      have els : youtLma (nI k).toNatClampNeg + youtSize (nI k).toNatClampNeg = nI (L k + (D k - V k)) := by rw [e, e2, e7, nI_add]
      have key : wY_link_219 post (wY_link_179 post (nI R0) (nI R1) yphase (nI ns) (nI no) (nI ng) (nI ni) (nI nb) (nI nr) yopenOut yinGroup ycur yfinalC0 yfinalC1 ystOp ystA ystB ystOut youtReg youtLoaded youtGroup youtVma youtLma youtSize youtAlign youtRes ygStart ygEnd yinKind yinId yinAlign yinBss yinStart yinLen yinStmt yinLive yinVma yinLma ybytes yrSec yrOff yrType yrTgt yrAdd yrom yram (d + 1)) (nI k) (nI rg) (nI R0) (nI R1) yphase (nI ns) (nI no) (nI ng) (nI ni) (nI nb) (nI nr) yopenOut yinGroup ycur yfinalC0 yfinalC1 ystOp ystA ystB ystOut youtReg youtLoaded youtGroup youtVma youtLma youtSize youtAlign youtRes ygStart ygEnd yinKind yinId yinAlign yinBss yinStart yinLen yinStmt yinLive yinVma yinLma ybytes yrSec yrOff yrType yrTgt yrAdd yrom yram := by
        refine ⟨v8, v8, ?_⟩
        by_cases a : D k ≤ rg
        · refine br_t (by rw [evs, nI_leI (by omega) (by omega)]; exact a) ⟨v8, ?_⟩
          by_cases r : youtReg k = 1
          · refine br_t (by rw [e]; exact r) ⟨v8, ?_⟩
            by_cases b : youtLoaded k = 1
            · refine br_t (by rw [e]; exact b) ⟨v8, v8, ?_⟩
              by_cases c : L k + (D k - V k) ≤ R0
              · refine br_t (by rw [els, Int32.zero_add, nI_leI (by omega) (by omega)]; exact c) (nm_r (nI_1 k) (hn (fun z => ?_)))
                rcases of_decide_eq_true z with y | y
                · rw [← hrg] at y; omega
                · have := y.2; omega
              · exact br_f (by rw [els, Int32.zero_add, nI_leI (by omega) (by omega)]; exact c) (hy (decide_eq_true (Or.inr ⟨b, by omega⟩)))
            · refine br_f (by rw [e]; exact b) (nm_r (nI_1 k) (hn (fun z => ?_)))
              rcases of_decide_eq_true z with y | y
              · rw [← hrg] at y; omega
              · exact b y.1
          · refine br_f (by rw [e]; exact r) (nm_r (nI_1 k) (hn (fun z => ?_)))
            have r0 : youtReg k = 0 := r1.resolve_right r
            have e8 := e6 r0
            rw [if_pos r0] at hrg
            rcases of_decide_eq_true z with y | y
            · rw [if_pos r0] at y; omega
            · have := y.2; omega
        · exact br_f (by rw [evs, nI_leI (by omega) (by omega)]; exact a) (hy (decide_eq_true (Or.inl (by rw [← hrg]; omega))))
      refine br_f (nI_ge (by omega) (by omega)) (br_f (nI_ge (b := 8) (by omega) (by omega)) ⟨v8, ?_⟩)
      by_cases r : youtReg k = 0
      · refine br_t (by rw [e]; exact r) ?_
        rw [if_pos r] at hrg
        subst hrg
        rw [Int32.zero_add]
        exact key
      · refine br_f (by rw [e]; exact r) ?_
        rw [if_neg r] at hrg
        subst hrg
        rw [lk_256]
        exact key
  exact ⟨_, H no 0 (by omega) h1 h0⟩
/-- first members -/
def lk_f1 (gp : Nat → Int32) (no : Nat) (z : Int32) : Int32 := lk_ff (fun k => decide (gp k = z)) no 0
theorem lx_f1 {post : Int32 → Prop} {ns no ng ni nb nr : Nat} {xphase xopenOut xopenGroup : Int32} {xregionSize xcounter xmemory xstmtOp xstmtA xstmtB xstmtOwner xoutRegion xoutLoaded xoutGroup xoutAlign xoutVma xoutLma xoutDot xgroupStart xgroupEnd xgroupResident xinKind xinId xinAlign xinSize xinFirstByte xinStmt xinLive xinVma xfedBytes xrelocOwner xrelocOffset xrelocType xrelocTarget xrelocAddend : Nat → Int32} {z : Int32} (h8 : no ≤ 8) (h : post (lk_f1 xoutGroup no z)) : wpX_firstMember post (xphase, (nI ns), xopenOut, xopenGroup, (nI no), (nI ng), (nI ni), (nI nb), (nI nr), xregionSize, xcounter, xmemory, xstmtOp, xstmtA, xstmtB, xstmtOwner, xoutRegion, xoutLoaded, xoutGroup, xoutAlign, xoutVma, xoutLma, xoutDot, xgroupStart, xgroupEnd, xgroupResident, xinKind, xinId, xinAlign, xinSize, xinFirstByte, xinStmt, xinLive, xinVma, xfedBytes, xrelocOwner, xrelocOffset, xrelocType, xrelocTarget, xrelocAddend) z := by
  have H : ∀ d k, k + d = no → post (lk_ff (fun k => decide (xoutGroup k = z)) d k) → wX_firstMember_2 post z xphase (nI ns) xopenOut xopenGroup (nI no) (nI ng) (nI ni) (nI nb) (nI nr) xregionSize xcounter xmemory xstmtOp xstmtA xstmtB xstmtOwner xoutRegion xoutLoaded xoutGroup xoutAlign xoutVma xoutLma xoutDot xgroupStart xgroupEnd xgroupResident xinKind xinId xinAlign xinSize xinFirstByte xinStmt xinLive xinVma xfedBytes xrelocOwner xrelocOffset xrelocType xrelocTarget xrelocAddend (d + 1) (nI k) := by
    intro d
    induction d with
    | zero => intro k hk h; exact br_t (nI_le (by omega) (by omega)) h
    | succ d ih =>
      intro k hk h
      have e : (nI k).toNatClampNeg = k := nI_clamp (by omega)
      have v8 : vp_in (nI k) 8 := vp_in_nI (by omega) (by omega)
      refine br_f (nI_ge (by omega) (by omega)) ⟨v8, ?_⟩
      by_cases a : xoutGroup k = z
      · rw [lk_ff_t (show (fun k => decide (xoutGroup k = z)) k = true from decide_eq_true a)] at h
        exact br_t (by rw [e]; exact a) h
      · rw [lk_ff_f (show ¬ (fun k => decide (xoutGroup k = z)) k = true from fun y => a (of_decide_eq_true y))] at h
        exact br_f (by rw [e]; exact a) (nm_r (nI_1 k) (ih (k + 1) (by omega) h))
  exact ⟨_, H no 0 (by omega) h⟩
theorem ly_f1 {post : Int32 → Prop} {R0 R1 ns no ng ni nb nr : Nat} {yphase yopenOut yinGroup ycur yfinalC0 yfinalC1 : Int32} {ystOp ystA ystB ystOut youtReg youtLoaded youtGroup youtVma youtLma youtSize youtAlign youtRes ygStart ygEnd yinKind yinId yinAlign yinBss yinStart yinLen yinStmt yinLive yinVma yinLma ybytes yrSec yrOff yrType yrTgt yrAdd yrom yram : Nat → Int32} {z : Int32} (h8 : no ≤ 8) (h : post (lk_f1 youtGroup no z)) : wpY_firstMember post ((nI R0), (nI R1), yphase, (nI ns), (nI no), (nI ng), (nI ni), (nI nb), (nI nr), yopenOut, yinGroup, ycur, yfinalC0, yfinalC1, ystOp, ystA, ystB, ystOut, youtReg, youtLoaded, youtGroup, youtVma, youtLma, youtSize, youtAlign, youtRes, ygStart, ygEnd, yinKind, yinId, yinAlign, yinBss, yinStart, yinLen, yinStmt, yinLive, yinVma, yinLma, ybytes, yrSec, yrOff, yrType, yrTgt, yrAdd, yrom, yram) z := by
  have H : ∀ d k, k + d = no → post (lk_ff (fun k => decide (youtGroup k = z)) d k) → wY_firstMember_2 post z (nI R0) (nI R1) yphase (nI ns) (nI no) (nI ng) (nI ni) (nI nb) (nI nr) yopenOut yinGroup ycur yfinalC0 yfinalC1 ystOp ystA ystB ystOut youtReg youtLoaded youtGroup youtVma youtLma youtSize youtAlign youtRes ygStart ygEnd yinKind yinId yinAlign yinBss yinStart yinLen yinStmt yinLive yinVma yinLma ybytes yrSec yrOff yrType yrTgt yrAdd yrom yram (d + 1) (nI k) := by
    intro d
    induction d with
    | zero => intro k hk h; exact br_t (nI_le (by omega) (by omega)) h
    | succ d ih =>
      intro k hk h
      have e : (nI k).toNatClampNeg = k := nI_clamp (by omega)
      have v8 : vp_in (nI k) 8 := vp_in_nI (by omega) (by omega)
      refine br_f (nI_ge (by omega) (by omega)) (br_f (nI_ge (b := 8) (by omega) (by omega)) ⟨v8, ?_⟩)
      by_cases a : youtGroup k = z
      · rw [lk_ff_t (show (fun k => decide (youtGroup k = z)) k = true from decide_eq_true a)] at h
        exact br_t (by rw [e]; exact a) h
      · rw [lk_ff_f (show ¬ (fun k => decide (youtGroup k = z)) k = true from fun y => a (of_decide_eq_true y))] at h
        exact br_f (by rw [e]; exact a) (nm_r (nI_1 k) (ih (k + 1) (by omega) h))
  exact ⟨_, H no 0 (by omega) h⟩
theorem lx_res {post : SX → Prop} {ns no ng ni nb nr : Nat} {xphase xopenOut xopenGroup : Int32} {xregionSize xcounter xmemory xstmtOp xstmtA xstmtB xstmtOwner xoutRegion xoutLoaded xoutGroup xoutAlign xoutVma xoutLma xoutDot xgroupStart xgroupEnd xgroupResident xinKind xinId xinAlign xinSize xinFirstByte xinStmt xinLive xinVma xfedBytes xrelocOwner xrelocOffset xrelocType xrelocTarget xrelocAddend : Nat → Int32} (h8 : no ≤ 8) (h4 : ng ≤ 4) (h : post (xphase, (nI ns), xopenOut, xopenGroup, (nI no), (nI ng), (nI ni), (nI nb), (nI nr), xregionSize, xcounter, xmemory, xstmtOp, xstmtA, xstmtB, xstmtOwner, xoutRegion, xoutLoaded, xoutGroup, xoutAlign, xoutVma, xoutLma, xoutDot, xgroupStart, xgroupEnd, (lk_as xgroupResident ng (fun g => lk_f1 xoutGroup no (nI g))), xinKind, xinId, xinAlign, xinSize, xinFirstByte, xinStmt, xinLive, xinVma, xfedBytes, xrelocOwner, xrelocOffset, xrelocType, xrelocTarget, xrelocAddend)) : wpX_makeFirstMembersResident post (xphase, (nI ns), xopenOut, xopenGroup, (nI no), (nI ng), (nI ni), (nI nb), (nI nr), xregionSize, xcounter, xmemory, xstmtOp, xstmtA, xstmtB, xstmtOwner, xoutRegion, xoutLoaded, xoutGroup, xoutAlign, xoutVma, xoutLma, xoutDot, xgroupStart, xgroupEnd, xgroupResident, xinKind, xinId, xinAlign, xinSize, xinFirstByte, xinStmt, xinLive, xinVma, xfedBytes, xrelocOwner, xrelocOffset, xrelocType, xrelocTarget, xrelocAddend) := by
  have H : ∀ d g, g + d = ng → wX_makeFirstMembersResident_2 post xphase (nI ns) xopenOut xopenGroup (nI no) (nI ng) (nI ni) (nI nb) (nI nr) (d + 1) (nI g) xregionSize xcounter xmemory xstmtOp xstmtA xstmtB xstmtOwner xoutRegion xoutLoaded xoutGroup xoutAlign xoutVma xoutLma xoutDot xgroupStart xgroupEnd (lk_as xgroupResident g (fun g => lk_f1 xoutGroup no (nI g))) xinKind xinId xinAlign xinSize xinFirstByte xinStmt xinLive xinVma xfedBytes xrelocOwner xrelocOffset xrelocType xrelocTarget xrelocAddend := by
    intro d
    induction d with
    | zero =>
      intro g hg
      have e1 : g = ng := hg
      subst e1
      exact br_t (nI_le (by omega) (by omega)) h
    | succ d ih =>
      intro g hg
      exact br_f (nI_ge (by omega) (by omega)) (lx_f1 h8 ⟨vp_in_nI (by omega) (by omega), nm_r (by rw [nI_clamp (by omega)]; exact lk_as_s rfl) (nm_r (nI_1 g) (ih (g + 1) (by omega)))⟩)
  have H2 := H ng 0 (by omega)
  rw [lk_as_0] at H2
  exact ⟨_, H2⟩
def lk_r1 (gp : Nat → Int32) (no k : Nat) : Int32 := if ¬ gp k = -1 ∧ lk_f1 gp no (gp k) = nI k then 1 else 0
theorem ly_res {post : Int32 → SY → Prop} {R0 R1 ns no ng ni nb nr : Nat} {yphase yopenOut yinGroup ycur yfinalC0 yfinalC1 : Int32} {ystOp ystA ystB ystOut youtReg youtLoaded youtGroup youtVma youtLma youtSize youtAlign youtRes ygStart ygEnd yinKind yinId yinAlign yinBss yinStart yinLen yinStmt yinLive yinVma yinLma ybytes yrSec yrOff yrType yrTgt yrAdd yrom yram : Nat → Int32} (h8 : no ≤ 8) (hg : ∀ k, k < no → youtGroup k = -1 ∨ ∃ g, g < 4 ∧ youtGroup k = nI g) (h : ∃ n, wY_link_354 post (nI R0) (nI R1) yphase (nI ns) (nI no) (nI ng) (nI ni) (nI nb) (nI nr) yopenOut yinGroup ycur yfinalC0 yfinalC1 n 0 ystOp ystA ystB ystOut youtReg youtLoaded youtGroup youtVma youtLma youtSize youtAlign (lk_as youtRes no (lk_r1 youtGroup no)) ygStart ygEnd yinKind yinId yinAlign yinBss yinStart yinLen yinStmt yinLive yinVma yinLma ybytes yrSec yrOff yrType yrTgt yrAdd yrom yram) : ∃ n, wY_link_298 post (nI R0) (nI R1) yphase (nI ns) (nI no) (nI ng) (nI ni) (nI nb) (nI nr) yopenOut yinGroup ycur yfinalC0 yfinalC1 n 0 ystOp ystA ystB ystOut youtReg youtLoaded youtGroup youtVma youtLma youtSize youtAlign youtRes ygStart ygEnd yinKind yinId yinAlign yinBss yinStart yinLen yinStmt yinLive yinVma yinLma ybytes yrSec yrOff yrType yrTgt yrAdd yrom yram := by
  have H : ∀ d k, k + d = no → wY_link_298 post (nI R0) (nI R1) yphase (nI ns) (nI no) (nI ng) (nI ni) (nI nb) (nI nr) yopenOut yinGroup ycur yfinalC0 yfinalC1 (d + 1) (nI k) ystOp ystA ystB ystOut youtReg youtLoaded youtGroup youtVma youtLma youtSize youtAlign (lk_as youtRes k (lk_r1 youtGroup no)) ygStart ygEnd yinKind yinId yinAlign yinBss yinStart yinLen yinStmt yinLive yinVma yinLma ybytes yrSec yrOff yrType yrTgt yrAdd yrom yram := by
    intro d
    induction d with
    | zero =>
      intro k hk
      have e1 : k = no := hk
      subst e1
      exact br_t (nI_le (by omega) (by omega)) h
    | succ d ih =>
      intro k hk
      have e : (nI k).toNatClampNeg = k := nI_clamp (by omega)
      have v8 : vp_in (nI k) 8 := vp_in_nI (by omega) (by omega)
      have hi := ih (k + 1) (by omega)
      refine br_f (nI_ge (by omega) (by omega)) (br_f (nI_ge (b := 8) (by omega) (by omega)) ⟨v8, ?_⟩)
      rcases hg k (by omega) with z | ⟨g, hg4, z⟩
      · refine br_t (by rw [e, z]; decide) ⟨v8, nm_r ?_ (nm_r (nI_1 k) hi)⟩
        rw [e]
        exact lk_as_s (if_neg (fun y => y.1 z)).symm
      · refine br_f (by rw [e, z]; exact nI_pos (by omega)) ⟨v8, ly_f1 h8 ?_⟩
        rw [e]
        by_cases a : lk_f1 youtGroup no (youtGroup k) = nI k
        · refine br_t a ⟨v8, nm_r ?_ (nm_r (nI_1 k) hi)⟩
          exact lk_as_s (if_pos ⟨by rw [z]; exact lk_nn1 (by omega), a⟩).symm
        · refine br_f a ⟨v8, nm_r ?_ (nm_r (nI_1 k) hi)⟩
          exact lk_as_s (if_neg (fun y => a y.2)).symm
  have H2 := H no 0 (by omega)
  rw [lk_as_0] at H2
  exact ⟨_, H2⟩
end
end
section

section
/-! AD: X writes the ROM -/
theorem lx_fill2 {post : SX → Prop} {xphase xstmtCount xopenOut xopenGroup xoutCount xgroupCount xinCount xbyteCount xrelocCount : Int32} {xregionSize xcounter xmemory xstmtOp xstmtA xstmtB xstmtOwner xoutRegion xoutLoaded xoutGroup xoutAlign xoutVma xoutLma xoutDot xgroupStart xgroupEnd xgroupResident xinKind xinId xinAlign xinSize xinFirstByte xinStmt xinLive xinVma xfedBytes xrelocOwner xrelocOffset xrelocType xrelocTarget xrelocAddend : Nat → Int32} {s e : Nat} {v z w : Int32} (hz : z = nI s) (hw : w = nI e) (he : e ≤ 384) (hs : s < 2 ^ 31) (h : post (xphase, xstmtCount, xopenOut, xopenGroup, xoutCount, xgroupCount, xinCount, xbyteCount, xrelocCount, xregionSize, xcounter, (lk_wr xmemory s e (fun _ => v)), xstmtOp, xstmtA, xstmtB, xstmtOwner, xoutRegion, xoutLoaded, xoutGroup, xoutAlign, xoutVma, xoutLma, xoutDot, xgroupStart, xgroupEnd, xgroupResident, xinKind, xinId, xinAlign, xinSize, xinFirstByte, xinStmt, xinLive, xinVma, xfedBytes, xrelocOwner, xrelocOffset, xrelocType, xrelocTarget, xrelocAddend)) : wpX_fill post (xphase, xstmtCount, xopenOut, xopenGroup, xoutCount, xgroupCount, xinCount, xbyteCount, xrelocCount, xregionSize, xcounter, xmemory, xstmtOp, xstmtA, xstmtB, xstmtOwner, xoutRegion, xoutLoaded, xoutGroup, xoutAlign, xoutVma, xoutLma, xoutDot, xgroupStart, xgroupEnd, xgroupResident, xinKind, xinId, xinAlign, xinSize, xinFirstByte, xinStmt, xinLive, xinVma, xfedBytes, xrelocOwner, xrelocOffset, xrelocType, xrelocTarget, xrelocAddend) z w v := by
  subst hz
  subst hw
  exact lx_fill he hs h
theorem lx_lmaI {post : Int32 → Prop} {ns no ng ni nb nr : Nat} {xphase xopenOut xopenGroup : Int32} {xregionSize xcounter xmemory xstmtOp xstmtA xstmtB xstmtOwner xoutRegion xoutLoaded xoutGroup xoutAlign xoutVma xoutLma xoutDot xgroupStart xgroupEnd xgroupResident xinKind xinId xinAlign xinSize xinFirstByte xinStmt xinLive xinVma xfedBytes xrelocOwner xrelocOffset xrelocType xrelocTarget xrelocAddend : Nat → Int32} {s q k : Nat} {z : Int32} (hz : z = nI s) (hs : s < 16) (hq : q < 32) (hk : k < 8) (es : xinStmt s = nI q) (eq : xstmtOwner q = nI k) (h : post (xinVma s + xoutLma k - xoutVma k)) : wpX_lmaOfLive post (xphase, (nI ns), xopenOut, xopenGroup, (nI no), (nI ng), (nI ni), (nI nb), (nI nr), xregionSize, xcounter, xmemory, xstmtOp, xstmtA, xstmtB, xstmtOwner, xoutRegion, xoutLoaded, xoutGroup, xoutAlign, xoutVma, xoutLma, xoutDot, xgroupStart, xgroupEnd, xgroupResident, xinKind, xinId, xinAlign, xinSize, xinFirstByte, xinStmt, xinLive, xinVma, xfedBytes, xrelocOwner, xrelocOffset, xrelocType, xrelocTarget, xrelocAddend) z := by
  subst hz
  have e : (nI s).toNatClampNeg = s := nI_clamp (by omega)
  have e2 : (nI q).toNatClampNeg = q := nI_clamp (by omega)
  have e3 : (nI k).toNatClampNeg = k := nI_clamp (by omega)
  have v16 : vp_in (nI s) 16 := vp_in_nI hs (by omega)
  have v32 : vp_in (xinStmt (nI s).toNatClampNeg) 32 := by rw [e, es]; exact vp_in_nI hq (by omega)
  have eo : xstmtOwner (xinStmt (nI s).toNatClampNeg).toNatClampNeg = nI k := by rw [e, es, e2, eq]
  have v8 : vp_in (xstmtOwner (xinStmt (nI s).toNatClampNeg).toNatClampNeg) 8 := by rw [eo]; exact vp_in_nI hk (by omega)
  refine ⟨v16, v32, v16, v8, v8, ?_⟩
  rw [eo, e3, e]
  exact h
theorem lx_lma {post : Int32 → Prop} {ns no ng ni nb nr : Nat} {xphase xopenOut xopenGroup : Int32} {xregionSize xcounter xmemory xstmtOp xstmtA xstmtB xstmtOwner xoutRegion xoutLoaded xoutGroup xoutAlign xoutVma xoutLma xoutDot xgroupStart xgroupEnd xgroupResident xinKind xinId xinAlign xinSize xinFirstByte xinStmt xinLive xinVma xfedBytes xrelocOwner xrelocOffset xrelocType xrelocTarget xrelocAddend : Nat → Int32} {s q k iv l v : Nat} {z : Int32} (hz : z = nI s) (hs : s < 16) (hq : q < 32) (hk : k < 8) (es : xinStmt s = nI q) (eq : xstmtOwner q = nI k) (ei : xinVma s = nI iv) (el : xoutLma k = nI l) (ev : xoutVma k = nI v) (hv : v ≤ iv) (h : post (nI (l + (iv - v)))) : wpX_lmaOfLive post (xphase, (nI ns), xopenOut, xopenGroup, (nI no), (nI ng), (nI ni), (nI nb), (nI nr), xregionSize, xcounter, xmemory, xstmtOp, xstmtA, xstmtB, xstmtOwner, xoutRegion, xoutLoaded, xoutGroup, xoutAlign, xoutVma, xoutLma, xoutDot, xgroupStart, xgroupEnd, xgroupResident, xinKind, xinId, xinAlign, xinSize, xinFirstByte, xinStmt, xinLive, xinVma, xfedBytes, xrelocOwner, xrelocOffset, xrelocType, xrelocTarget, xrelocAddend) z := by
  refine lx_lmaI hz hs hq hk es eq ?_
  rw [ei, el, ev, nI_add, pk_sub (by omega), show iv + l - v = l + (iv - v) by omega]
  exact h
theorem lx_wf {post : SX → Prop} {ns no ng ni nb nr : Nat} {xphase xopenOut xopenGroup : Int32} {xregionSize xcounter xmemory xstmtOp xstmtA xstmtB xstmtOwner xoutRegion xoutLoaded xoutGroup xoutAlign xoutVma xoutLma xoutDot xgroupStart xgroupEnd xgroupResident xinKind xinId xinAlign xinSize xinFirstByte xinStmt xinLive xinVma xfedBytes xrelocOwner xrelocOffset xrelocType xrelocTarget xrelocAddend : Nat → Int32} {s q k iv l v Z T : Nat} (hs : s < 16) (hq : q < 32) (hk : k < 8) (es : xinStmt s = nI q) (eq : xstmtOwner q = nI k) (ei : xinVma s = nI iv) (el : xoutLma k = nI l) (ev : xoutVma k = nI v) (hv : v ≤ iv) (ez : xinSize s = nI Z) (et : xinFirstByte s = nI T) (hT : T + Z ≤ 256) (hl : l + (iv - v) + Z ≤ 384) (h : post (xphase, (nI ns), xopenOut, xopenGroup, (nI no), (nI ng), (nI ni), (nI nb), (nI nr), xregionSize, xcounter, (lk_wr xmemory (l + (iv - v)) (l + (iv - v) + Z) (fun j => xfedBytes (xinFirstByte s + nI (j - (l + (iv - v)))).toNatClampNeg)), xstmtOp, xstmtA, xstmtB, xstmtOwner, xoutRegion, xoutLoaded, xoutGroup, xoutAlign, xoutVma, xoutLma, xoutDot, xgroupStart, xgroupEnd, xgroupResident, xinKind, xinId, xinAlign, xinSize, xinFirstByte, xinStmt, xinLive, xinVma, xfedBytes, xrelocOwner, xrelocOffset, xrelocType, xrelocTarget, xrelocAddend)) : wpX_writeFedBytes post (xphase, (nI ns), xopenOut, xopenGroup, (nI no), (nI ng), (nI ni), (nI nb), (nI nr), xregionSize, xcounter, xmemory, xstmtOp, xstmtA, xstmtB, xstmtOwner, xoutRegion, xoutLoaded, xoutGroup, xoutAlign, xoutVma, xoutLma, xoutDot, xgroupStart, xgroupEnd, xgroupResident, xinKind, xinId, xinAlign, xinSize, xinFirstByte, xinStmt, xinLive, xinVma, xfedBytes, xrelocOwner, xrelocOffset, xrelocType, xrelocTarget, xrelocAddend) (nI s) := by
  have e : (nI s).toNatClampNeg = s := nI_clamp (by omega)
  have v16 : vp_in (nI s) 16 := vp_in_nI hs (by omega)
  unfold wpX_writeFedBytes
  refine lx_lma rfl hs hq hk es eq ei el ev hv ⟨v16, nm_r (e' := nI Z) (by rw [e, ez]) ?_⟩
  generalize l + (iv - v) = a at h hl
  have H : ∀ d i, i + d = Z → wX_writeFedBytes_16 post (nI s) (nI a) (nI Z) xphase (nI ns) xopenOut xopenGroup (nI no) (nI ng) (nI ni) (nI nb) (nI nr) (d + 1) (nI i) xregionSize xcounter (lk_wr xmemory a (a + i) (fun j => xfedBytes (xinFirstByte s + nI (j - a)).toNatClampNeg)) xstmtOp xstmtA xstmtB xstmtOwner xoutRegion xoutLoaded xoutGroup xoutAlign xoutVma xoutLma xoutDot xgroupStart xgroupEnd xgroupResident xinKind xinId xinAlign xinSize xinFirstByte xinStmt xinLive xinVma xfedBytes xrelocOwner xrelocOffset xrelocType xrelocTarget xrelocAddend := by
    intro d
    induction d with
    | zero =>
      intro i hi
      have e1 : i = Z := hi
      subst e1
      exact br_t (nI_le (by omega) (by omega)) h
    | succ d ih =>
      intro i hi
      refine br_f (nI_ge (by omega) (by omega)) ⟨v16, by rw [e, et, nI_add]; exact vp_in_nI (by omega) (by omega), by rw [nI_add]; exact vp_in_nI (by omega) (by omega), nm_r ?_ (nm_r (nI_1 i) (ih (i + 1) (by omega)))⟩
      rw [nI_add, nI_clamp (by omega), e]
      refine lk_wr_s (by omega) ?_
      show _ = xfedBytes (xinFirstByte s + nI (a + i - a)).toNatClampNeg
      rw [Nat.add_sub_cancel_left]
  have H2 := H Z 0 (by omega)
  rw [lk_wr_e (show a + 0 ≤ a from Nat.le_refl a)] at H2
  exact ⟨_, H2⟩
theorem lx_rv {post : Int32 → Prop} {ns no ng ni nb nr : Nat} {xphase xopenOut xopenGroup : Int32} {xregionSize xcounter xmemory xstmtOp xstmtA xstmtB xstmtOwner xoutRegion xoutLoaded xoutGroup xoutAlign xoutVma xoutLma xoutDot xgroupStart xgroupEnd xgroupResident xinKind xinId xinAlign xinSize xinFirstByte xinStmt xinLive xinVma xfedBytes xrelocOwner xrelocOffset xrelocType xrelocTarget xrelocAddend : Nat → Int32} {yv yl : Nat → Int32} {r o t q k : Nat} (hr : r < 32) (h16 : ni ≤ 16) (eo : xrelocOwner r = nI o) (ho : o < ni) (et : xrelocTarget r = nI t) (ht : t < ni) (hq : q < 32) (hk : k < 8) (es : xinStmt t = nI q) (eq : xstmtOwner q = nI k) (e1 : yv t = xinVma t) (e2 : yv o = xinVma o) (e3 : yl t = xinVma t + xoutLma k - xoutVma k) (h : post (lk_rv ni xrelocOwner xrelocOffset xrelocType xrelocTarget xrelocAddend yv yl r)) : wpX_relocValue post (xphase, (nI ns), xopenOut, xopenGroup, (nI no), (nI ng), (nI ni), (nI nb), (nI nr), xregionSize, xcounter, xmemory, xstmtOp, xstmtA, xstmtB, xstmtOwner, xoutRegion, xoutLoaded, xoutGroup, xoutAlign, xoutVma, xoutLma, xoutDot, xgroupStart, xgroupEnd, xgroupResident, xinKind, xinId, xinAlign, xinSize, xinFirstByte, xinStmt, xinLive, xinVma, xfedBytes, xrelocOwner, xrelocOffset, xrelocType, xrelocTarget, xrelocAddend) (nI r) := by
  have e : (nI r).toNatClampNeg = r := nI_clamp (by omega)
  have ec : (nI t).toNatClampNeg = t := nI_clamp (by omega)
  have eoc : (nI o).toNatClampNeg = o := nI_clamp (by omega)
  have v32 : vp_in (nI r) 32 := vp_in_nI hr (by omega)
  have v16 : vp_in (nI t) 16 := vp_in_nI (by omega) (by omega)
  have vo : vp_in (xrelocOwner (nI r).toNatClampNeg) 16 := by rw [e, eo]; exact vp_in_nI (by omega) (by omega)
  unfold lk_rv at h
  rw [et, if_neg (nI_ge ht (by omega)), ec] at h
  refine ⟨v32, nm_r (e' := nI t) (by rw [e, et]) ⟨v32, nm_r (e' := xrelocType r) (by rw [e]) ?_⟩⟩
  by_cases a : xrelocType r = 1
  · rw [if_pos a, e1] at h
    refine br_t a ⟨v16, v32, ?_⟩
    rw [ec, e]
    exact h
  · rw [if_neg a] at h
    refine br_f a ?_
    by_cases b : xrelocType r = 2
    · rw [if_pos b, e3] at h
      refine br_t b (lx_lmaI rfl (by omega) hq hk es eq ⟨v32, ?_⟩)
      rw [e]
      exact h
    · rw [if_neg b, e1, eo, eoc, e2] at h
      refine br_f b ⟨v16, v32, v32, vo, v32, ?_⟩
      rw [ec, e, eo, eoc]
      exact h
theorem lx_wr {post : SX → Prop} {ns no ng ni nb nr : Nat} {xphase xopenOut xopenGroup : Int32} {xregionSize xcounter xmemory xstmtOp xstmtA xstmtB xstmtOwner xoutRegion xoutLoaded xoutGroup xoutAlign xoutVma xoutLma xoutDot xgroupStart xgroupEnd xgroupResident xinKind xinId xinAlign xinSize xinFirstByte xinStmt xinLive xinVma xfedBytes xrelocOwner xrelocOffset xrelocType xrelocTarget xrelocAddend : Nat → Int32} {yv yl : Nat → Int32} {r o f t q k q2 k2 iv l v : Nat} (hr : r < 32) (h16 : ni ≤ 16) (eo : xrelocOwner r = nI o) (ho : o < ni) (ef : xrelocOffset r = nI f) (et : xrelocTarget r = nI t) (ht : t < ni) (hq : q < 32) (hk : k < 8) (es : xinStmt t = nI q) (eq : xstmtOwner q = nI k) (e1 : yv t = xinVma t) (e2 : yv o = xinVma o) (e3 : yl t = xinVma t + xoutLma k - xoutVma k)
    (hq2 : q2 < 32) (hk2 : k2 < 8) (es2 : xinStmt o = nI q2) (eq2 : xstmtOwner q2 = nI k2) (ei : xinVma o = nI iv) (el : xoutLma k2 = nI l) (ev : xoutVma k2 = nI v) (hv : v ≤ iv) (hl : l + (iv - v) + f + 2 ≤ 384)
    (h : post (xphase, (nI ns), xopenOut, xopenGroup, (nI no), (nI ng), (nI ni), (nI nb), (nI nr), xregionSize, xcounter, (upd (upd xmemory (l + (iv - v) + f) (lk_lo ni xrelocOwner xrelocOffset xrelocType xrelocTarget xrelocAddend yv yl r)) (l + (iv - v) + f + 1) (lk_hi ni xrelocOwner xrelocOffset xrelocType xrelocTarget xrelocAddend yv yl r)), xstmtOp, xstmtA, xstmtB, xstmtOwner, xoutRegion, xoutLoaded, xoutGroup, xoutAlign, xoutVma, xoutLma, xoutDot, xgroupStart, xgroupEnd, xgroupResident, xinKind, xinId, xinAlign, xinSize, xinFirstByte, xinStmt, xinLive, xinVma, xfedBytes, xrelocOwner, xrelocOffset, xrelocType, xrelocTarget, xrelocAddend)) : wpX_writeReloc post (xphase, (nI ns), xopenOut, xopenGroup, (nI no), (nI ng), (nI ni), (nI nb), (nI nr), xregionSize, xcounter, xmemory, xstmtOp, xstmtA, xstmtB, xstmtOwner, xoutRegion, xoutLoaded, xoutGroup, xoutAlign, xoutVma, xoutLma, xoutDot, xgroupStart, xgroupEnd, xgroupResident, xinKind, xinId, xinAlign, xinSize, xinFirstByte, xinStmt, xinLive, xinVma, xfedBytes, xrelocOwner, xrelocOffset, xrelocType, xrelocTarget, xrelocAddend) (nI r) := by
  have e : (nI r).toNatClampNeg = r := nI_clamp (by omega)
  have v32 : vp_in (nI r) 32 := vp_in_nI hr (by omega)
  refine ⟨v32, lx_lma (by rw [e, eo]) (by omega) hq2 hk2 es2 eq2 ei el ev hv ⟨v32, nm_r (e' := nI (l + (iv - v) + f)) (by rw [e, ef, nI_add]) (lx_rv hr h16 eo ho et ht hq hk es eq e1 e2 e3 ⟨vp_in_nI (by omega) (by omega), nm_r (by rw [nI_clamp (by omega)]) ⟨by rw [nI_1]; exact vp_in_nI (by omega) (by omega), nm_r (by rw [nI_1, nI_clamp (by omega)]; rfl) h⟩⟩)⟩⟩
theorem lx_rom1 {ns no ng ni nb nr : Nat} {xphase xopenOut xopenGroup : Int32} {xregionSize xcounter xmemory xstmtOp xstmtA xstmtB xstmtOwner xoutRegion xoutLoaded xoutGroup xoutAlign xoutVma xoutLma xoutDot xgroupStart xgroupEnd xgroupResident xinKind xinId xinAlign xinSize xinFirstByte xinStmt xinLive xinVma xfedBytes xrelocOwner xrelocOffset xrelocType xrelocTarget xrelocAddend : Nat → Int32} {V L D : Nat → Nat} (hk : lk_hk no xoutRegion xoutVma xoutLma V L D) (hd : ∀ k, k < no → xoutDot k = nI (D k)) (h128 : ∀ k, k < no → xoutLoaded k = 1 → L k + (D k - V k) ≤ 128) (n32 : ns ≤ 32) : ∀ d k, k + d = no → ∀ m : Nat → Int32, lk_I1 xoutLoaded L D V xmemory k m → ∃ m' : Nat → Int32, lk_I1 xoutLoaded L D V xmemory no m' ∧ ∀ post : SX → Prop, (∃ n, wX_writeRom_46 post n 0 xphase (nI ns) xopenOut xopenGroup (nI no) (nI ng) (nI ni) (nI nb) (nI nr) xregionSize xcounter m' xstmtOp xstmtA xstmtB xstmtOwner xoutRegion xoutLoaded xoutGroup xoutAlign xoutVma xoutLma xoutDot xgroupStart xgroupEnd xgroupResident xinKind xinId xinAlign xinSize xinFirstByte xinStmt xinLive xinVma xfedBytes xrelocOwner xrelocOffset xrelocType xrelocTarget xrelocAddend) → wX_writeRom_2 post (d + 1) (nI k) xphase (nI ns) xopenOut xopenGroup (nI no) (nI ng) (nI ni) (nI nb) (nI nr) xregionSize xcounter m xstmtOp xstmtA xstmtB xstmtOwner xoutRegion xoutLoaded xoutGroup xoutAlign xoutVma xoutLma xoutDot xgroupStart xgroupEnd xgroupResident xinKind xinId xinAlign xinSize xinFirstByte xinStmt xinLive xinVma xfedBytes xrelocOwner xrelocOffset xrelocType xrelocTarget xrelocAddend := by
  obtain ⟨h8, hk⟩ := hk
  intro d
  induction d with
  | zero =>
    intro k hkd m hm
    have e1 : k = no := hkd
    subst e1
    exact ⟨m, hm, fun post hp => br_t (nI_le (by omega) (by omega)) hp⟩
  | succ d ih =>
    intro k hkd m hm
    obtain ⟨_, ev, el, hvd, _, _, _⟩ := hk k (by omega)
    have ed := hd k (by omega)
    have e : (nI k).toNatClampNeg = k := nI_clamp (by omega)
    have v8 : vp_in (nI k) 8 := vp_in_nI (by omega) (by omega)
    have n1 : ¬ nI no ≤ nI k := nI_ge (by omega) (by omega)
    by_cases a : xoutLoaded k = 1
    · have hb := h128 k (by omega) a
      obtain ⟨m', j1, j2⟩ := ih (k + 1) (by omega) _ (lk_I1_s hm a)
      exact ⟨m', j1, fun post hp => br_f n1 ⟨v8, br_t (by rw [e]; exact a) (lx_le (by omega) el ed ev hvd ⟨v8, lx_fill2 (by rw [e, el]) rfl (by omega) (by omega) (nm_r (nI_1 k) (j2 post hp))⟩)⟩⟩
    · obtain ⟨m', j1, j2⟩ := ih (k + 1) (by omega) m (lk_I1_n hm a)
      exact ⟨m', j1, fun post hp => br_f n1 ⟨v8, br_f (by rw [e]; exact a) (nm_r (nI_1 k) (j2 post hp))⟩⟩
theorem lx_rom2 {ns no ng ni nb nr : Nat} {xphase xopenOut xopenGroup : Int32} {xregionSize xcounter xstmtOp xstmtA xstmtB xstmtOwner xoutRegion xoutLoaded xoutGroup xoutAlign xoutVma xoutLma xoutDot xgroupStart xgroupEnd xgroupResident xinKind xinId xinAlign xinSize xinFirstByte xinStmt xinLive xinVma xfedBytes xrelocOwner xrelocOffset xrelocType xrelocTarget xrelocAddend : Nat → Int32} {V L D IV : Nat → Nat} {oy yv yl yinBss yinLen m1 : Nat → Int32} (hk : lk_hk no xoutRegion xoutVma xoutLma V L D) (hd : ∀ k, k < no → xoutDot k = nI (D k)) (h128 : ∀ k, k < no → xoutLoaded k = 1 → L k + (D k - V k) ≤ 128) (n32 : ns ≤ 32) (hF : ∀ s, s < ni → xinLive s = 1 → ∃ q k, q < ns ∧ xinStmt s = nI q ∧ xstmtOwner q = nI k ∧ oy q = nI k ∧ k < no ∧ xinVma s = nI (IV s) ∧ yv s = nI (IV s) ∧ IV s < 2 ^ 30 ∧ yl s = nI (IV s) + (xoutLma k - xoutVma k)) (hG : ∀ s, s < ni → xinLive s = 1 → V (xstmtOwner (xinStmt s).toNatClampNeg).toNatClampNeg ≤ IV s ∧ IV s + (xinSize s).toNatClampNeg ≤ D (xstmtOwner (xinStmt s).toNatClampNeg).toNatClampNeg) (hLd : ∀ s, s < ni → xinLive s = 1 → ¬ xinKind s = 3 → xoutLoaded (xstmtOwner (xinStmt s).toNatClampNeg).toNatClampNeg = 1) (hN : lk_N ni nb xinKind xinAlign xinSize xinFirstByte yinBss yinLen) (dj : lk_dj ni (fun s => xinLive s = 1 ∧ ¬ xinKind s = 3) (fun s => L (xstmtOwner (xinStmt s).toNatClampNeg).toNatClampNeg + (IV s - V (xstmtOwner (xinStmt s).toNatClampNeg).toNatClampNeg)) (fun s => (xinSize s).toNatClampNeg)) : ∀ d s, s + d = ni → ∀ m : Nat → Int32, lk_I2 (fun s => xinLive s = 1 ∧ ¬ xinKind s = 3) (fun s => L (xstmtOwner (xinStmt s).toNatClampNeg).toNatClampNeg + (IV s - V (xstmtOwner (xinStmt s).toNatClampNeg).toNatClampNeg)) (fun s => (xinSize s).toNatClampNeg) (fun s p => xfedBytes (xinFirstByte s + nI p).toNatClampNeg) m1 s m → ∃ m' : Nat → Int32, lk_I2 (fun s => xinLive s = 1 ∧ ¬ xinKind s = 3) (fun s => L (xstmtOwner (xinStmt s).toNatClampNeg).toNatClampNeg + (IV s - V (xstmtOwner (xinStmt s).toNatClampNeg).toNatClampNeg)) (fun s => (xinSize s).toNatClampNeg) (fun s p => xfedBytes (xinFirstByte s + nI p).toNatClampNeg) m1 ni m' ∧ ∀ post : SX → Prop, (∃ n, wX_writeRom_87 post n 0 xphase (nI ns) xopenOut xopenGroup (nI no) (nI ng) (nI ni) (nI nb) (nI nr) xregionSize xcounter m' xstmtOp xstmtA xstmtB xstmtOwner xoutRegion xoutLoaded xoutGroup xoutAlign xoutVma xoutLma xoutDot xgroupStart xgroupEnd xgroupResident xinKind xinId xinAlign xinSize xinFirstByte xinStmt xinLive xinVma xfedBytes xrelocOwner xrelocOffset xrelocType xrelocTarget xrelocAddend) → wX_writeRom_46 post (d + 1) (nI s) xphase (nI ns) xopenOut xopenGroup (nI no) (nI ng) (nI ni) (nI nb) (nI nr) xregionSize xcounter m xstmtOp xstmtA xstmtB xstmtOwner xoutRegion xoutLoaded xoutGroup xoutAlign xoutVma xoutLma xoutDot xgroupStart xgroupEnd xgroupResident xinKind xinId xinAlign xinSize xinFirstByte xinStmt xinLive xinVma xfedBytes xrelocOwner xrelocOffset xrelocType xrelocTarget xrelocAddend := by
  obtain ⟨h8, hk⟩ := hk
  have h16 := hN.1
  intro d
  induction d with
  | zero =>
    intro s hs m hm
    have e1 : s = ni := hs
    subst e1
    exact ⟨m, hm, fun post hp => br_t (nI_le (by omega) (by omega)) hp⟩
  | succ d ih =>
    intro s hs m hm
    have e : (nI s).toNatClampNeg = s := nI_clamp (by omega)
    have v16 : vp_in (nI s) 16 := vp_in_nI (by omega) (by omega)
    have n1 : ¬ nI ni ≤ nI s := nI_ge (by omega) (by omega)
    by_cases a : xinLive s = 1
    · by_cases b : xinKind s = 3
      · obtain ⟨m', j1, j2⟩ := ih (s + 1) (by omega) m (lk_I2_n hm (fun z => z.2 b))
        exact ⟨m', j1, fun post hp => br_f n1 ⟨v16, br_t (by rw [e]; exact a) ⟨v16, br_t (by rw [e]; exact b) (nm_r (nI_1 s) (j2 post hp))⟩⟩⟩
      · obtain ⟨q, k, hq, es, eq, _, hkn, ei, _, _, _⟩ := hF s (by omega) a
        obtain ⟨_, ev, el, hvd, _, _, _⟩ := hk k hkn
        obtain ⟨A, T, Z, Q, _, _, et, _, hTZ, ez, d7⟩ := hN.2.2 s (by omega)
        have hQZ : Q = Z := by
          rcases d7 with ⟨z, _⟩ | ⟨_, z⟩
          · exact absurd z b
          · exact z
        have hnb := hN.2.1
        have own : (xstmtOwner (xinStmt s).toNatClampNeg).toNatClampNeg = k := by rw [es, nI_clamp (by omega), eq, nI_clamp (by omega)]
        have g := hG s (by omega) a
        have gl := hLd s (by omega) a b
        rw [own] at g gl
        have hb := h128 k hkn gl
        have esz : (xinSize s).toNatClampNeg = Q := by rw [ez, nI_clamp (by omega)]
        rw [esz] at g
        have hI := lk_I2_s (m' := lk_wr m (L k + (IV s - V k)) (L k + (IV s - V k) + Q) (fun j => xfedBytes (xinFirstByte s + nI (j - (L k + (IV s - V k)))).toNatClampNeg)) dj (show s < ni by omega) (show xinLive s = 1 ∧ ¬ xinKind s = 3 from ⟨a, b⟩) hm (fun p hp => by
            have hp2 : p < Q := by have : p < (xinSize s).toNatClampNeg := hp; rw [esz] at this; exact this
            show lk_wr m (L k + (IV s - V k)) (L k + (IV s - V k) + Q) _ (L (xstmtOwner (xinStmt s).toNatClampNeg).toNatClampNeg + (IV s - V (xstmtOwner (xinStmt s).toNatClampNeg).toNatClampNeg) + p) = _
            rw [own, lk_wr_t (by omega) (by omega), Nat.add_sub_cancel_left]) (fun j hj => by
            have hj2 : ¬ (L (xstmtOwner (xinStmt s).toNatClampNeg).toNatClampNeg + (IV s - V (xstmtOwner (xinStmt s).toNatClampNeg).toNatClampNeg) ≤ j ∧ j < L (xstmtOwner (xinStmt s).toNatClampNeg).toNatClampNeg + (IV s - V (xstmtOwner (xinStmt s).toNatClampNeg).toNatClampNeg) + (xinSize s).toNatClampNeg) := hj
            rw [own, esz] at hj2
            exact lk_wr_f hj2)
        obtain ⟨m', j1, j2⟩ := ih (s + 1) (by omega) _ hI
        exact ⟨m', j1, fun post hp => br_f n1 ⟨v16, br_t (by rw [e]; exact a) ⟨v16, br_f (by rw [e]; exact b) (lx_wf (by omega) (by omega) (by omega) es eq ei el ev g.1 ez et (by omega) (by omega) (nm_r (nI_1 s) (j2 post hp)))⟩⟩⟩
    · obtain ⟨m', j1, j2⟩ := ih (s + 1) (by omega) m (lk_I2_n hm (fun z => a z.1))
      exact ⟨m', j1, fun post hp => br_f n1 ⟨v16, br_f (by rw [e]; exact a) (nm_r (nI_1 s) (j2 post hp))⟩⟩
end
end
section

section
/-! AE: X writes the ROM: relocations, and all of it -/
theorem lx_rom3 {ns no ng ni nb nr : Nat} {xphase xopenOut xopenGroup : Int32} {xregionSize xcounter xstmtOp xstmtA xstmtB xstmtOwner xoutRegion xoutLoaded xoutGroup xoutAlign xoutVma xoutLma xoutDot xgroupStart xgroupEnd xgroupResident xinKind xinId xinAlign xinSize xinFirstByte xinStmt xinLive xinVma xfedBytes xrelocOwner xrelocOffset xrelocType xrelocTarget xrelocAddend : Nat → Int32} {V L D IV : Nat → Nat} {oy yv yl yinBss yinLen m1 : Nat → Int32} (hk : lk_hk no xoutRegion xoutVma xoutLma V L D) (hd : ∀ k, k < no → xoutDot k = nI (D k)) (h128 : ∀ k, k < no → xoutLoaded k = 1 → L k + (D k - V k) ≤ 128) (n32 : ns ≤ 32) (hF : ∀ s, s < ni → xinLive s = 1 → ∃ q k, q < ns ∧ xinStmt s = nI q ∧ xstmtOwner q = nI k ∧ oy q = nI k ∧ k < no ∧ xinVma s = nI (IV s) ∧ yv s = nI (IV s) ∧ IV s < 2 ^ 30 ∧ yl s = nI (IV s) + (xoutLma k - xoutVma k)) (hG : ∀ s, s < ni → xinLive s = 1 → V (xstmtOwner (xinStmt s).toNatClampNeg).toNatClampNeg ≤ IV s ∧ IV s + (xinSize s).toNatClampNeg ≤ D (xstmtOwner (xinStmt s).toNatClampNeg).toNatClampNeg) (hLd : ∀ s, s < ni → xinLive s = 1 → ¬ xinKind s = 3 → xoutLoaded (xstmtOwner (xinStmt s).toNatClampNeg).toNatClampNeg = 1) (hN : lk_N ni nb xinKind xinAlign xinSize xinFirstByte yinBss yinLen) (hQ : lk_Q nr ni xinKind yinLen xrelocOwner xrelocOffset xrelocTarget) (hcl : ∀ r, r < nr → xinLive (xrelocOwner r).toNatClampNeg = 1 → ∃ t, t < ni ∧ xrelocTarget r = nI t ∧ xinLive t = 1) (dj : lk_dj ni (fun s => xinLive s = 1 ∧ ¬ xinKind s = 3) (fun s => L (xstmtOwner (xinStmt s).toNatClampNeg).toNatClampNeg + (IV s - V (xstmtOwner (xinStmt s).toNatClampNeg).toNatClampNeg)) (fun s => (xinSize s).toNatClampNeg)) : ∀ d r, r + d = nr → ∀ m : Nat → Int32, lk_I3 ni (fun s => xinLive s = 1 ∧ ¬ xinKind s = 3) (fun s => L (xstmtOwner (xinStmt s).toNatClampNeg).toNatClampNeg + (IV s - V (xstmtOwner (xinStmt s).toNatClampNeg).toNatClampNeg)) (fun s => (xinSize s).toNatClampNeg) xrelocOwner xrelocOffset (lk_lo ni xrelocOwner xrelocOffset xrelocType xrelocTarget xrelocAddend yv yl) (lk_hi ni xrelocOwner xrelocOffset xrelocType xrelocTarget xrelocAddend yv yl) (fun s p => xfedBytes (xinFirstByte s + nI p).toNatClampNeg) m1 r m → ∃ m' : Nat → Int32, lk_I3 ni (fun s => xinLive s = 1 ∧ ¬ xinKind s = 3) (fun s => L (xstmtOwner (xinStmt s).toNatClampNeg).toNatClampNeg + (IV s - V (xstmtOwner (xinStmt s).toNatClampNeg).toNatClampNeg)) (fun s => (xinSize s).toNatClampNeg) xrelocOwner xrelocOffset (lk_lo ni xrelocOwner xrelocOffset xrelocType xrelocTarget xrelocAddend yv yl) (lk_hi ni xrelocOwner xrelocOffset xrelocType xrelocTarget xrelocAddend yv yl) (fun s p => xfedBytes (xinFirstByte s + nI p).toNatClampNeg) m1 nr m' ∧ ∀ post : SX → Prop, post (xphase, (nI ns), xopenOut, xopenGroup, (nI no), (nI ng), (nI ni), (nI nb), (nI nr), xregionSize, xcounter, m', xstmtOp, xstmtA, xstmtB, xstmtOwner, xoutRegion, xoutLoaded, xoutGroup, xoutAlign, xoutVma, xoutLma, xoutDot, xgroupStart, xgroupEnd, xgroupResident, xinKind, xinId, xinAlign, xinSize, xinFirstByte, xinStmt, xinLive, xinVma, xfedBytes, xrelocOwner, xrelocOffset, xrelocType, xrelocTarget, xrelocAddend) → wX_writeRom_87 post (d + 1) (nI r) xphase (nI ns) xopenOut xopenGroup (nI no) (nI ng) (nI ni) (nI nb) (nI nr) xregionSize xcounter m xstmtOp xstmtA xstmtB xstmtOwner xoutRegion xoutLoaded xoutGroup xoutAlign xoutVma xoutLma xoutDot xgroupStart xgroupEnd xgroupResident xinKind xinId xinAlign xinSize xinFirstByte xinStmt xinLive xinVma xfedBytes xrelocOwner xrelocOffset xrelocType xrelocTarget xrelocAddend := by
  obtain ⟨h8, hk⟩ := hk
  have h16 := hN.1
  have hnb := hN.2.1
  have hr32 := hQ.1
  have hlen : ∀ s, s < ni → (fun s => (xinSize s).toNatClampNeg) s < 2 ^ 30 := by
    intro s hs
    obtain ⟨A, T, Z, Q, _, _, _, _, hTZ, ez, d7⟩ := hN.2.2 s hs
    show (xinSize s).toNatClampNeg < 2 ^ 30
    have : Q ≤ 256 := by rcases d7 with ⟨_, _, z, _⟩ | ⟨_, z⟩ <;> omega
    rw [ez, nI_clamp (by omega)]
    omega
  intro d
  induction d with
  | zero =>
    intro r hr m hm
    have e1 : r = nr := hr
    subst e1
    exact ⟨m, hm, fun post hp => br_t (nI_le (by omega) (by omega)) hp⟩
  | succ d ih =>
    intro r hr m hm
    obtain ⟨o, f, t0, Z, ho, eo, nk3, eln, hZ, hf, ef, _, _⟩ := hQ.2 r (by omega)
    have e : (nI r).toNatClampNeg = r := nI_clamp (by omega)
    have eoc : (nI o).toNatClampNeg = o := nI_clamp (by omega)
    have v32 : vp_in (nI r) 32 := vp_in_nI (by omega) (by omega)
    have v16 : vp_in (xrelocOwner (nI r).toNatClampNeg) 16 := by rw [e, eo]; exact vp_in_nI (by omega) (by omega)
    have n1 : ¬ nI nr ≤ nI r := nI_ge (by omega) (by omega)
    by_cases a : xinLive o = 1
    · obtain ⟨t, ht, et, lt⟩ := hcl r (by omega) (by rw [eo, eoc]; exact a)
      obtain ⟨q, k, hq, es, eq, _, hkn, ei, ey, _, eyl⟩ := hF t ht lt
      obtain ⟨q2, k2, hq2, es2, eq2, _, hkn2, ei2, ey2, _, _⟩ := hF o ho a
      obtain ⟨_, ev, el, hvd, _, _, _⟩ := hk k2 hkn2
      obtain ⟨A, T, Z', Q, _, _, _, eln2, hTZ, ez, d7⟩ := hN.2.2 o ho
      have hZZ : Z' = Z := (nI_eq (by omega) (by omega)).mp (eln2.symm.trans eln)
      have hQZ : Q = Z := by
        rcases d7 with ⟨z, _⟩ | ⟨_, z⟩
        · exact absurd z nk3
        · omega
      have own : (xstmtOwner (xinStmt o).toNatClampNeg).toNatClampNeg = k2 := by rw [es2, nI_clamp (by omega), eq2, nI_clamp (by omega)]
      have g := hG o ho a
      have gl := hLd o ho a nk3
      rw [own] at g gl
      have hb := h128 k2 hkn2 gl
      have esz : (xinSize o).toNatClampNeg = Z := by rw [ez, nI_clamp (by omega), hQZ]
      rw [esz] at g
      have hI := lk_I3_s dj (by omega) hlen ho eo ef (show f + 2 ≤ (xinSize o).toNatClampNeg by rw [esz]; exact hf) (show xinLive o = 1 ∧ ¬ xinKind o = 3 from ⟨a, nk3⟩) hm
      rw [own] at hI
      obtain ⟨m', j1, j2⟩ := ih (r + 1) (by omega) _ hI
      refine ⟨m', j1, fun post hp => br_f n1 ⟨v32, v16, br_t (by rw [e, eo, eoc]; exact a) (lx_wr (yv := yv) (yl := yl) (by omega) h16 eo ho ef et ht (by omega) (by omega) es eq (by rw [ey, ei]) (by rw [ey2, ei2]) (by rw [eyl, ei, lk_asc]) (by omega) (by omega) es2 eq2 ei2 el ev g.1 (by omega) (nm_r (nI_1 r) (j2 post hp)))⟩⟩
    · obtain ⟨m', j1, j2⟩ := ih (r + 1) (by omega) m (lk_I3_n (by omega) ho eo (fun z => a z.1) hm)
      exact ⟨m', j1, fun post hp => br_f n1 ⟨v32, v16, br_f (by rw [e, eo, eoc]; exact a) (nm_r (nI_1 r) (j2 post hp))⟩⟩
theorem lx_rom {ns no ng ni nb nr : Nat} {xphase xopenOut xopenGroup : Int32} {xregionSize xcounter xmemory xstmtOp xstmtA xstmtB xstmtOwner xoutRegion xoutLoaded xoutGroup xoutAlign xoutVma xoutLma xoutDot xgroupStart xgroupEnd xgroupResident xinKind xinId xinAlign xinSize xinFirstByte xinStmt xinLive xinVma xfedBytes xrelocOwner xrelocOffset xrelocType xrelocTarget xrelocAddend : Nat → Int32} {V L D IV : Nat → Nat} {oy yv yl yinBss yinLen : Nat → Int32} (hk : lk_hk no xoutRegion xoutVma xoutLma V L D) (hd : ∀ k, k < no → xoutDot k = nI (D k)) (h128 : ∀ k, k < no → xoutLoaded k = 1 → L k + (D k - V k) ≤ 128) (n32 : ns ≤ 32) (hF : ∀ s, s < ni → xinLive s = 1 → ∃ q k, q < ns ∧ xinStmt s = nI q ∧ xstmtOwner q = nI k ∧ oy q = nI k ∧ k < no ∧ xinVma s = nI (IV s) ∧ yv s = nI (IV s) ∧ IV s < 2 ^ 30 ∧ yl s = nI (IV s) + (xoutLma k - xoutVma k)) (hG : ∀ s, s < ni → xinLive s = 1 → V (xstmtOwner (xinStmt s).toNatClampNeg).toNatClampNeg ≤ IV s ∧ IV s + (xinSize s).toNatClampNeg ≤ D (xstmtOwner (xinStmt s).toNatClampNeg).toNatClampNeg) (hLd : ∀ s, s < ni → xinLive s = 1 → ¬ xinKind s = 3 → xoutLoaded (xstmtOwner (xinStmt s).toNatClampNeg).toNatClampNeg = 1) (hN : lk_N ni nb xinKind xinAlign xinSize xinFirstByte yinBss yinLen) (hQ : lk_Q nr ni xinKind yinLen xrelocOwner xrelocOffset xrelocTarget) (hcl : ∀ r, r < nr → xinLive (xrelocOwner r).toNatClampNeg = 1 → ∃ t, t < ni ∧ xrelocTarget r = nI t ∧ xinLive t = 1) (dj : lk_dj ni (fun s => xinLive s = 1 ∧ ¬ xinKind s = 3) (fun s => L (xstmtOwner (xinStmt s).toNatClampNeg).toNatClampNeg + (IV s - V (xstmtOwner (xinStmt s).toNatClampNeg).toNatClampNeg)) (fun s => (xinSize s).toNatClampNeg)) : ∃ m1 mf : Nat → Int32, lk_I1 xoutLoaded L D V xmemory no m1 ∧ lk_I3 ni (fun s => xinLive s = 1 ∧ ¬ xinKind s = 3) (fun s => L (xstmtOwner (xinStmt s).toNatClampNeg).toNatClampNeg + (IV s - V (xstmtOwner (xinStmt s).toNatClampNeg).toNatClampNeg)) (fun s => (xinSize s).toNatClampNeg) xrelocOwner xrelocOffset (lk_lo ni xrelocOwner xrelocOffset xrelocType xrelocTarget xrelocAddend yv yl) (lk_hi ni xrelocOwner xrelocOffset xrelocType xrelocTarget xrelocAddend yv yl) (fun s p => xfedBytes (xinFirstByte s + nI p).toNatClampNeg) m1 nr mf ∧ ∀ post : SX → Prop, post (xphase, (nI ns), xopenOut, xopenGroup, (nI no), (nI ng), (nI ni), (nI nb), (nI nr), xregionSize, xcounter, mf, xstmtOp, xstmtA, xstmtB, xstmtOwner, xoutRegion, xoutLoaded, xoutGroup, xoutAlign, xoutVma, xoutLma, xoutDot, xgroupStart, xgroupEnd, xgroupResident, xinKind, xinId, xinAlign, xinSize, xinFirstByte, xinStmt, xinLive, xinVma, xfedBytes, xrelocOwner, xrelocOffset, xrelocType, xrelocTarget, xrelocAddend) → wpX_writeRom post (xphase, (nI ns), xopenOut, xopenGroup, (nI no), (nI ng), (nI ni), (nI nb), (nI nr), xregionSize, xcounter, xmemory, xstmtOp, xstmtA, xstmtB, xstmtOwner, xoutRegion, xoutLoaded, xoutGroup, xoutAlign, xoutVma, xoutLma, xoutDot, xgroupStart, xgroupEnd, xgroupResident, xinKind, xinId, xinAlign, xinSize, xinFirstByte, xinStmt, xinLive, xinVma, xfedBytes, xrelocOwner, xrelocOffset, xrelocType, xrelocTarget, xrelocAddend) := by
  obtain ⟨m1, a1, a2⟩ := lx_rom1 (xphase := xphase) (xopenOut := xopenOut) (xopenGroup := xopenGroup) (ns := ns) (ng := ng) (ni := ni) (nb := nb) (nr := nr) (xregionSize := xregionSize) (xcounter := xcounter) (xmemory := xmemory) (xstmtOp := xstmtOp) (xstmtA := xstmtA) (xstmtB := xstmtB) (xstmtOwner := xstmtOwner) (xoutGroup := xoutGroup) (xoutAlign := xoutAlign) (xgroupStart := xgroupStart) (xgroupEnd := xgroupEnd) (xgroupResident := xgroupResident) (xinKind := xinKind) (xinId := xinId) (xinAlign := xinAlign) (xinSize := xinSize) (xinFirstByte := xinFirstByte) (xinStmt := xinStmt) (xinLive := xinLive) (xinVma := xinVma) (xfedBytes := xfedBytes) (xrelocOwner := xrelocOwner) (xrelocOffset := xrelocOffset) (xrelocType := xrelocType) (xrelocTarget := xrelocTarget) (xrelocAddend := xrelocAddend) hk hd h128 n32 no 0 (by omega) xmemory lk_I1_0
  obtain ⟨m2, b1, b2⟩ := lx_rom2 (m1 := m1) (xphase := xphase) (xopenOut := xopenOut) (xopenGroup := xopenGroup) (ng := ng) (nr := nr) (xregionSize := xregionSize) (xcounter := xcounter) (xstmtOp := xstmtOp) (xstmtA := xstmtA) (xstmtB := xstmtB) (xoutGroup := xoutGroup) (xoutAlign := xoutAlign) (xgroupStart := xgroupStart) (xgroupEnd := xgroupEnd) (xgroupResident := xgroupResident) (xinId := xinId) (xfedBytes := xfedBytes) (xrelocOwner := xrelocOwner) (xrelocOffset := xrelocOffset) (xrelocType := xrelocType) (xrelocTarget := xrelocTarget) (xrelocAddend := xrelocAddend) hk hd h128 n32 hF hG hLd hN dj ni 0 (by omega) m1 lk_I2_0
  obtain ⟨mf, c1, c2⟩ := lx_rom3 (m1 := m1) (xphase := xphase) (xopenOut := xopenOut) (xopenGroup := xopenGroup) (ng := ng) (xregionSize := xregionSize) (xcounter := xcounter) (xstmtOp := xstmtOp) (xstmtA := xstmtA) (xstmtB := xstmtB) (xoutGroup := xoutGroup) (xoutAlign := xoutAlign) (xgroupStart := xgroupStart) (xgroupEnd := xgroupEnd) (xgroupResident := xgroupResident) (xinId := xinId) (xfedBytes := xfedBytes) (xrelocType := xrelocType) (xrelocAddend := xrelocAddend) hk hd h128 n32 hF hG hLd hN hQ hcl dj nr 0 (by omega) m2 (lk_I3_0 b1)
  exact ⟨m1, mf, a1, c1, fun post hp => ⟨_, a2 post ⟨_, b2 post ⟨_, c2 post hp⟩⟩⟩⟩
end
end
section

section
/-! AF: Y's image and ROM -/
theorem ly_rv {post : Int32 → Prop} {R0 R1 ns no ng ni nb nr : Nat} {yphase yopenOut yinGroup ycur yfinalC0 yfinalC1 : Int32} {ystOp ystA ystB ystOut youtReg youtLoaded youtGroup youtVma youtLma youtSize youtAlign youtRes ygStart ygEnd yinKind yinId yinAlign yinBss yinStart yinLen yinStmt yinLive yinVma yinLma ybytes yrSec yrOff yrType yrTgt yrAdd yrom yram : Nat → Int32} {r : Nat} (hr : r < nr) (hq : lk_hq ni nr yrSec yrTgt) (h : post (lk_rv ni yrSec yrOff yrType yrTgt yrAdd yinVma yinLma r)) : wpY_relocValue post ((nI R0), (nI R1), yphase, (nI ns), (nI no), (nI ng), (nI ni), (nI nb), (nI nr), yopenOut, yinGroup, ycur, yfinalC0, yfinalC1, ystOp, ystA, ystB, ystOut, youtReg, youtLoaded, youtGroup, youtVma, youtLma, youtSize, youtAlign, youtRes, ygStart, ygEnd, yinKind, yinId, yinAlign, yinBss, yinStart, yinLen, yinStmt, yinLive, yinVma, yinLma, ybytes, yrSec, yrOff, yrType, yrTgt, yrAdd, yrom, yram) (nI r) := by
  obtain ⟨h16, h32, h3⟩ := hq
  obtain ⟨o, t, ho, eo, ht, et⟩ := h3 r hr
  have e : (nI r).toNatClampNeg = r := nI_clamp (by omega)
  have ec : (nI t).toNatClampNeg = t := nI_clamp (by omega)
  have eoc : (nI o).toNatClampNeg = o := nI_clamp (by omega)
  have v32 : vp_in (nI r) 32 := vp_in_nI (by omega) (by omega)
  unfold lk_rv at h
  rw [et] at h
  refine ⟨v32, nm_r (e' := nI t) (by rw [e, et]) ⟨v32, nm_r (e' := nI o) (by rw [e, eo]) (br_f (nI_pos (by omega)) ?_)⟩⟩
  by_cases c : t < ni
  · have v16 : vp_in (nI t) 16 := vp_in_nI (by omega) (by omega)
    rw [if_neg (nI_ge c (by omega)), ec] at h
    refine br_t (nI_lt c (by omega)) ⟨v32, ?_⟩
    by_cases a : yrType r = 1
    · rw [if_pos a] at h
      refine br_t (by rw [e]; exact a) ⟨v16, v32, ?_⟩
      rw [ec, e]
      exact h
    · rw [if_neg a] at h
      refine br_f (by rw [e]; exact a) ⟨v32, ?_⟩
      by_cases b : yrType r = 2
      · rw [if_pos b] at h
        refine br_t (by rw [e]; exact b) ⟨v16, v32, ?_⟩
        rw [ec, e]
        exact h
      · rw [if_neg b, eo] at h
        refine br_f (by rw [e]; exact b) ⟨v16, v32, vp_in_nI (by omega) (by omega), v32, ?_⟩
        rw [ec, e]
        exact h
  · rw [if_pos (nI_le (by omega) (by omega))] at h
    exact br_f (nI_nlt (by omega) (by omega)) h
theorem ly_rb {post : Int32 → Prop} {R0 R1 ns no ng ni nb nr : Nat} {yphase yopenOut yinGroup ycur yfinalC0 yfinalC1 : Int32} {ystOp ystA ystB ystOut youtReg youtLoaded youtGroup youtVma youtLma youtSize youtAlign youtRes ygStart ygEnd yinKind yinId yinAlign yinBss yinStart yinLen yinStmt yinLive yinVma yinLma ybytes yrSec yrOff yrType yrTgt yrAdd yrom yram : Nat → Int32} {s p T : Nat} (hs : s < 16) (hq : lk_hq ni nr yrSec yrTgt) (eT : yinStart s = nI T) (hT : T + p < 256) (h : post (lk_by ni nr yinStart ybytes yrSec yrOff yrType yrTgt yrAdd yinVma yinLma s p)) : wpY_relocByte post ((nI R0), (nI R1), yphase, (nI ns), (nI no), (nI ng), (nI ni), (nI nb), (nI nr), yopenOut, yinGroup, ycur, yfinalC0, yfinalC1, ystOp, ystA, ystB, ystOut, youtReg, youtLoaded, youtGroup, youtVma, youtLma, youtSize, youtAlign, youtRes, ygStart, ygEnd, yinKind, yinId, yinAlign, yinBss, yinStart, yinLen, yinStmt, yinLive, yinVma, yinLma, ybytes, yrSec, yrOff, yrType, yrTgt, yrAdd, yrom, yram) (nI s) (nI p) := by
  have h32 := hq.2.1
  have e : (nI s).toNatClampNeg = s := nI_clamp (by omega)
  have v16 : vp_in (nI s) 16 := vp_in_nI hs (by omega)
  unfold lk_by at h
  rw [eT, nI_add] at h
  have H : ∀ d r, r + d = nr → wY_relocByte_35 post (nI s) (nI p) (nI R0) (nI R1) yphase (nI ns) (nI no) (nI ng) (nI ni) (nI nb) (nI nr) yopenOut yinGroup ycur yfinalC0 yfinalC1 ystOp ystA ystB ystOut youtReg youtLoaded youtGroup youtVma youtLma youtSize youtAlign youtRes ygStart ygEnd yinKind yinId yinAlign yinBss yinStart yinLen yinStmt yinLive yinVma yinLma ybytes yrSec yrOff yrType yrTgt yrAdd yrom yram (d + 1) (lk_rb yrSec yrOff (lk_lo ni yrSec yrOff yrType yrTgt yrAdd yinVma yinLma) (lk_hi ni yrSec yrOff yrType yrTgt yrAdd yinVma yinLma) s p (ybytes (nI (T + p)).toNatClampNeg) r) (nI r) := by
    intro d
    induction d with
    | zero =>
      intro r hr
      have e1 : r = nr := hr
      subst e1
      exact br_t (nI_le (by omega) (by omega)) h
    | succ d ih =>
      intro r hr
      have er : (nI r).toNatClampNeg = r := nI_clamp (by omega)
      have v32 : vp_in (nI r) 32 := vp_in_nI (by omega) (by omega)
      have hi := ih (r + 1) (by omega)
      rw [lk_rb_s] at hi
      refine br_f (nI_ge (by omega) (by omega)) (br_f (nI_ge (b := 32) (by omega) (by omega)) ⟨v32, ?_⟩)
      by_cases a : yrSec r = nI s
      · refine br_t (by rw [er]; exact a) ⟨v32, ?_⟩
        by_cases b : yrOff r = nI p
        · rw [if_pos ⟨a, Or.inl b⟩, if_pos b] at hi
          refine br_t (by rw [er]; exact b) (ly_rv (by omega) hq ⟨v32, br_t (by rw [er]; exact b) (nm_e (nm_r (nI_1 r) hi))⟩)
        · refine br_f (by rw [er]; exact b) ⟨v32, ?_⟩
          by_cases c : yrOff r + 1 = nI p
          · rw [if_pos ⟨a, Or.inr c⟩, if_neg b] at hi
            refine br_t (by rw [er]; exact c) (ly_rv (by omega) hq ⟨v32, br_f (by rw [er]; exact b) (nm_e (nm_r (nI_1 r) hi))⟩)
          · rw [if_neg (fun z => z.2.elim b c)] at hi
            exact br_f (by rw [er]; exact c) (nm_r (nI_1 r) hi)
      · rw [if_neg (fun z => a z.1)] at hi
        exact br_f (by rw [er]; exact a) (nm_r (nI_1 r) hi)
  exact ⟨v16, nm_r (e' := nI (T + p)) (by rw [e, eT, nI_add]) (br_f (nI_pos (by omega)) (br_f (nI_ge (b := 256) (by omega) (by omega)) ⟨vp_in_nI (by omega) (by omega), nm_e ⟨_, H nr 0 (by omega)⟩⟩))⟩
theorem ly_ib {post : Int32 → Prop} {R0 R1 ns no ng ni nb nr : Nat} {yphase yopenOut yinGroup ycur yfinalC0 yfinalC1 : Int32} {ystOp ystA ystB ystOut youtReg youtLoaded youtGroup youtVma youtLma youtSize youtAlign youtRes ygStart ygEnd yinKind yinId yinAlign yinBss yinStart yinLen yinStmt yinLive yinVma yinLma ybytes yrSec yrOff yrType yrTgt yrAdd yrom yram : Nat → Int32} {IV : Nat → Nat} {k X : Nat} {z : Int32} (hq : lk_hq ni nr yrSec yrTgt) (hv : ∀ s, s < ni → yinLive s = 1 → ∃ q, q < 32 ∧ yinStmt s = nI q ∧ yinVma s = nI (IV s) ∧ IV s < 2 ^ 30) (hb : ∀ s, s < ni → ∃ T Z, yinStart s = nI T ∧ yinLen s = nI Z ∧ T + Z ≤ 256) (hk : k < 8) (hX : X < 2 ^ 30) (hz : youtVma k + z = nI X) (h : post (lk_ib ni nr ystOut yinKind yinStmt yinLive yinLen yinStart ybytes yrSec yrOff yrType yrTgt yrAdd yinVma yinLma (nI k) (nI X))) : wpY_imageByte post ((nI R0), (nI R1), yphase, (nI ns), (nI no), (nI ng), (nI ni), (nI nb), (nI nr), yopenOut, yinGroup, ycur, yfinalC0, yfinalC1, ystOp, ystA, ystB, ystOut, youtReg, youtLoaded, youtGroup, youtVma, youtLma, youtSize, youtAlign, youtRes, ygStart, ygEnd, yinKind, yinId, yinAlign, yinBss, yinStart, yinLen, yinStmt, yinLive, yinVma, yinLma, ybytes, yrSec, yrOff, yrType, yrTgt, yrAdd, yrom, yram) (nI k) z := by
  have h16 := hq.1
  have e : (nI k).toNatClampNeg = k := nI_clamp (by omega)
  have v8 : vp_in (nI k) 8 := vp_in_nI hk (by omega)
  unfold lk_ib at h
  have H : ∀ d s, s + d = ni → post (lk_fv (lk_ip ystOut yinKind yinStmt yinLive yinVma yinLen (nI k) (nI X)) (fun s => lk_by ni nr yinStart ybytes yrSec yrOff yrType yrTgt yrAdd yinVma yinLma s (nI X - yinVma s).toNatClampNeg) d s) → wY_imageByte_12 post (nI k) (nI X) (nI R0) (nI R1) yphase (nI ns) (nI no) (nI ng) (nI ni) (nI nb) (nI nr) yopenOut yinGroup ycur yfinalC0 yfinalC1 ystOp ystA ystB ystOut youtReg youtLoaded youtGroup youtVma youtLma youtSize youtAlign youtRes ygStart ygEnd yinKind yinId yinAlign yinBss yinStart yinLen yinStmt yinLive yinVma yinLma ybytes yrSec yrOff yrType yrTgt yrAdd yrom yram (d + 1) (nI s) := by
    intro d
    induction d with
    | zero => intro s hs h; exact br_t (nI_le (by omega) (by omega)) h
    | succ d ih =>
      intro s hs h
      have es : (nI s).toNatClampNeg = s := nI_clamp (by omega)
      have v16 : vp_in (nI s) 16 := vp_in_nI (by omega) (by omega)
      have hn : ¬ lk_ip ystOut yinKind yinStmt yinLive yinVma yinLen (nI k) (nI X) s = true → wY_imageByte_12 post (nI k) (nI X) (nI R0) (nI R1) yphase (nI ns) (nI no) (nI ng) (nI ni) (nI nb) (nI nr) yopenOut yinGroup ycur yfinalC0 yfinalC1 ystOp ystA ystB ystOut youtReg youtLoaded youtGroup youtVma youtLma youtSize youtAlign youtRes ygStart ygEnd yinKind yinId yinAlign yinBss yinStart yinLen yinStmt yinLive yinVma yinLma ybytes yrSec yrOff yrType yrTgt yrAdd yrom yram (d + 1) (nI (s + 1)) := by
        intro y
        rw [lk_fv_f y] at h
        exact ih (s + 1) (by omega) h
      refine br_f (nI_ge (by omega) (by omega)) (br_f (nI_ge (b := 16) (by omega) (by omega)) ⟨v16, ?_⟩)
      by_cases a : yinLive s = 1
      · refine br_t (by rw [es]; exact a) ⟨v16, ?_⟩
        by_cases b : yinKind s = 3
        · exact br_t (by rw [es]; exact b) (nm_r (nI_1 s) (hn (fun y => (of_decide_eq_true y).2.1 b)))
        · obtain ⟨q, hq32, eq, ev, hIV⟩ := hv s (by omega) a
          obtain ⟨T, Z, eT, eZ, hTZ⟩ := hb s (by omega)
          have vq : vp_in (yinStmt (nI s).toNatClampNeg) 32 := by rw [es, eq]; exact vp_in_nI hq32 (by omega)
          refine br_f (by rw [es]; exact b) ⟨v16, br_f (by rw [es, eq]; exact nI_pos (by omega)) ⟨v16, vq, ?_⟩⟩
          by_cases c : ystOut (yinStmt s).toNatClampNeg = nI k
          · refine br_t (by rw [es]; exact c) ⟨v16, ?_⟩
            by_cases f : IV s ≤ X
            · refine br_f (by rw [es, ev]; exact nI_nlt f (by omega)) ⟨v16, v16, ?_⟩
              by_cases g : X < IV s + Z
              · have hip : lk_ip ystOut yinKind yinStmt yinLive yinVma yinLen (nI k) (nI X) s = true := decide_eq_true ⟨a, b, by rw [eq]; exact nI_pos' (by omega), c, by rw [ev]; exact nI_le f (by omega), by rw [ev, eZ, nI_add]; exact nI_lt g (by omega)⟩
                have ex : nI X - yinVma s = nI (X - IV s) := by rw [ev, pk_sub f]
                rw [lk_fv_t hip] at h
                rw [ex, nI_clamp (by omega)] at h
                refine br_f (by rw [es, ev, eZ, nI_add]; exact nI_ge g (by omega)) ⟨v16, ?_⟩
                rw [es, ex]
                exact ly_rb (by omega) hq eT (by omega) h
              · refine br_t (by rw [es, ev, eZ, nI_add]; exact nI_le (by omega) (by omega)) (nm_r (nI_1 s) (hn (fun y => ?_)))
                have y6 := (of_decide_eq_true y).2.2.2.2.2
                rw [ev, eZ, nI_add, nI_ltI (by omega) (by omega)] at y6
                exact g y6
            · refine br_t (by rw [es, ev]; exact nI_lt (by omega) (by omega)) (nm_r (nI_1 s) (hn (fun y => ?_)))
              have y5 := (of_decide_eq_true y).2.2.2.2.1
              rw [ev, nI_leI (by omega) (by omega)] at y5
              exact f y5
          · exact br_f (by rw [es]; exact c) (nm_r (nI_1 s) (hn (fun y => c (of_decide_eq_true y).2.2.2.1)))
      · exact br_f (by rw [es]; exact a) (nm_r (nI_1 s) (hn (fun y => a (of_decide_eq_true y).1)))
  exact ⟨v8, nm_r (e' := nI X) (by rw [e, hz]) ⟨_, H ni 0 (by omega) h⟩⟩
theorem ly_407 {post : Int32 → SY → Prop} {J : Int32 → (Nat → Int32) → (Nat → Int32) → (Nat → Int32) → (Nat → Int32) → (Nat → Int32) → (Nat → Int32) → (Nat → Int32) → (Nat → Int32) → (Nat → Int32) → (Nat → Int32) → (Nat → Int32) → (Nat → Int32) → (Nat → Int32) → (Nat → Int32) → (Nat → Int32) → (Nat → Int32) → (Nat → Int32) → (Nat → Int32) → (Nat → Int32) → (Nat → Int32) → (Nat → Int32) → (Nat → Int32) → (Nat → Int32) → (Nat → Int32) → (Nat → Int32) → (Nat → Int32) → (Nat → Int32) → (Nat → Int32) → (Nat → Int32) → (Nat → Int32) → (Nat → Int32) → (Nat → Int32) → Prop} {R0 R1 ns no ng ni nb nr : Nat} {yphase yopenOut yinGroup ycur yfinalC0 yfinalC1 : Int32} {ystOp ystA ystB ystOut youtReg youtLoaded youtGroup youtVma youtLma youtSize youtAlign youtRes ygStart ygEnd yinKind yinId yinAlign yinBss yinStart yinLen yinStmt yinLive yinVma yinLma ybytes yrSec yrOff yrType yrTgt yrAdd yrom yram : Nat → Int32} {IV : Nat → Nat} {k v l S : Nat} (hq : lk_hq ni nr yrSec yrTgt) (hv : ∀ s, s < ni → yinLive s = 1 → ∃ q, q < 32 ∧ yinStmt s = nI q ∧ yinVma s = nI (IV s) ∧ IV s < 2 ^ 30) (hb : ∀ s, s < ni → ∃ T Z, yinStart s = nI T ∧ yinLen s = nI Z ∧ T + Z ≤ 256) (hk : k < 8) (ev : youtVma k = nI v) (el : youtLma k = nI l) (eS : youtSize k = nI S) (hl : l + S ≤ R0) (hR : R0 ≤ 128) (hvS : v + S < 2 ^ 30) (h : J (nI (k + 1)) ystOp ystA ystB ystOut youtReg youtLoaded youtGroup youtVma youtLma youtSize youtAlign youtRes ygStart ygEnd yinKind yinId yinAlign yinBss yinStart yinLen yinStmt yinLive yinVma yinLma ybytes yrSec yrOff yrType yrTgt yrAdd (lk_wr yrom l (l + S) (fun j => lk_ib ni nr ystOut yinKind yinStmt yinLive yinLen yinStart ybytes yrSec yrOff yrType yrTgt yrAdd yinVma yinLma (nI k) (nI (v + (j - l))))) yram) : ∃ n, wY_link_407 post J (nI k) (nI R0) (nI R1) yphase (nI ns) (nI no) (nI ng) (nI ni) (nI nb) (nI nr) yopenOut yinGroup ycur yfinalC0 yfinalC1 n 0 ystOp ystA ystB ystOut youtReg youtLoaded youtGroup youtVma youtLma youtSize youtAlign youtRes ygStart ygEnd yinKind yinId yinAlign yinBss yinStart yinLen yinStmt yinLive yinVma yinLma ybytes yrSec yrOff yrType yrTgt yrAdd yrom yram := by
  have e : (nI k).toNatClampNeg = k := nI_clamp (by omega)
  have v8 : vp_in (nI k) 8 := vp_in_nI hk (by omega)
  have H : ∀ d i, i + d = S → wY_link_407 post J (nI k) (nI R0) (nI R1) yphase (nI ns) (nI no) (nI ng) (nI ni) (nI nb) (nI nr) yopenOut yinGroup ycur yfinalC0 yfinalC1 (d + 1) (nI i) ystOp ystA ystB ystOut youtReg youtLoaded youtGroup youtVma youtLma youtSize youtAlign youtRes ygStart ygEnd yinKind yinId yinAlign yinBss yinStart yinLen yinStmt yinLive yinVma yinLma ybytes yrSec yrOff yrType yrTgt yrAdd (lk_wr yrom l (l + i) (fun j => lk_ib ni nr ystOut yinKind yinStmt yinLive yinLen yinStart ybytes yrSec yrOff yrType yrTgt yrAdd yinVma yinLma (nI k) (nI (v + (j - l))))) yram := by
    intro d
    induction d with
    | zero =>
      intro i hi
      have e1 : i = S := hi
      subst e1
      exact ⟨v8, br_t (by rw [e, eS]; exact nI_le (by omega) (by omega)) (nm_r (nI_1 k) h)⟩
    | succ d ih =>
      intro i hi
      refine ⟨v8, br_f (by rw [e, eS]; exact nI_ge (by omega) (by omega)) (br_f (nI_ge (b := 1100) (by omega) (by omega)) ⟨v8, nm_r (e' := nI (l + i)) (by rw [e, el, nI_add, Int32.sub_zero]) (br_f (nI_pos (by omega)) (br_f (nI_ge (by omega) (by omega)) (ly_ib hq hv hb hk (X := v + i) (by omega) (by rw [ev, nI_add]) ⟨vp_in_nI (by omega) (by omega), nm_r ?_ (nm_r (nI_1 i) (ih (i + 1) (by omega)))⟩)))⟩)⟩
      rw [nI_clamp (by omega)]
      refine lk_wr_s (by omega) ?_
      rw [Nat.add_sub_cancel_left]
  have H2 := H S 0 (by omega)
  rw [lk_wr_e (show l + 0 ≤ l from Nat.le_refl l)] at H2
  exact ⟨_, H2⟩
theorem ly_378 {R0 R1 ns no ng ni nb nr : Nat} {yphase yopenOut yinGroup ycur yfinalC0 yfinalC1 : Int32} {ystOp ystA ystB ystOut youtReg youtLoaded youtGroup youtVma youtLma youtSize youtAlign youtRes ygStart ygEnd yinKind yinId yinAlign yinBss yinStart yinLen yinStmt yinLive yinVma yinLma ybytes yrSec yrOff yrType yrTgt yrAdd yram : Nat → Int32} {V L D IV : Nat → Nat} {mf : Nat → Int32} (hq : lk_hq ni nr yrSec yrTgt) (hv : ∀ s, s < ni → yinLive s = 1 → ∃ q, q < 32 ∧ yinStmt s = nI q ∧ yinVma s = nI (IV s) ∧ IV s < 2 ^ 30) (hb : ∀ s, s < ni → ∃ T Z, yinStart s = nI T ∧ yinLen s = nI Z ∧ T + Z ≤ 256) (hk : lk_hk no youtReg youtVma youtLma V L D) (hs : ∀ k, k < no → youtSize k = nI (D k - V k)) (hR : R0 ≤ 128) (hl : ∀ k, k < no → youtLoaded k = 1 → L k + (D k - V k) ≤ R0) (hm : ∀ k, k < no → youtLoaded k = 1 → ∀ o, o < D k - V k → lk_ib ni nr ystOut yinKind yinStmt yinLive yinLen yinStart ybytes yrSec yrOff yrType yrTgt yrAdd yinVma yinLma (nI k) (nI (V k + o)) = mf (L k + o)) : ∀ d k, k + d = no → ∀ rom : Nat → Int32, lk_J youtLoaded L D V mf k rom → ∃ rom' : Nat → Int32, lk_J youtLoaded L D V mf no rom' ∧ ∀ post : Int32 → SY → Prop, post 0 ((nI R0), (nI R1), yphase, (nI ns), (nI no), (nI ng), (nI ni), (nI nb), (nI nr), yopenOut, yinGroup, ycur, yfinalC0, yfinalC1, ystOp, ystA, ystB, ystOut, youtReg, youtLoaded, youtGroup, youtVma, youtLma, youtSize, youtAlign, youtRes, ygStart, ygEnd, yinKind, yinId, yinAlign, yinBss, yinStart, yinLen, yinStmt, yinLive, yinVma, yinLma, ybytes, yrSec, yrOff, yrType, yrTgt, yrAdd, rom', yram) → wY_link_378 post (nI R0) (nI R1) yphase (nI ns) (nI no) (nI ng) (nI ni) (nI nb) (nI nr) yopenOut yinGroup ycur yfinalC0 yfinalC1 (d + 1) (nI k) ystOp ystA ystB ystOut youtReg youtLoaded youtGroup youtVma youtLma youtSize youtAlign youtRes ygStart ygEnd yinKind yinId yinAlign yinBss yinStart yinLen yinStmt yinLive yinVma yinLma ybytes yrSec yrOff yrType yrTgt yrAdd rom yram := by
  obtain ⟨h8, hk⟩ := hk
  intro d
  induction d with
  | zero =>
    intro k hkd rom hJ
    have e1 : k = no := hkd
    subst e1
    exact ⟨rom, hJ, fun post hp => br_t (nI_le (by omega) (by omega)) hp⟩
  | succ d ih =>
    intro k hkd rom hJ
    obtain ⟨_, ev, el, hvd, hD, _, _⟩ := hk k (by omega)
    have eS := hs k (by omega)
    have e : (nI k).toNatClampNeg = k := nI_clamp (by omega)
    have v8 : vp_in (nI k) 8 := vp_in_nI (by omega) (by omega)
    have n1 : ¬ nI no ≤ nI k := nI_ge (by omega) (by omega)
    have n2 : ¬ (8 : Int32) ≤ nI k := nI_ge (b := 8) (by omega) (by omega)
    by_cases a : youtLoaded k = 1
    · obtain ⟨rom', j1, j2⟩ := ih (k + 1) (by omega) _ (lk_J_s (F := fun j => lk_ib ni nr ystOut yinKind yinStmt yinLive yinLen yinStart ybytes yrSec yrOff yrType yrTgt yrAdd yinVma yinLma (nI k) (nI (V k + (j - L k)))) hJ a (fun o ho => by
        rw [Nat.add_sub_cancel_left]
        exact hm k (by omega) a o ho))
      exact ⟨rom', j1, fun post hp => br_f n1 (br_f n2 ⟨v8, br_t (by rw [e]; exact a) (ly_407 hq hv hb (by omega) ev el eS (hl k (by omega) a) hR (by omega) (j2 post hp))⟩)⟩
    · obtain ⟨rom', j1, j2⟩ := ih (k + 1) (by omega) rom (lk_J_n hJ a)
      exact ⟨rom', j1, fun post hp => br_f n1 (br_f n2 ⟨v8, br_f (by rw [e]; exact a) (nm_r (nI_1 k) (j2 post hp))⟩)⟩
theorem ly_rom {R0 R1 ns no ng ni nb nr : Nat} {yphase yopenOut yinGroup ycur yfinalC0 yfinalC1 : Int32} {ystOp ystA ystB ystOut youtReg youtLoaded youtGroup youtVma youtLma youtSize youtAlign youtRes ygStart ygEnd yinKind yinId yinAlign yinBss yinStart yinLen yinStmt yinLive yinVma yinLma ybytes yrSec yrOff yrType yrTgt yrAdd yrom yram : Nat → Int32} {V L D IV : Nat → Nat} {mf : Nat → Int32} (hq : lk_hq ni nr yrSec yrTgt) (hv : ∀ s, s < ni → yinLive s = 1 → ∃ q, q < 32 ∧ yinStmt s = nI q ∧ yinVma s = nI (IV s) ∧ IV s < 2 ^ 30) (hb : ∀ s, s < ni → ∃ T Z, yinStart s = nI T ∧ yinLen s = nI Z ∧ T + Z ≤ 256) (hk : lk_hk no youtReg youtVma youtLma V L D) (hs : ∀ k, k < no → youtSize k = nI (D k - V k)) (hR : R0 ≤ 128) (hl : ∀ k, k < no → youtLoaded k = 1 → L k + (D k - V k) ≤ R0) (hm : ∀ k, k < no → youtLoaded k = 1 → ∀ o, o < D k - V k → lk_ib ni nr ystOut yinKind yinStmt yinLive yinLen yinStart ybytes yrSec yrOff yrType yrTgt yrAdd yinVma yinLma (nI k) (nI (V k + o)) = mf (L k + o)) : ∃ rom' : Nat → Int32, lk_J youtLoaded L D V mf no rom' ∧ ∀ post : Int32 → SY → Prop, post 0 ((nI R0), (nI R1), yphase, (nI ns), (nI no), (nI ng), (nI ni), (nI nb), (nI nr), yopenOut, yinGroup, ycur, yfinalC0, yfinalC1, ystOp, ystA, ystB, ystOut, youtReg, youtLoaded, youtGroup, youtVma, youtLma, youtSize, youtAlign, youtRes, ygStart, ygEnd, yinKind, yinId, yinAlign, yinBss, yinStart, yinLen, yinStmt, yinLive, yinVma, yinLma, ybytes, yrSec, yrOff, yrType, yrTgt, yrAdd, rom', yram) → ∃ n, wY_link_354 post (nI R0) (nI R1) yphase (nI ns) (nI no) (nI ng) (nI ni) (nI nb) (nI nr) yopenOut yinGroup ycur yfinalC0 yfinalC1 n 0 ystOp ystA ystB ystOut youtReg youtLoaded youtGroup youtVma youtLma youtSize youtAlign youtRes ygStart ygEnd yinKind yinId yinAlign yinBss yinStart yinLen yinStmt yinLive yinVma yinLma ybytes yrSec yrOff yrType yrTgt yrAdd yrom yram := by
  obtain ⟨rom', j1, j2⟩ := ly_378 (yphase := yphase) (yopenOut := yopenOut) (yinGroup := yinGroup) (ycur := ycur) (yfinalC0 := yfinalC0) (yfinalC1 := yfinalC1) (R1 := R1) (ns := ns) (ng := ng) (nb := nb) (ystOp := ystOp) (ystA := ystA) (ystB := ystB) (youtGroup := youtGroup) (youtAlign := youtAlign) (youtRes := youtRes) (ygStart := ygStart) (ygEnd := ygEnd) (yinId := yinId) (yinAlign := yinAlign) (yinBss := yinBss) (yram := yram) hq hv hb hk hs hR hl hm no 0 (by omega) (lk_wr yrom 0 128 (fun _ => 255)) (lk_J_0 (fun j hj => lk_wr_t (Nat.zero_le j) hj))
  refine ⟨rom', j1, fun post hp => ?_⟩
  have H : ∀ d x, x + d = 128 → wY_link_354 post (nI R0) (nI R1) yphase (nI ns) (nI no) (nI ng) (nI ni) (nI nb) (nI nr) yopenOut yinGroup ycur yfinalC0 yfinalC1 (d + 1) (nI x) ystOp ystA ystB ystOut youtReg youtLoaded youtGroup youtVma youtLma youtSize youtAlign youtRes ygStart ygEnd yinKind yinId yinAlign yinBss yinStart yinLen yinStmt yinLive yinVma yinLma ybytes yrSec yrOff yrType yrTgt yrAdd (lk_wr yrom 0 x (fun _ => 255)) yram := by
    intro d
    induction d with
    | zero =>
      intro x hx
      have e1 : x = 128 := hx
      subst e1
      exact br_t (nI_le (a := 128) (b := 128) (by omega) (by omega)) ⟨_, j2 post hp⟩
    | succ d ih =>
      intro x hx
      exact br_f (nI_ge (b := 128) (by omega) (by omega)) ⟨vp_in_nI (by omega) (by omega), nm_r (by rw [nI_clamp (by omega)]; exact lk_wr_s (Nat.zero_le x) rfl) (nm_r (nI_1 x) (ih (x + 1) (by omega)))⟩
  have H2 := H 128 0 rfl
  rw [lk_wr_0] at H2
  exact ⟨_, H2⟩
end
end
section

section
/-! AG: link: what goes before it is joined -/
theorem lx_as2 {post : SX → Prop} {ns no ng ni nb nr : Nat} {xphase xopenOut xopenGroup : Int32} {xregionSize xcounter xmemory xstmtOp xstmtA xstmtB xstmtOwner xoutRegion xoutLoaded xoutGroup xoutAlign xoutVma xoutLma xoutDot xgroupStart xgroupEnd xgroupResident xinKind xinId xinAlign xinSize xinFirstByte xinStmt xinLive xinVma xfedBytes xrelocOwner xrelocOffset xrelocType xrelocTarget xrelocAddend : Nat → Int32} {st : Nat → Int32} (hi : ni ≤ 16) (hn : ns ≤ 32) (e : st = lk_as xinStmt ni (lk_fm xstmtOp xstmtA xstmtB xinKind xinId ns)) (h : post (xphase, (nI ns), xopenOut, xopenGroup, (nI no), (nI ng), (nI ni), (nI nb), (nI nr), xregionSize, xcounter, xmemory, xstmtOp, xstmtA, xstmtB, xstmtOwner, xoutRegion, xoutLoaded, xoutGroup, xoutAlign, xoutVma, xoutLma, xoutDot, xgroupStart, xgroupEnd, xgroupResident, xinKind, xinId, xinAlign, xinSize, xinFirstByte, st, xinLive, xinVma, xfedBytes, xrelocOwner, xrelocOffset, xrelocType, xrelocTarget, xrelocAddend)) : wpX_assignSections post (xphase, (nI ns), xopenOut, xopenGroup, (nI no), (nI ng), (nI ni), (nI nb), (nI nr), xregionSize, xcounter, xmemory, xstmtOp, xstmtA, xstmtB, xstmtOwner, xoutRegion, xoutLoaded, xoutGroup, xoutAlign, xoutVma, xoutLma, xoutDot, xgroupStart, xgroupEnd, xgroupResident, xinKind, xinId, xinAlign, xinSize, xinFirstByte, xinStmt, xinLive, xinVma, xfedBytes, xrelocOwner, xrelocOffset, xrelocType, xrelocTarget, xrelocAddend) := by
  subst e
  exact lx_as hi hn h
theorem lx_live2 {post : SX → Prop} {ns no ng ni nb nr : Nat} {xphase xopenOut xopenGroup : Int32} {xregionSize xcounter xmemory xstmtOp xstmtA xstmtB xstmtOwner xoutRegion xoutLoaded xoutGroup xoutAlign xoutVma xoutLma xoutDot xgroupStart xgroupEnd xgroupResident xinKind xinId xinAlign xinSize xinFirstByte xinStmt xinLive xinVma xfedBytes xrelocOwner xrelocOffset xrelocType xrelocTarget xrelocAddend : Nat → Int32} {gc : Int32} {lv : Nat → Int32} (hq : lk_hq ni nr xrelocOwner xrelocTarget) (ht : lk_ht ni xinStmt) (e : lv = lk_lv xstmtOp xinStmt xrelocOwner xrelocTarget gc ni nr xinLive) (h : post (xphase, (nI ns), xopenOut, xopenGroup, (nI no), (nI ng), (nI ni), (nI nb), (nI nr), xregionSize, xcounter, xmemory, xstmtOp, xstmtA, xstmtB, xstmtOwner, xoutRegion, xoutLoaded, xoutGroup, xoutAlign, xoutVma, xoutLma, xoutDot, xgroupStart, xgroupEnd, xgroupResident, xinKind, xinId, xinAlign, xinSize, xinFirstByte, xinStmt, lv, xinVma, xfedBytes, xrelocOwner, xrelocOffset, xrelocType, xrelocTarget, xrelocAddend)) : wpX_markLive post (xphase, (nI ns), xopenOut, xopenGroup, (nI no), (nI ng), (nI ni), (nI nb), (nI nr), xregionSize, xcounter, xmemory, xstmtOp, xstmtA, xstmtB, xstmtOwner, xoutRegion, xoutLoaded, xoutGroup, xoutAlign, xoutVma, xoutLma, xoutDot, xgroupStart, xgroupEnd, xgroupResident, xinKind, xinId, xinAlign, xinSize, xinFirstByte, xinStmt, xinLive, xinVma, xfedBytes, xrelocOwner, xrelocOffset, xrelocType, xrelocTarget, xrelocAddend) gc := by
  subst e
  exact lx_live hq ht h
theorem ly_as2 {post : SY → Prop} {R0 R1 ns no ng ni nb nr : Nat} {yphase yopenOut yinGroup ycur yfinalC0 yfinalC1 : Int32} {ystOp ystA ystB ystOut youtReg youtLoaded youtGroup youtVma youtLma youtSize youtAlign youtRes ygStart ygEnd yinKind yinId yinAlign yinBss yinStart yinLen yinStmt yinLive yinVma yinLma ybytes yrSec yrOff yrType yrTgt yrAdd yrom yram : Nat → Int32} {gc : Int32} {st lv yv yl : Nat → Int32} (h16 : ni ≤ 16) (hn : ns ≤ 32) (e1 : st = lk_as yinStmt ni (lk_fm ystOp ystA ystB yinKind yinId ns)) (e2 : lv = lk_as yinLive ni (lk_l0 ystOp (lk_fm ystOp ystA ystB yinKind yinId ns) gc)) (e3 : yv = lk_as yinVma ni (fun _ => -1)) (e4 : yl = lk_as yinLma ni (fun _ => -1)) (h : post ((nI R0), (nI R1), yphase, (nI ns), (nI no), (nI ng), (nI ni), (nI nb), (nI nr), yopenOut, yinGroup, ycur, yfinalC0, yfinalC1, ystOp, ystA, ystB, ystOut, youtReg, youtLoaded, youtGroup, youtVma, youtLma, youtSize, youtAlign, youtRes, ygStart, ygEnd, yinKind, yinId, yinAlign, yinBss, yinStart, yinLen, st, lv, yv, yl, ybytes, yrSec, yrOff, yrType, yrTgt, yrAdd, yrom, yram)) : wpY_assign post ((nI R0), (nI R1), yphase, (nI ns), (nI no), (nI ng), (nI ni), (nI nb), (nI nr), yopenOut, yinGroup, ycur, yfinalC0, yfinalC1, ystOp, ystA, ystB, ystOut, youtReg, youtLoaded, youtGroup, youtVma, youtLma, youtSize, youtAlign, youtRes, ygStart, ygEnd, yinKind, yinId, yinAlign, yinBss, yinStart, yinLen, yinStmt, yinLive, yinVma, yinLma, ybytes, yrSec, yrOff, yrType, yrTgt, yrAdd, yrom, yram) gc := by
  subst e1
  subst e2
  subst e3
  subst e4
  exact ly_as h16 hn h
theorem ly_close2 {post : SY → Prop} {R0 R1 ns no ng ni nb nr : Nat} {yphase yopenOut yinGroup ycur yfinalC0 yfinalC1 : Int32} {ystOp ystA ystB ystOut youtReg youtLoaded youtGroup youtVma youtLma youtSize youtAlign youtRes ygStart ygEnd yinKind yinId yinAlign yinBss yinStart yinLen yinStmt yinLive yinVma yinLma ybytes yrSec yrOff yrType yrTgt yrAdd yrom yram : Nat → Int32} {lv : Nat → Int32} (hq : lk_hq ni nr yrSec yrTgt) (ht : lk_ht ni yinStmt) (e : lv = lk_it (lk_sp yrSec yrTgt yinStmt ni) nr 17 yinLive) (h : post ((nI R0), (nI R1), yphase, (nI ns), (nI no), (nI ng), (nI ni), (nI nb), (nI nr), yopenOut, yinGroup, ycur, yfinalC0, yfinalC1, ystOp, ystA, ystB, ystOut, youtReg, youtLoaded, youtGroup, youtVma, youtLma, youtSize, youtAlign, youtRes, ygStart, ygEnd, yinKind, yinId, yinAlign, yinBss, yinStart, yinLen, yinStmt, lv, yinVma, yinLma, ybytes, yrSec, yrOff, yrType, yrTgt, yrAdd, yrom, yram)) : wpY_closeLive post ((nI R0), (nI R1), yphase, (nI ns), (nI no), (nI ng), (nI ni), (nI nb), (nI nr), yopenOut, yinGroup, ycur, yfinalC0, yfinalC1, ystOp, ystA, ystB, ystOut, youtReg, youtLoaded, youtGroup, youtVma, youtLma, youtSize, youtAlign, youtRes, ygStart, ygEnd, yinKind, yinId, yinAlign, yinBss, yinStart, yinLen, yinStmt, yinLive, yinVma, yinLma, ybytes, yrSec, yrOff, yrType, yrTgt, yrAdd, yrom, yram) := by
  subst e
  exact ly_close hq ht h
theorem lk_pa {ns no ng ni nb nr R0 R1 : Nat} {xphase xopenOut xopenGroup yinGroup yfinalC0 yfinalC1 : Int32} {xregionSize xcounter xmemory xstmtOp xstmtA xstmtB xstmtOwner xoutRegion xoutLoaded xoutGroup xoutAlign xoutVma xoutLma xoutDot xgroupStart xgroupEnd xgroupResident xinKind xinId xinAlign xinSize xinFirstByte xinStmt xinLive xinVma xfedBytes xrelocOwner xrelocOffset xrelocType xrelocTarget xrelocAddend ystOut youtSize youtRes ygStart ygEnd yinBss yinLen yinVma yinLma yrom yram : Nat → Int32} (hS : ∀ i, i < ns → lk_sc xstmtOp xstmtA xstmtB xstmtOwner ystOut xoutRegion xoutLoaded xoutGroup i) (hno : no = lk_no xstmtOp ns) (hng : ng = lk_ng xstmtOp ns) (h8 : no ≤ 8) (h4 : ng ≤ 4) (hN : lk_N ni nb xinKind xinAlign xinSize xinFirstByte yinBss yinLen) (hA : lk_hA ni ns xstmtOp xinStmt xinLive) (hl : lk_hl ni no ns xinStmt xinLive xstmtOwner ystOut) : ∃ (b : Bool) (C0' C1' : Nat) (V' L' D' G0' GE' IV' : Nat → Nat) (ct oa vm lm dt gs ge xv os yg0 yg1 yv yl : Nat → Int32) (d0 d1 d2 d3 d4 d5 d6 d7 d8 d9 : Int32), (b = true → lk_WI ni xstmtOp xoutRegion xoutLoaded xinStmt xinLive (fun s => (xstmtOwner (xinStmt s).toNatClampNeg).toNatClampNeg) (fun s => (xinSize s).toNatClampNeg) ns C0' C1' V' L' D' G0' GE' IV' ct vm lm dt gs ge xv os yg0 yg1 yv yl d0 d1 d2 d3 d4 d5 d6 d7 d8 d9) ∧
      (∀ post : Int32 → SX → Prop, post (if b = true then 1 else 0) (xphase, (nI ns), xopenOut, xopenGroup, (nI no), (nI ng), (nI ni), (nI nb), (nI nr), xregionSize, ct, xmemory, xstmtOp, xstmtA, xstmtB, xstmtOwner, xoutRegion, xoutLoaded, xoutGroup, oa, vm, lm, dt, gs, ge, xgroupResident, xinKind, xinId, xinAlign, xinSize, xinFirstByte, xinStmt, xinLive, xv, xfedBytes, xrelocOwner, xrelocOffset, xrelocType, xrelocTarget, xrelocAddend) → wpX_placeAll post (xphase, (nI ns), xopenOut, xopenGroup, (nI no), (nI ng), (nI ni), (nI nb), (nI nr), xregionSize, xcounter, xmemory, xstmtOp, xstmtA, xstmtB, xstmtOwner, xoutRegion, xoutLoaded, xoutGroup, xoutAlign, xoutVma, xoutLma, xoutDot, xgroupStart, xgroupEnd, xgroupResident, xinKind, xinId, xinAlign, xinSize, xinFirstByte, xinStmt, xinLive, xinVma, xfedBytes, xrelocOwner, xrelocOffset, xrelocType, xrelocTarget, xrelocAddend)) ∧
      (∀ post : Int32 → SY → Prop, (b = true → post 1 ((nI R0), (nI R1), xphase, (nI ns), (nI no), (nI ng), (nI ni), (nI nb), (nI nr), xopenOut, yinGroup, (nI ni - 1), d0, d1, xstmtOp, xstmtA, xstmtB, ystOut, xoutRegion, xoutLoaded, xoutGroup, vm, lm, os, oa, youtRes, yg0, yg1, xinKind, xinId, xinAlign, yinBss, xinFirstByte, yinLen, xinStmt, xinLive, yv, yl, xfedBytes, xrelocOwner, xrelocOffset, xrelocType, xrelocTarget, xrelocAddend, yrom, yram)) → (b = false → post 0 ((nI R0), (nI R1), xphase, (nI ns), (nI no), (nI ng), (nI ni), (nI nb), (nI nr), xopenOut, yinGroup, (nI ni - 1), yfinalC0, yfinalC1, xstmtOp, xstmtA, xstmtB, ystOut, xoutRegion, xoutLoaded, xoutGroup, vm, lm, os, oa, youtRes, yg0, yg1, xinKind, xinId, xinAlign, yinBss, xinFirstByte, yinLen, xinStmt, xinLive, yv, yl, xfedBytes, xrelocOwner, xrelocOffset, xrelocType, xrelocTarget, xrelocAddend, yrom, yram)) → wpY_walk post ((nI R0), (nI R1), xphase, (nI ns), (nI no), (nI ng), (nI ni), (nI nb), (nI nr), xopenOut, yinGroup, (nI ni - 1), yfinalC0, yfinalC1, xstmtOp, xstmtA, xstmtB, ystOut, xoutRegion, xoutLoaded, xoutGroup, xoutVma, xoutLma, youtSize, xoutAlign, youtRes, ygStart, ygEnd, xinKind, xinId, xinAlign, yinBss, xinFirstByte, yinLen, xinStmt, xinLive, yinVma, yinLma, xfedBytes, xrelocOwner, xrelocOffset, xrelocType, xrelocTarget, xrelocAddend, yrom, yram)) := by
  obtain ⟨b, C0n, C1n, Vn, Ln, Dn, G0n, GEn, IVn, ctn, oan, vmn, lmn, dtn, gsn, gen, xvn, osn, yg0n, yg1n, yvn, yln, n0, n1, n2, n3, n4, n5, n6, n7, n8, n9, j1, j2, j3⟩ := lk_walk (R0 := R0) (R1 := R1) (nr := nr) (xphase := xphase) (xopenOut := xopenOut) (xopenGroup := xopenGroup) (yinGroup := yinGroup) (yfinalC0 := yfinalC0) (yfinalC1 := yfinalC1) (xregionSize := xregionSize) (xmemory := xmemory) (xgroupResident := xgroupResident) (xinId := xinId) (xfedBytes := xfedBytes) (xrelocOwner := xrelocOwner) (xrelocOffset := xrelocOffset) (xrelocType := xrelocType) (xrelocTarget := xrelocTarget) (xrelocAddend := xrelocAddend) (youtRes := youtRes) (yrom := yrom) (yram := yram) hS hno hng h8 h4 hN hA hl ns 0 (by omega) 0 256 (fun _ => 0) (fun _ => 0) (fun _ => 0) (fun _ => 0) (fun _ => 0) (fun _ => 0) (upd (upd xcounter 0 0) 1 256) xoutAlign xoutVma xoutLma xoutDot xgroupStart xgroupEnd xinVma youtSize ygStart ygEnd yinVma yinLma 0 256 0 0 (-1) (-1) 0 0 0 0 (lk_WI_0 (by rw [pk_un (by decide), pk_us]) pk_us)
  exact ⟨b, C0n, C1n, Vn, Ln, Dn, G0n, GEn, IVn, ctn, oan, vmn, lmn, dtn, gsn, gen, xvn, osn, yg0n, yg1n, yvn, yln, n0, n1, n2, n3, n4, n5, n6, n7, n8, n9, j1, fun post hp => nm_e (nm_e ⟨_, j2 post hp⟩), fun post h1 h0 => ⟨_, j3 post h1 h0⟩⟩
/-- what the walk leaves, before and without the overflow test -/
theorem lk_asm1 {ni ns no ng : Nat} {op rg ld gp ox oy st lv sz : Nat → Int32} {C0 C1 : Nat} {V L D G0 GE IV : Nat → Nat} {ct vm lm dt gs ge xv os yg0 yg1 yv yl : Nat → Int32} {c0 c1 g0 yge grp k dot vma lma ing : Int32}
    (hW : lk_WI ni op rg ld st lv (fun s => (ox (st s).toNatClampNeg).toNatClampNeg) (fun s => (sz s).toNatClampNeg) ns C0 C1 V L D G0 GE IV ct vm lm dt gs ge xv os yg0 yg1 yv yl c0 c1 g0 yge grp k dot vma lma ing)
    (his : lk_is op ns = false) (hno : no = lk_no op ns) (h8 : no ≤ 8) (n32 : ns ≤ 32) (hof : ∀ k, k < no → lk_of ng rg ld gp k) (hl : lk_hl ni no ns st lv ox oy) :
    lk_hk no rg vm lm V L D ∧ (∀ k, k < no → dt k = nI (D k)) ∧ (∀ k, k < no → os k = nI (D k - V k)) ∧
    (∀ s, s < ni → lv s = 1 → ∃ q k, q < ns ∧ st s = nI q ∧ ox q = nI k ∧ oy q = nI k ∧ k < no ∧ xv s = nI (IV s) ∧ yv s = nI (IV s) ∧ IV s < 2 ^ 30 ∧ yl s = nI (IV s) + (lm k - vm k)) ∧
    (∀ s, s < ni → lv s = 1 → V (ox (st s).toNatClampNeg).toNatClampNeg ≤ IV s ∧ IV s + (sz s).toNatClampNeg ≤ D (ox (st s).toNatClampNeg).toNatClampNeg) ∧
    (ct 0 = c0 ∧ ct 1 = c1) := by
  unfold lk_WI at hW
  rw [lk_nc_f his, ← hno] at hW
  obtain ⟨⟨_, g2, _, _, _, _, g7, _⟩, ⟨w1, w2, w3, w4⟩, w5, w6, _, _, w7, _⟩ := hW
  have pl : ∀ s, s < ni → lv s = 1 → lk_pl st lv ns s := by
    intro s hs h
    obtain ⟨q, k, hq, eq, _⟩ := hl.2.2 s hs h
    exact ⟨h, q, hq, eq⟩
  refine ⟨⟨h8, fun k hk => ?_⟩, fun k hk => (w5 k hk).2.2, w6, fun s hs h => ?_, fun s hs h => ?_, by rw [w1, w3], by rw [w2, w4]⟩
  · obtain ⟨a1, a2, a3, a4, a5⟩ := g2 k hk
    obtain ⟨b1, b2, _⟩ := w5 k hk
    refine ⟨?_, b1, b2, a1, by omega, by omega, a5⟩
    rcases hof k hk with ⟨z, _⟩ | ⟨z, _⟩
    · exact Or.inl z
    · exact Or.inr z
  · obtain ⟨q, k, hq, eq, hk, ek, ek2⟩ := hl.2.2 s hs h
    obtain ⟨a1, a2, a3⟩ := w7 s hs (pl s hs h)
    obtain ⟨b1, b2, b3⟩ := g7 s hs (pl s hs h)
    have own : (ox (st s).toNatClampNeg).toNatClampNeg = k := by rw [eq, nI_clamp (by omega), ek, nI_clamp (by omega)]
    have a3' : yl s = nI (IV s) + (lm (ox (st s).toNatClampNeg).toNatClampNeg - vm (ox (st s).toNatClampNeg).toNatClampNeg) := a3
    have b1' : (ox (st s).toNatClampNeg).toNatClampNeg < no := b1
    have b3' : IV s + (sz s).toNatClampNeg ≤ D (ox (st s).toNatClampNeg).toNatClampNeg := b3
    rw [own] at a3' b1' b3'
    have := (g2 k b1').2.1
    exact ⟨q, k, hq, eq, ek, ek2, hk, a1, a2, by omega, a3'⟩
  · obtain ⟨b1, b2, b3⟩ := g7 s hs (pl s hs h)
    exact ⟨b2, b3⟩
end
end
section
section
/-! AH: link: the image, pure -/
section
variable {ni ns no ng nb nr R0 : Nat} {op rg ld gp ox oy st lv sz kd al fb bs ln by_ ro rf ty rt ra : Nat → Int32} {C0 C1 : Nat} {V L D G0 GE IV : Nat → Nat} {ct vm lm dt gs ge xv os yg0 yg1 yv yl me m1 mf rom : Nat → Int32} {c0 c1 g0 yge grp k dot vma lma ing : Int32}
theorem lk_dj2 (hW : lk_WI ni op rg ld st lv (fun s => (ox (st s).toNatClampNeg).toNatClampNeg) (fun s => (sz s).toNatClampNeg) ns C0 C1 V L D G0 GE IV ct vm lm dt gs ge xv os yg0 yg1 yv yl c0 c1 g0 yge grp k dot vma lma ing)
    (his : lk_is op ns = false) (hl : lk_hl ni no ns st lv ox oy) (hLd : ∀ s, s < ni → lv s = 1 → ¬ kd s = 3 → ld (ox (st s).toNatClampNeg).toNatClampNeg = 1) :
    lk_dj ni (fun s => lv s = 1 ∧ ¬ kd s = 3) (fun s => L (ox (st s).toNatClampNeg).toNatClampNeg + (IV s - V (ox (st s).toNatClampNeg).toNatClampNeg)) (fun s => (sz s).toNatClampNeg) := by
  unfold lk_WI at hW
  rw [lk_nc_f his] at hW
  refine lk_G_dj (own := fun s => (ox (st s).toNatClampNeg).toNatClampNeg) hW.1 (fun s hs h => ?_)
  obtain ⟨q, k, hq, eq, _⟩ := hl.2.2 s hs h.1
  exact ⟨⟨h.1, q, hq, eq⟩, rfl, hLd s hs h.1 h.2⟩
theorem lk_img2 (hW : lk_WI ni op rg ld st lv (fun s => (ox (st s).toNatClampNeg).toNatClampNeg) (fun s => (sz s).toNatClampNeg) ns C0 C1 V L D G0 GE IV ct vm lm dt gs ge xv os yg0 yg1 yv yl c0 c1 g0 yge grp k dot vma lma ing)
    (his : lk_is op ns = false) (hno : no = lk_no op ns) (hl : lk_hl ni no ns st lv ox oy) (hLd : ∀ s, s < ni → lv s = 1 → ¬ kd s = 3 → ld (ox (st s).toNatClampNeg).toNatClampNeg = 1)
    (hN : lk_N ni nb kd al sz fb bs ln) (n32 : ns ≤ 32) (hk : lk_hk no rg vm lm V L D)
    (hI1 : lk_I1 ld L D V me no m1)
    (hI : lk_I3 ni (fun s => lv s = 1 ∧ ¬ kd s = 3) (fun s => L (ox (st s).toNatClampNeg).toNatClampNeg + (IV s - V (ox (st s).toNatClampNeg).toNatClampNeg)) (fun s => (sz s).toNatClampNeg) ro rf (lk_lo ni ro rf ty rt ra yv yl) (lk_hi ni ro rf ty rt ra yv yl) (fun s p => by_ (fb s + nI p).toNatClampNeg) m1 nr mf) :
    ∀ k off, k < no → off < D k - V k → (ld k = 1 → mf (L k + off) = lk_ib ni nr oy kd st lv ln fb by_ ro rf ty rt ra yv yl (nI k) (nI (V k + off))) ∧ (¬ ld k = 1 → lk_ib ni nr oy kd st lv ln fb by_ ro rf ty rt ra yv yl (nI k) (nI (V k + off)) = 0) := by
  intro k off hkn hoff
  have hnb := hN.2.1
  obtain ⟨_, _, _, _, hD, _, _⟩ := hk.2 k hkn
  have hW2 := hW
  unfold lk_WI at hW2
  rw [lk_nc_f his, ← hno] at hW2
  obtain ⟨hG, _, _, _, _, _, w7, _⟩ := hW2
  have h2 := hG.2.1
  have h7 := hG.2.2.2.2.2.2.1
  have live : ∀ s, s < ni → lv s = 1 → ¬ kd s = 3 → ∃ q o, st s = nI q ∧ q < 32 ∧ oy q = nI o ∧ o < 8 ∧ (ox (st s).toNatClampNeg).toNatClampNeg = o ∧ yv s = nI (IV s) ∧ ln s = nI (sz s).toNatClampNeg ∧ (sz s).toNatClampNeg ≤ 256 ∧ IV s < 2 ^ 29 := by
    intro s hs hlv hk3
    obtain ⟨q, o, hq, eq, ho, ek, ek2⟩ := hl.2.2 s hs hlv
    have h8 := hl.1
    obtain ⟨A, T, Z, Q, _, _, _, e4, hTZ, e6, d7⟩ := hN.2.2 s hs
    have hQZ : Q = Z := by
      rcases d7 with ⟨z, _⟩ | ⟨_, z⟩
      · exact absurd z hk3
      · exact z
    have esz : (sz s).toNatClampNeg = Q := by rw [e6, nI_clamp (by omega)]
    have pl : lk_pl st lv ns s := ⟨hlv, q, hq, eq⟩
    obtain ⟨b1, b2, b3⟩ := h7 s hs pl
    have own : (ox (st s).toNatClampNeg).toNatClampNeg = o := by rw [eq, nI_clamp (by omega), ek, nI_clamp (by omega)]
    have b3' : IV s + (sz s).toNatClampNeg ≤ D (ox (st s).toNatClampNeg).toNatClampNeg := b3
    rw [own] at b3'
    have := (h2 o ho).2.1
    exact ⟨q, o, eq, by omega, ek2, by omega, own, (w7 s hs pl).2.1, by rw [esz, e4, hQZ], by omega, by omega⟩
  have h8 := hl.1
  have ip : ∀ s, s < ni → (lk_ip oy kd st lv yv ln (nI k) (nI (V k + off)) s = true ↔ (lv s = 1 ∧ ¬ kd s = 3) ∧ (ox (st s).toNatClampNeg).toNatClampNeg = k ∧ IV s ≤ V k + off ∧ V k + off < IV s + (sz s).toNatClampNeg) := by
    intro s hs
    constructor
    · intro z
      obtain ⟨z1, z2, _, z4, z5, z6⟩ := of_decide_eq_true z
      obtain ⟨q, o, eq, hq, ek, ho, own, ey, eln, hz, hIV⟩ := live s hs z1 z2
      rw [eq, nI_clamp (by omega), ek, nI_eq (by omega) (by omega)] at z4
      rw [ey, nI_leI (by omega) (by omega)] at z5
      rw [ey, eln, nI_add, nI_ltI (by omega) (by omega)] at z6
      exact ⟨⟨z1, z2⟩, by rw [own, z4], z5, z6⟩
    · intro ⟨⟨z1, z2⟩, z3, z4, z5⟩
      obtain ⟨q, o, eq, hq, ek, ho, own, ey, eln, hz, hIV⟩ := live s hs z1 z2
      refine decide_eq_true ⟨z1, z2, ?_, ?_, ?_, ?_⟩
      · rw [eq]; exact nI_pos' (by omega)
      · rw [eq, nI_clamp (by omega), ek, ← z3, own]
      · rw [ey]; exact nI_le z4 (by omega)
      · rw [ey, eln, nI_add]; exact nI_lt z5 (by omega)
  unfold lk_ib
  refine lk_img (own := fun s => (ox (st s).toNatClampNeg).toNatClampNeg) (b0 := fun s p => by_ (fb s + nI p).toNatClampNeg) hG (fun s hs h => ?_) hI (fun q hq hlq o ho => hI1.1 q hq hlq o ho) hkn hoff ip (fun s hs hp => ?_)
  · obtain ⟨q, o, hq, eq, _⟩ := hl.2.2 s hs h.1
    exact ⟨⟨h.1, q, hq, eq⟩, rfl, hLd s hs h.1 h.2⟩
  · obtain ⟨⟨z1, z2⟩, z3, z4, z5⟩ := (ip s hs).mp hp
    obtain ⟨q, o, eq, hq, ek, ho, own, ey, eln, hz, hIV⟩ := live s hs z1 z2
    have ex : (nI (V k + off) - yv s).toNatClampNeg = V k + off - IV s := by rw [ey, pk_sub z4, nI_clamp (by omega)]
    show lk_by ni nr fb by_ ro rf ty rt ra yv yl s (nI (V k + off) - yv s).toNatClampNeg = _
    rw [ex]
    rfl
theorem lk_mem2 (hW : lk_WI ni op rg ld st lv (fun s => (ox (st s).toNatClampNeg).toNatClampNeg) (fun s => (sz s).toNatClampNeg) ns C0 C1 V L D G0 GE IV ct vm lm dt gs ge xv os yg0 yg1 yv yl c0 c1 g0 yge grp k dot vma lma ing)
    (his : lk_is op ns = false) (hno : no = lk_no op ns) (hl : lk_hl ni no ns st lv ox oy) (hLd : ∀ s, s < ni → lv s = 1 → ¬ kd s = 3 → ld (ox (st s).toNatClampNeg).toNatClampNeg = 1)
    (h128 : ∀ k, k < no → ld k = 1 → L k + (D k - V k) ≤ 128)
    (hI1 : lk_I1 ld L D V me no m1) (hme : ∀ j, j < 128 → me j = 255)
    (hI : lk_I3 ni (fun s => lv s = 1 ∧ ¬ kd s = 3) (fun s => L (ox (st s).toNatClampNeg).toNatClampNeg + (IV s - V (ox (st s).toNatClampNeg).toNatClampNeg)) (fun s => (sz s).toNatClampNeg) ro rf (lk_lo ni ro rf ty rt ra yv yl) (lk_hi ni ro rf ty rt ra yv yl) (fun s p => by_ (fb s + nI p).toNatClampNeg) m1 nr mf)
    (hJ : lk_J ld L D V mf no rom) : (∀ j, j < 128 → mf j = rom j) ∧ (∀ j, 128 ≤ j → mf j = me j) := by
  have hW2 := hW
  unfold lk_WI at hW2
  rw [lk_nc_f his, ← hno] at hW2
  obtain ⟨hG, _⟩ := hW2
  have h7 := hG.2.2.2.2.2.2.1
  have ha : ∀ s, s < ni → (fun s => lv s = 1 ∧ ¬ kd s = 3) s → lk_pl st lv ns s ∧ (fun s => (sz s).toNatClampNeg) s = (fun s => (sz s).toNatClampNeg) s ∧ ld ((fun s => (ox (st s).toNatClampNeg).toNatClampNeg) s) = 1 := by
    intro s hs h
    obtain ⟨q, k, hq, eq, _⟩ := hl.2.2 s hs h.1
    exact ⟨⟨h.1, q, hq, eq⟩, rfl, hLd s hs h.1 h.2⟩
  refine ⟨lk_rom hG ha hI (fun j hj hn => ?_) hJ.1 hJ.2, fun j hj => ?_⟩
  · rw [hI1.2 j hn]
    exact hme j hj
  · rw [hI.2 j (fun s hs has c => ?_)]
    · exact hI1.2 j (fun q hq hlq c => by have := h128 q hq hlq; omega)
    · obtain ⟨p1, _, l1⟩ := ha s hs has
      obtain ⟨b1, b2, b3⟩ := h7 s hs p1
      have h9 : L (ox (st s).toNatClampNeg).toNatClampNeg + (D (ox (st s).toNatClampNeg).toNatClampNeg - V (ox (st s).toNatClampNeg).toNatClampNeg) ≤ 128 := h128 _ b1 l1
      have b2' : V (ox (st s).toNatClampNeg).toNatClampNeg ≤ IV s := b2
      have b3' : IV s + (sz s).toNatClampNeg ≤ D (ox (st s).toNatClampNeg).toNatClampNeg := b3
      have c' : L (ox (st s).toNatClampNeg).toNatClampNeg + (IV s - V (ox (st s).toNatClampNeg).toNatClampNeg) ≤ j ∧ j < L (ox (st s).toNatClampNeg).toNatClampNeg + (IV s - V (ox (st s).toNatClampNeg).toNatClampNeg) + (sz s).toNatClampNeg := c
      omega
end
end
end
section

section
/-! AI: link joined -/
theorem lk_link {ns no ng ni nb nr R0 R1 : Nat} {xphase xopenOut xopenGroup yinGroup yfinalC0 yfinalC1 : Int32} {xregionSize xcounter xmemory xstmtOp xstmtA xstmtB xstmtOwner xoutRegion xoutLoaded xoutGroup xoutAlign xoutVma xoutLma xoutDot xgroupStart xgroupEnd xgroupResident xinKind xinId xinAlign xinSize xinFirstByte xinStmt xinLive xinVma xfedBytes xrelocOwner xrelocOffset xrelocType xrelocTarget xrelocAddend ystOut youtSize youtRes ygStart ygEnd yinBss yinLen yinVma yinLma yrom yram : Nat → Int32} {k : Nat} {gc : Int32}
    (hS : lk_S ns no ng xstmtOp xstmtA xstmtB xstmtOwner ystOut xoutRegion xoutLoaded xoutGroup xopenOut xopenGroup yinGroup)
    (hN : lk_N ni nb xinKind xinAlign xinSize xinFirstByte yinBss yinLen) (hQ : lk_Q nr ni xinKind yinLen xrelocOwner xrelocOffset xrelocTarget) (hZ : lk_Z xregionSize R0 R1) (hM : lk_M xmemory yrom yram) (hp : xphase = 0) (hrom : ∀ j, j < 128 → yrom j = 255) (his : lk_is xstmtOp ns = false) (hig : lk_ig xstmtOp ns = false) :
    ∃ (r : Int32) (u' : SX) (v' : SY), i_Rel (k + 5) u' v' ∧ (∀ post : Int32 → SX → Prop, post r u' → wpX_link post (xphase, (nI ns), xopenOut, xopenGroup, (nI no), (nI ng), (nI ni), (nI nb), (nI nr), xregionSize, xcounter, xmemory, xstmtOp, xstmtA, xstmtB, xstmtOwner, xoutRegion, xoutLoaded, xoutGroup, xoutAlign, xoutVma, xoutLma, xoutDot, xgroupStart, xgroupEnd, xgroupResident, xinKind, xinId, xinAlign, xinSize, xinFirstByte, xinStmt, xinLive, xinVma, xfedBytes, xrelocOwner, xrelocOffset, xrelocType, xrelocTarget, xrelocAddend) gc) ∧ (∀ post : Int32 → SY → Prop, post r v' → wpY_link post ((nI R0), (nI R1), xphase, (nI ns), (nI no), (nI ng), (nI ni), (nI nb), (nI nr), xopenOut, yinGroup, (nI ni - 1), yfinalC0, yfinalC1, xstmtOp, xstmtA, xstmtB, ystOut, xoutRegion, xoutLoaded, xoutGroup, xoutVma, xoutLma, youtSize, xoutAlign, youtRes, ygStart, ygEnd, xinKind, xinId, xinAlign, yinBss, xinFirstByte, yinLen, xinStmt, xinLive, yinVma, yinLma, xfedBytes, xrelocOwner, xrelocOffset, xrelocType, xrelocTarget, xrelocAddend, yrom, yram) gc) := by
  have hof := lk_S_of hS
  obtain ⟨c1, c2, c3, c4, c5, c6, c7, c8, c9⟩ := id hS
  rw [his, if_neg (by decide)] at c6
  rw [hig, if_neg (by decide)] at c7 c8
  have h16 := hN.1
  have hq : lk_hq ni nr xrelocOwner xrelocTarget := ⟨hN.1, hQ.1, fun r hr => by
    obtain ⟨o, f, t, Z, a1, a2, _, _, _, _, _, a8, a9⟩ := hQ.2 r hr
    exact ⟨o, t, a1, a2, a8, a9⟩⟩
  obtain ⟨st, est⟩ : ∃ st, st = lk_as xinStmt ni (lk_fm xstmtOp xstmtA xstmtB xinKind xinId ns) := ⟨_, rfl⟩
  have hst : ∀ s, s < ni → st s = lk_fm xstmtOp xstmtA xstmtB xinKind xinId ns s := fun s hs => by rw [est]; exact lk_as_t hs
  have ht : lk_ht ni st := by
    intro s hs
    rw [hst s hs]
    rcases lk_fm_or (op := xstmtOp) (sa := xstmtA) (sb := xstmtB) (kd := xinKind) (id := xinId) (ns := ns) (s := s) with z | ⟨q, hq2, _, z⟩
    · exact Or.inl z
    · exact Or.inr ⟨q, by omega, z⟩
  obtain ⟨l1, el1⟩ : ∃ l1, l1 = lk_as xinLive ni (lk_l0 xstmtOp (lk_fm xstmtOp xstmtA xstmtB xinKind xinId ns) gc) := ⟨_, rfl⟩
  obtain ⟨lv, elv⟩ : ∃ lv, lv = lk_lv xstmtOp st xrelocOwner xrelocTarget gc ni nr xinLive := ⟨_, rfl⟩
  have e1 : lk_as xinLive ni (lk_l0 xstmtOp st gc) = l1 := by
    rw [el1]
    funext s
    by_cases hs : s < ni
    · rw [lk_as_t hs, lk_as_t hs]
      unfold lk_l0
      rw [hst s hs]
    · rw [lk_as_f hs, lk_as_f hs]
  have elv2 : lv = lk_it (lk_sp xrelocOwner xrelocTarget st ni) nr ni l1 := by
    rw [elv]
    unfold lk_lv
    rw [e1]
  have hT : ∀ r, r < nr → ∃ t, t < 16 ∧ xrelocTarget r = nI t := fun r hr => by
    obtain ⟨o, t, _, _, ht2, et⟩ := hq.2.2 r hr
    exact ⟨t, ht2, et⟩
  have HH : lk_H (lk_sp xrelocOwner xrelocTarget st ni) nr ni := lk_sp_H (by omega) hT
  have eY : lv = lk_it (lk_sp xrelocOwner xrelocTarget st ni) nr 17 l1 := by
    have := lk_it_eq HH l1 (17 - ni)
    rw [show ni + (17 - ni) = 17 by omega] at this
    rw [elv2, this]
  have fx : lk_ps (lk_sp xrelocOwner xrelocTarget st ni) nr lv = lv := by
    rw [elv2]
    exact lk_it_fx HH l1
  have la : lk_la st lv ni := by
    rw [elv2]
    refine lk_it_la (by omega) hT (fun s hs h => ?_) ni
    rw [← e1, lk_as_t hs] at h
    exact lk_l0_a h
  have hA : lk_hA ni ns xstmtOp st lv := by
    refine ⟨c1, fun s hs h => ?_⟩
    have nz := la s hs h
    rcases lk_fm_or (op := xstmtOp) (sa := xstmtA) (sb := xstmtB) (kd := xinKind) (id := xinId) (ns := ns) (s := s) with z | ⟨q, hq2, ho, z⟩
    · exact absurd ((hst s hs).trans z) nz
    · exact ⟨q, hq2, ho, (hst s hs).trans z⟩
  have hl : lk_hl ni no ns st lv xstmtOwner ystOut := by
    refine ⟨c2, c1, fun s hs h => ?_⟩
    obtain ⟨q, hq2, ho, e⟩ := hA.2 s hs h
    obtain ⟨_, p1, p2, p3, p4⟩ := lk_S_i c9 hq2 ho
    exact ⟨q, _, hq2, e, by omega, p3, p4⟩
  obtain ⟨yv0, eyv⟩ : ∃ yv, yv = lk_as yinVma ni (fun _ => -1) := ⟨_, rfl⟩
  obtain ⟨yl0, eyl⟩ : ∃ yl, yl = lk_as yinLma ni (fun _ => -1) := ⟨_, rfl⟩
  have n0 : ¬ 0 ≤ xopenOut := by rw [c6]; decide
  rcases Bool.eq_false_or_eq_true (lk_ex (lk_ud xrelocOwner xrelocTarget st lv ni) nr 0) with hU | hU
  · refine ⟨-6, (xphase, (nI ns), xopenOut, xopenGroup, (nI no), (nI ng), (nI ni), (nI nb), (nI nr), xregionSize, xcounter, xmemory, xstmtOp, xstmtA, xstmtB, xstmtOwner, xoutRegion, xoutLoaded, xoutGroup, xoutAlign, xoutVma, xoutLma, xoutDot, xgroupStart, xgroupEnd, xgroupResident, xinKind, xinId, xinAlign, xinSize, xinFirstByte, st, lv, xinVma, xfedBytes, xrelocOwner, xrelocOffset, xrelocType, xrelocTarget, xrelocAddend), ((nI R0), (nI R1), xphase, (nI ns), (nI no), (nI ng), (nI ni), (nI nb), (nI nr), xopenOut, yinGroup, (nI ni - 1), yfinalC0, yfinalC1, xstmtOp, xstmtA, xstmtB, ystOut, xoutRegion, xoutLoaded, xoutGroup, xoutVma, xoutLma, youtSize, xoutAlign, youtRes, ygStart, ygEnd, xinKind, xinId, xinAlign, yinBss, xinFirstByte, yinLen, st, lv, yv0, yl0, xfedBytes, xrelocOwner, xrelocOffset, xrelocType, xrelocTarget, xrelocAddend, yrom, yram), ⟨ns, no, ng, ni, nb, nr, R0, R1, xphase, xopenOut, xopenGroup, yinGroup, yfinalC0, yfinalC1, xregionSize, xcounter, xmemory, xstmtOp, xstmtA, xstmtB, xstmtOwner, xoutRegion, xoutLoaded, xoutGroup, xoutAlign, xoutVma, xoutLma, xoutDot, xgroupStart, xgroupEnd, xgroupResident, xinKind, xinId, xinAlign, xinSize, xinFirstByte, st, lv, xinVma, xfedBytes, xrelocOwner, xrelocOffset, xrelocType, xrelocTarget, xrelocAddend, ystOut, youtSize, youtRes, ygStart, ygEnd, yinBss, yinLen, yv0, yl0, yrom, yram, rfl, rfl, hS, hN, hQ, hZ, hM, Or.inl ⟨hp, hrom⟩⟩, fun post hpost => ?_, fun post hpost => ?_⟩
    · exact br_t hp (br_t c6 (br_t c7 (lx_as2 h16 c1 est (lx_live2 hq ht elv (lx_ud hq (fun _ => br_f (by decide) hpost) (fun z => Bool.noConfusion (hU.symm.trans z)))))))
    · exact br_t hp (br_f n0 (br_t c8 (ly_as2 h16 c1 est el1 eyv eyl (ly_close2 hq ht eY (ly_ud hq ht (fun _ => hpost) (fun z => Bool.noConfusion (hU.symm.trans z)))))))
  have nu := fun z : lk_ex (lk_ud xrelocOwner xrelocTarget st lv ni) nr 0 = true => Bool.noConfusion (P := False) (z.symm.trans hU)
  have hcl : ∀ r, r < nr → lv (xrelocOwner r).toNatClampNeg = 1 → ∃ t, t < ni ∧ xrelocTarget r = nI t ∧ lv t = 1 := by
    intro r hr hlv
    obtain ⟨o, t, ho, eo, ht2, et⟩ := hq.2.2 r hr
    have hn := lk_ex_no nr 0 hU r (Nat.zero_le r) (by omega)
    have on : lk_on xrelocTarget st ni r = true := Decidable.byContradiction (fun z => hn (decide_eq_true ⟨hlv, z⟩))
    obtain ⟨p1, p2⟩ := (lk_on_t (st := st) (ni := ni) (by omega) (by omega) et).mp on
    rw [eo, nI_clamp (by omega)] at hlv
    exact ⟨t, p1, et, lk_sp_cl (by omega) (lk_fx_st HH fx hr) (by omega) eo (by omega) et hlv p1 p2⟩
  have enl : lk_ex (lk_nl xinKind st lv xoutLoaded ystOut) ni 0 = lk_ex (lk_nl xinKind st lv xoutLoaded xstmtOwner) ni 0 := by
    refine lk_ex_cg ni 0 (fun s _ hs => ?_)
    unfold lk_nl
    by_cases a : lv s = 1
    · obtain ⟨q, kk, hq2, eq, _, ek, ek2⟩ := hl.2.2 s (by omega) a
      rw [eq, nI_clamp (show q < 2 ^ 31 by omega), ek, ek2]
    · rw [decide_eq_false (fun y => a y.1), decide_eq_false (fun y => a y.1)]
  rcases Bool.eq_false_or_eq_true (lk_ex (lk_nl xinKind st lv xoutLoaded xstmtOwner) ni 0) with hL | hL
  · refine ⟨-7, (xphase, (nI ns), xopenOut, xopenGroup, (nI no), (nI ng), (nI ni), (nI nb), (nI nr), xregionSize, xcounter, xmemory, xstmtOp, xstmtA, xstmtB, xstmtOwner, xoutRegion, xoutLoaded, xoutGroup, xoutAlign, xoutVma, xoutLma, xoutDot, xgroupStart, xgroupEnd, xgroupResident, xinKind, xinId, xinAlign, xinSize, xinFirstByte, st, lv, xinVma, xfedBytes, xrelocOwner, xrelocOffset, xrelocType, xrelocTarget, xrelocAddend), ((nI R0), (nI R1), xphase, (nI ns), (nI no), (nI ng), (nI ni), (nI nb), (nI nr), xopenOut, yinGroup, (nI ni - 1), yfinalC0, yfinalC1, xstmtOp, xstmtA, xstmtB, ystOut, xoutRegion, xoutLoaded, xoutGroup, xoutVma, xoutLma, youtSize, xoutAlign, youtRes, ygStart, ygEnd, xinKind, xinId, xinAlign, yinBss, xinFirstByte, yinLen, st, lv, yv0, yl0, xfedBytes, xrelocOwner, xrelocOffset, xrelocType, xrelocTarget, xrelocAddend, yrom, yram), ⟨ns, no, ng, ni, nb, nr, R0, R1, xphase, xopenOut, xopenGroup, yinGroup, yfinalC0, yfinalC1, xregionSize, xcounter, xmemory, xstmtOp, xstmtA, xstmtB, xstmtOwner, xoutRegion, xoutLoaded, xoutGroup, xoutAlign, xoutVma, xoutLma, xoutDot, xgroupStart, xgroupEnd, xgroupResident, xinKind, xinId, xinAlign, xinSize, xinFirstByte, st, lv, xinVma, xfedBytes, xrelocOwner, xrelocOffset, xrelocType, xrelocTarget, xrelocAddend, ystOut, youtSize, youtRes, ygStart, ygEnd, yinBss, yinLen, yv0, yl0, yrom, yram, rfl, rfl, hS, hN, hQ, hZ, hM, Or.inl ⟨hp, hrom⟩⟩, fun post hpost => ?_, fun post hpost => ?_⟩
    · exact br_t hp (br_t c6 (br_t c7 (lx_as2 h16 c1 est (lx_live2 hq ht elv (lx_ud hq (fun z => (nu z).elim) (fun _ => br_t rfl (lx_nl h16 hl (fun _ => br_f (by decide) hpost) (fun z => Bool.noConfusion (hL.symm.trans z)))))))))
    · exact br_t hp (br_f n0 (br_t c8 (ly_as2 h16 c1 est el1 eyv eyl (ly_close2 hq ht eY (ly_ud hq ht (fun z => (nu z).elim) (fun _ => ly_nl h16 hl (fun _ => hpost) (fun z => Bool.noConfusion ((enl.trans hL).symm.trans z))))))))
  have nn := fun z : lk_ex (lk_nl xinKind st lv xoutLoaded xstmtOwner) ni 0 = true => Bool.noConfusion (P := False) (z.symm.trans hL)
  have nn2 := fun z : lk_ex (lk_nl xinKind st lv xoutLoaded ystOut) ni 0 = true => Bool.noConfusion (P := False) (z.symm.trans (enl.trans hL))
  have hLd : ∀ s, s < ni → lv s = 1 → ¬ xinKind s = 3 → xoutLoaded (xstmtOwner (st s).toNatClampNeg).toNatClampNeg = 1 := by
    intro s hs hlv hk3
    obtain ⟨q, o, hq2, eq, ho, ek, _⟩ := hl.2.2 s hs hlv
    have hn := lk_ex_no ni 0 hL s (Nat.zero_le s) (by omega)
    have h0 : ¬ xoutLoaded (xstmtOwner (st s).toNatClampNeg).toNatClampNeg = 0 := fun z => hn (decide_eq_true ⟨hlv, hk3, z⟩)
    have own : (xstmtOwner (st s).toNatClampNeg).toNatClampNeg = o := by rw [eq, nI_clamp (by omega), ek, nI_clamp (by omega)]
    rw [own] at h0 ⊢
    rcases hof o ho with ⟨_, z, _⟩ | ⟨_, z, _⟩
    · exact z
    · exact z.resolve_left h0
  obtain ⟨b, C0n, C1n, Vn, Ln, Dn, G0n, GEn, IVn, ct, oa, vm, lm, dt, gs, ge, xv, os, yg0, yg1, yv, yl, d0, d1, d2, d3, d4, d5, d6, d7, d8, d9, hW, jX, jY⟩ := lk_pa (ns := ns) (no := no) (ng := ng) (ni := ni) (nb := nb) (nr := nr) (R0 := R0) (R1 := R1) (xphase := xphase) (xopenOut := xopenOut) (xopenGroup := xopenGroup) (yinGroup := yinGroup) (yfinalC0 := yfinalC0) (yfinalC1 := yfinalC1) (xregionSize := xregionSize) (xcounter := xcounter) (xmemory := xmemory) (xstmtOp := xstmtOp) (xstmtA := xstmtA) (xstmtB := xstmtB) (xstmtOwner := xstmtOwner) (xoutRegion := xoutRegion) (xoutLoaded := xoutLoaded) (xoutGroup := xoutGroup) (xoutAlign := xoutAlign) (xoutVma := xoutVma) (xoutLma := xoutLma) (xoutDot := xoutDot) (xgroupStart := xgroupStart) (xgroupEnd := xgroupEnd) (xgroupResident := xgroupResident) (xinKind := xinKind) (xinId := xinId) (xinAlign := xinAlign) (xinSize := xinSize) (xinFirstByte := xinFirstByte) (xinStmt := st) (xinLive := lv) (xinVma := xinVma) (xfedBytes := xfedBytes) (xrelocOwner := xrelocOwner) (xrelocOffset := xrelocOffset) (xrelocType := xrelocType) (xrelocTarget := xrelocTarget) (xrelocAddend := xrelocAddend) (ystOut := ystOut) (youtSize := youtSize) (youtRes := youtRes) (ygStart := ygStart) (ygEnd := ygEnd) (yinBss := yinBss) (yinLen := yinLen) (yinVma := yv0) (yinLma := yl0) (yrom := yrom) (yram := yram) c9 c4 c5 c2 c3 hN hA hl
  cases b with
  | false =>
    refine ⟨-8, (xphase, (nI ns), xopenOut, xopenGroup, (nI no), (nI ng), (nI ni), (nI nb), (nI nr), xregionSize, ct, xmemory, xstmtOp, xstmtA, xstmtB, xstmtOwner, xoutRegion, xoutLoaded, xoutGroup, oa, vm, lm, dt, gs, ge, xgroupResident, xinKind, xinId, xinAlign, xinSize, xinFirstByte, st, lv, xv, xfedBytes, xrelocOwner, xrelocOffset, xrelocType, xrelocTarget, xrelocAddend), ((nI R0), (nI R1), xphase, (nI ns), (nI no), (nI ng), (nI ni), (nI nb), (nI nr), xopenOut, yinGroup, (nI ni - 1), yfinalC0, yfinalC1, xstmtOp, xstmtA, xstmtB, ystOut, xoutRegion, xoutLoaded, xoutGroup, vm, lm, os, oa, youtRes, yg0, yg1, xinKind, xinId, xinAlign, yinBss, xinFirstByte, yinLen, st, lv, yv, yl, xfedBytes, xrelocOwner, xrelocOffset, xrelocType, xrelocTarget, xrelocAddend, yrom, yram), ⟨ns, no, ng, ni, nb, nr, R0, R1, xphase, xopenOut, xopenGroup, yinGroup, yfinalC0, yfinalC1, xregionSize, ct, xmemory, xstmtOp, xstmtA, xstmtB, xstmtOwner, xoutRegion, xoutLoaded, xoutGroup, oa, vm, lm, dt, gs, ge, xgroupResident, xinKind, xinId, xinAlign, xinSize, xinFirstByte, st, lv, xv, xfedBytes, xrelocOwner, xrelocOffset, xrelocType, xrelocTarget, xrelocAddend, ystOut, os, youtRes, yg0, yg1, yinBss, yinLen, yv, yl, yrom, yram, rfl, rfl, hS, hN, hQ, hZ, hM, Or.inl ⟨hp, hrom⟩⟩, fun post hpost => ?_, fun post hpost => ?_⟩
    · exact br_t hp (br_t c6 (br_t c7 (lx_as2 h16 c1 est (lx_live2 hq ht elv (lx_ud hq (fun z => (nu z).elim) (fun _ => br_t rfl (lx_nl h16 hl (fun z => (nn z).elim) (fun _ => br_t rfl (jX _ (br_t rfl hpost))))))))))
    · refine br_t hp (br_f n0 (br_t c8 (ly_as2 h16 c1 est el1 eyv eyl (ly_close2 hq ht eY (ly_ud hq ht (fun z => (nu z).elim) (fun _ => ly_nl h16 hl (fun z => (nn2 z).elim) (fun _ => ?_)))))))
      unfold wY_link_167
      exact jY _ (fun z => Bool.noConfusion z) (fun _ => br_t rfl hpost)
  | true =>
    have hW := hW rfl
    obtain ⟨hk, hd, hos, hF, hG, hct⟩ := lk_asm1 (oy := ystOut) (gp := xoutGroup) hW his c4 c2 c1 hof hl
    have hR : R0 ≤ 128 ∧ R1 ≤ 128 := ⟨hZ.2.2.2.1, hZ.2.2.2.2.2⟩
    rcases Bool.eq_false_or_eq_true (lk_ex (lk_ov R0 R1 xoutRegion xoutLoaded Vn Ln Dn) no 0) with hO | hO
    · refine ⟨-9, (xphase, (nI ns), xopenOut, xopenGroup, (nI no), (nI ng), (nI ni), (nI nb), (nI nr), xregionSize, ct, xmemory, xstmtOp, xstmtA, xstmtB, xstmtOwner, xoutRegion, xoutLoaded, xoutGroup, oa, vm, lm, dt, gs, ge, xgroupResident, xinKind, xinId, xinAlign, xinSize, xinFirstByte, st, lv, xv, xfedBytes, xrelocOwner, xrelocOffset, xrelocType, xrelocTarget, xrelocAddend), ((nI R0), (nI R1), xphase, (nI ns), (nI no), (nI ng), (nI ni), (nI nb), (nI nr), xopenOut, yinGroup, (nI ni - 1), d0, d1, xstmtOp, xstmtA, xstmtB, ystOut, xoutRegion, xoutLoaded, xoutGroup, vm, lm, os, oa, youtRes, yg0, yg1, xinKind, xinId, xinAlign, yinBss, xinFirstByte, yinLen, st, lv, yv, yl, xfedBytes, xrelocOwner, xrelocOffset, xrelocType, xrelocTarget, xrelocAddend, yrom, yram), ⟨ns, no, ng, ni, nb, nr, R0, R1, xphase, xopenOut, xopenGroup, yinGroup, d0, d1, xregionSize, ct, xmemory, xstmtOp, xstmtA, xstmtB, xstmtOwner, xoutRegion, xoutLoaded, xoutGroup, oa, vm, lm, dt, gs, ge, xgroupResident, xinKind, xinId, xinAlign, xinSize, xinFirstByte, st, lv, xv, xfedBytes, xrelocOwner, xrelocOffset, xrelocType, xrelocTarget, xrelocAddend, ystOut, os, youtRes, yg0, yg1, yinBss, yinLen, yv, yl, yrom, yram, rfl, rfl, hS, hN, hQ, hZ, hM, Or.inl ⟨hp, hrom⟩⟩, fun post hpost => ?_, fun post hpost => ?_⟩
      · exact br_t hp (br_t c6 (br_t c7 (lx_as2 h16 c1 est (lx_live2 hq ht elv (lx_ud hq (fun z => (nu z).elim) (fun _ => br_t rfl (lx_nl h16 hl (fun z => (nn z).elim) (fun _ => br_t rfl (jX _ (br_f (by decide) (lx_ov hZ hk hd (fun _ => br_f (by decide) hpost) (fun z => Bool.noConfusion (hO.symm.trans z)))))))))))))
      · refine br_t hp (br_f n0 (br_t c8 (ly_as2 h16 c1 est el1 eyv eyl (ly_close2 hq ht eY (ly_ud hq ht (fun z => (nu z).elim) (fun _ => ly_nl h16 hl (fun z => (nn2 z).elim) (fun _ => ?_)))))))
        unfold wY_link_167
        exact jY _ (fun _ => br_f (by decide) (ly_ov hR hk hos (fun _ => hpost) (fun z => Bool.noConfusion (hO.symm.trans z)))) (fun z => Bool.noConfusion z)
    · have no1 := fun z : lk_ex (lk_ov R0 R1 xoutRegion xoutLoaded Vn Ln Dn) no 0 = true => Bool.noConfusion (P := False) (z.symm.trans hO)
      have hfin : (∀ k, k < no → vm k = nI (Vn k) ∧ lm k = nI (Ln k) ∧ dt k = nI (Dn k) ∧ os k = nI (Dn k - Vn k) ∧ Vn k ≤ Dn k ∧ (xoutRegion k = 1 → 256 ≤ Vn k ∧ Dn k ≤ 256 + R1) ∧ (xoutRegion k = 0 → Dn k ≤ R0) ∧ (xoutLoaded k = 1 → Ln k + (Dn k - Vn k) ≤ R0)) ∧ (∀ g, g < ng → ∃ a b, gs g = nI a ∧ yg0 g = nI a ∧ ge g = nI b ∧ yg1 g = nI b ∧ 256 ≤ a ∧ a ≤ b ∧ b < 2 ^ 30 ∧ (b = a ∨ b ≤ 256 + R1)) := by
        have hW3 := hW
        unfold lk_WI at hW3
        rw [lk_nc_f his, ← c4, ← c5, hig] at hW3
        exact lk_W_fin hW3 (by omega) hof hO
      have h128 : ∀ k, k < no → xoutLoaded k = 1 → Ln k + (Dn k - Vn k) ≤ 128 := fun k hkn hl1 => by
        have := (hfin.1 k hkn).2.2.2.2.2.2.2 hl1
        omega
      have dj := lk_dj2 (kd := xinKind) (oy := ystOut) hW his hl hLd
      obtain ⟨m1, mf, hI1, hI3, xrom⟩ := lx_rom (ns := ns) (no := no) (ng := ng) (ni := ni) (nb := nb) (nr := nr) (xphase := xphase) (xopenOut := xopenOut) (xopenGroup := xopenGroup) (xregionSize := xregionSize) (xcounter := ct) (xmemory := xmemory) (xstmtOp := xstmtOp) (xstmtA := xstmtA) (xstmtB := xstmtB) (xstmtOwner := xstmtOwner) (xoutRegion := xoutRegion) (xoutLoaded := xoutLoaded) (xoutGroup := xoutGroup) (xoutAlign := oa) (xoutVma := vm) (xoutLma := lm) (xoutDot := dt) (xgroupStart := gs) (xgroupEnd := ge) (xgroupResident := xgroupResident) (xinKind := xinKind) (xinId := xinId) (xinAlign := xinAlign) (xinSize := xinSize) (xinFirstByte := xinFirstByte) (xinStmt := st) (xinLive := lv) (xinVma := xv) (xfedBytes := xfedBytes) (xrelocOwner := xrelocOwner) (xrelocOffset := xrelocOffset) (xrelocType := xrelocType) (xrelocTarget := xrelocTarget) (xrelocAddend := xrelocAddend) (yv := yv) (yl := yl) (oy := ystOut) hk hd h128 c1 hF hG hLd hN hQ hcl dj
      have himg := lk_img2 hW his c4 hl hLd hN c1 hk hI1 hI3
      have hv : ∀ s, s < ni → lv s = 1 → ∃ q, q < 32 ∧ st s = nI q ∧ yv s = nI (IVn s) ∧ IVn s < 2 ^ 30 := fun s hs hlv => by
        obtain ⟨q, o, hq2, eq, _, _, _, _, ey, hI, _⟩ := hF s hs hlv
        exact ⟨q, by omega, eq, ey, hI⟩
      have hb : ∀ s, s < ni → ∃ T Z, xinFirstByte s = nI T ∧ yinLen s = nI Z ∧ T + Z ≤ 256 := fun s hs => by
        obtain ⟨A, T, Z, Q, _, _, a3, a4, a5, _, _⟩ := hN.2.2 s hs
        have := hN.2.1
        exact ⟨T, Z, a3, a4, by omega⟩
      have hg : ∀ k, k < no → xoutGroup k = -1 ∨ ∃ g, g < ng ∧ xoutGroup k = nI g := fun k hkn => by
        rcases hof k hkn with ⟨_, _, z⟩ | ⟨_, _, z⟩
        · exact Or.inl z
        · exact z
      have hg4 : ∀ k, k < no → xoutGroup k = -1 ∨ ∃ g, g < 4 ∧ xoutGroup k = nI g := fun k hkn => by
        rcases hg k hkn with z | ⟨g, hgn, z⟩
        · exact Or.inl z
        · exact Or.inr ⟨g, by omega, z⟩
      obtain ⟨romf, hJ, yromp⟩ := ly_rom (V := Vn) (L := Ln) (D := Dn) (mf := mf) (R0 := R0) (R1 := R1) (ns := ns) (no := no) (ng := ng) (ni := ni) (nb := nb) (nr := nr) (yphase := 1) (yopenOut := xopenOut) (yinGroup := yinGroup) (ycur := (nI ni - 1)) (yfinalC0 := d0) (yfinalC1 := d1) (ystOp := xstmtOp) (ystA := xstmtA) (ystB := xstmtB) (ystOut := ystOut) (youtReg := xoutRegion) (youtLoaded := xoutLoaded) (youtGroup := xoutGroup) (youtVma := vm) (youtLma := lm) (youtSize := os) (youtAlign := oa) (youtRes := (lk_as youtRes no (lk_r1 xoutGroup no))) (ygStart := yg0) (ygEnd := yg1) (yinKind := xinKind) (yinId := xinId) (yinAlign := xinAlign) (yinBss := yinBss) (yinStart := xinFirstByte) (yinLen := yinLen) (yinStmt := st) (yinLive := lv) (yinVma := yv) (yinLma := yl) (ybytes := xfedBytes) (yrSec := xrelocOwner) (yrOff := xrelocOffset) (yrType := xrelocType) (yrTgt := xrelocTarget) (yrAdd := xrelocAddend) (yrom := yrom) (yram := yram) hq hv hb hk hos hR.1 (fun k hkn hl1 => (hfin.1 k hkn).2.2.2.2.2.2.2 hl1) (fun k hkn hl1 o ho => ((himg k o hkn ho).1 hl1).symm)
      obtain ⟨mm1, mm2⟩ := lk_mem2 hW his c4 hl hLd h128 hI1 (fun j hj => by rw [hM.1 j hj]; exact hrom j hj) hI3 hJ
      refine ⟨0, (1, (nI ns), xopenOut, xopenGroup, (nI no), (nI ng), (nI ni), (nI nb), (nI nr), xregionSize, ct, mf, xstmtOp, xstmtA, xstmtB, xstmtOwner, xoutRegion, xoutLoaded, xoutGroup, oa, vm, lm, dt, gs, ge, (lk_as xgroupResident ng (fun g => lk_f1 xoutGroup no (nI g))), xinKind, xinId, xinAlign, xinSize, xinFirstByte, st, lv, xv, xfedBytes, xrelocOwner, xrelocOffset, xrelocType, xrelocTarget, xrelocAddend), ((nI R0), (nI R1), 1, (nI ns), (nI no), (nI ng), (nI ni), (nI nb), (nI nr), xopenOut, yinGroup, (nI ni - 1), d0, d1, xstmtOp, xstmtA, xstmtB, ystOut, xoutRegion, xoutLoaded, xoutGroup, vm, lm, os, oa, (lk_as youtRes no (lk_r1 xoutGroup no)), yg0, yg1, xinKind, xinId, xinAlign, yinBss, xinFirstByte, yinLen, st, lv, yv, yl, xfedBytes, xrelocOwner, xrelocOffset, xrelocType, xrelocTarget, xrelocAddend, romf, yram), ⟨ns, no, ng, ni, nb, nr, R0, R1, 1, xopenOut, xopenGroup, yinGroup, d0, d1, xregionSize, ct, mf, xstmtOp, xstmtA, xstmtB, xstmtOwner, xoutRegion, xoutLoaded, xoutGroup, oa, vm, lm, dt, gs, ge, _, xinKind, xinId, xinAlign, xinSize, xinFirstByte, st, lv, xv, xfedBytes, xrelocOwner, xrelocOffset, xrelocType, xrelocTarget, xrelocAddend, ystOut, os, _, yg0, yg1, yinBss, yinLen, yv, yl, romf, yram, rfl, rfl, hS, hN, hQ, hZ, ⟨mm1, fun j hj => ?_⟩, Or.inr ⟨Or.inl rfl, Vn, Ln, Dn, IVn, hct, hfin.1, hfin.2, hF, himg, fun g hgn => ?_, fun k hkn => ?_, fun _ g hgn => lk_as_t hgn⟩⟩, fun post hpost => ?_, fun post hpost => ?_⟩
      · rw [mm2 (256 + j) (by omega)]
        exact hM.2 j hj
      · rw [lk_as_t hgn]
        rcases lk_ff_or (fun k => decide (xoutGroup k = nI g)) no 0 with z | ⟨k2, _, h2, h3, z⟩
        · exact Or.inl z
        · exact Or.inr ⟨k2, by omega, z, of_decide_eq_true h3⟩
      · rw [lk_as_t hkn]
        unfold lk_r1
        rcases hg k hkn with z | ⟨g, hgn, z⟩
        · rw [if_neg (fun y => y.1 z), if_neg (fun y => y.1 z)]
        · rw [z, nI_clamp (show g < 2 ^ 31 by omega), lk_as_t hgn]
      · exact br_t hp (br_t c6 (br_t c7 (lx_as2 h16 c1 est (lx_live2 hq ht elv (lx_ud hq (fun z => (nu z).elim) (fun _ => br_t rfl (lx_nl h16 hl (fun z => (nn z).elim) (fun _ => br_t rfl (jX _ (br_f (by decide) (lx_ov hZ hk hd (fun z => (no1 z).elim) (fun _ => br_t rfl (xrom _ (lx_res c2 c3 hpost))))))))))))))
      · refine br_t hp (br_f n0 (br_t c8 (ly_as2 h16 c1 est el1 eyv eyl (ly_close2 hq ht eY (ly_ud hq ht (fun z => (nu z).elim) (fun _ => ly_nl h16 hl (fun z => (nn2 z).elim) (fun _ => ?_)))))))
        unfold wY_link_167
        exact jY _ (fun _ => br_f (by decide) (ly_ov hR hk hos (fun z => (no1 z).elim) (fun _ => ly_res c2 hg4 (yromp _ hpost)))) (fun z => Bool.noConfusion z)
theorem i_vc_link {k : Nat} {u : SX} {v : SY} (I : i_Rel k u v) (hk : k + 5 ≤ 2562) (v1 : Int32) : wpX_link (fun r u' => wpY_link (fun r' v' => r' = r ∧ i_Rel (k + 5) u' v') v (lw_bz v1)) u (lw_bz v1) := by
  have J := i_up I
  obtain ⟨ns, no, ng, ni, nb, nr, R0, R1, xphase, xopenOut, xopenGroup, yinGroup, yfinalC0, yfinalC1, xregionSize, xcounter, xmemory, xstmtOp, xstmtA, xstmtB, xstmtOwner, xoutRegion, xoutLoaded, xoutGroup, xoutAlign, xoutVma, xoutLma, xoutDot, xgroupStart, xgroupEnd, xgroupResident, xinKind, xinId, xinAlign, xinSize, xinFirstByte, xinStmt, xinLive, xinVma, xfedBytes, xrelocOwner, xrelocOffset, xrelocType, xrelocTarget, xrelocAddend, ystOut, youtSize, youtRes, ygStart, ygEnd, yinBss, yinLen, yinVma, yinLma, yrom, yram, rfl, rfl, hS, hN, hQ, hZ, hM, hP⟩ := I
  rcases Decidable.em (xphase = 0) with hp | hp
  · have hP0 : ∀ j, j < 128 → yrom j = 255 := by
      rcases hP with ⟨_, h⟩ | ⟨h, _⟩
      · exact h
      · rw [hp] at h; exact absurd h (by decide)
    obtain ⟨c1, c2, c3, c4, c5, c6, c7, c8, c9⟩ := id hS
    rcases Bool.eq_false_or_eq_true (lk_is xstmtOp ns) with his | his
    · have hno := lk_is_p ns his
      rw [← c4] at hno
      rw [his, if_pos rfl] at c6
      have o1 : ¬ xopenOut = -1 := by rw [c6]; exact lk_nn1 (by omega)
      have o2 : 0 ≤ xopenOut := by rw [c6]; exact nI_pos' (by omega)
      exact br_t hp (br_f o1 (br_t hp (br_t o2 ⟨rfl, J⟩)))
    · rcases Bool.eq_false_or_eq_true (lk_ig xstmtOp ns) with hig | hig
      · have hng := lk_ig_p ns hig
        rw [← c5] at hng
        rw [his, if_neg (by decide)] at c6
        rw [hig, if_pos rfl] at c7 c8
        have g1 : ¬ xopenGroup = -1 := by rw [c7]; exact lk_nn1 (by omega)
        have g2 : ¬ yinGroup = 0 := by rw [c8]; decide
        have o2 : ¬ 0 ≤ xopenOut := by rw [c6]; decide
        exact br_t hp (br_t c6 (br_f g1 (br_t hp (br_f o2 (br_f g2 ⟨rfl, J⟩)))))
      · obtain ⟨r, u', v', hR, hX, hY⟩ := lk_link (k := k) (gc := lw_bz v1) (xoutAlign := xoutAlign) (xoutVma := xoutVma) (xoutLma := xoutLma) (xoutDot := xoutDot) (xgroupStart := xgroupStart) (xgroupEnd := xgroupEnd) (xgroupResident := xgroupResident) (xcounter := xcounter) (xinId := xinId) (xinStmt := xinStmt) (xinLive := xinLive) (xinVma := xinVma) (xfedBytes := xfedBytes) (xrelocType := xrelocType) (xrelocAddend := xrelocAddend) (yfinalC0 := yfinalC0) (yfinalC1 := yfinalC1) (youtSize := youtSize) (youtRes := youtRes) (ygStart := ygStart) (ygEnd := ygEnd) (yinVma := yinVma) (yinLma := yinLma) hS hN hQ hZ hM hp hP0 his hig
        exact hX _ (hY _ ⟨rfl, hR⟩)
  · exact br_f hp (br_f hp ⟨rfl, J⟩)
end
end
section

section
/-! AJ: writing RAM on both sides -/
theorem lx_fill3 {post : SX → Prop} {xphase xstmtCount xopenOut xopenGroup xoutCount xgroupCount xinCount xbyteCount xrelocCount : Int32} {xregionSize xcounter xmemory xstmtOp xstmtA xstmtB xstmtOwner xoutRegion xoutLoaded xoutGroup xoutAlign xoutVma xoutLma xoutDot xgroupStart xgroupEnd xgroupResident xinKind xinId xinAlign xinSize xinFirstByte xinStmt xinLive xinVma xfedBytes xrelocOwner xrelocOffset xrelocType xrelocTarget xrelocAddend : Nat → Int32} {s e : Nat} {v z w : Int32} (hz : z = nI s) (hw : w = nI e) (he : e ≤ s ∨ e ≤ 384) (hs : s < 2 ^ 31) (h : post (xphase, xstmtCount, xopenOut, xopenGroup, xoutCount, xgroupCount, xinCount, xbyteCount, xrelocCount, xregionSize, xcounter, (lk_wr xmemory s e (fun _ => v)), xstmtOp, xstmtA, xstmtB, xstmtOwner, xoutRegion, xoutLoaded, xoutGroup, xoutAlign, xoutVma, xoutLma, xoutDot, xgroupStart, xgroupEnd, xgroupResident, xinKind, xinId, xinAlign, xinSize, xinFirstByte, xinStmt, xinLive, xinVma, xfedBytes, xrelocOwner, xrelocOffset, xrelocType, xrelocTarget, xrelocAddend)) : wpX_fill post (xphase, xstmtCount, xopenOut, xopenGroup, xoutCount, xgroupCount, xinCount, xbyteCount, xrelocCount, xregionSize, xcounter, xmemory, xstmtOp, xstmtA, xstmtB, xstmtOwner, xoutRegion, xoutLoaded, xoutGroup, xoutAlign, xoutVma, xoutLma, xoutDot, xgroupStart, xgroupEnd, xgroupResident, xinKind, xinId, xinAlign, xinSize, xinFirstByte, xinStmt, xinLive, xinVma, xfedBytes, xrelocOwner, xrelocOffset, xrelocType, xrelocTarget, xrelocAddend) z w v := by
  rcases he with c | c
  · subst hz
    subst hw
    rw [lk_wr_e c] at h
    exact ⟨1, br_t (nI_le c hs) h⟩
  · exact lx_fill2 hz hw c hs h
theorem lx_ib {post : Int32 → Prop} {ns no ng ni nb nr : Nat} {xphase xopenOut xopenGroup : Int32} {xregionSize xcounter xmemory xstmtOp xstmtA xstmtB xstmtOwner xoutRegion xoutLoaded xoutGroup xoutAlign xoutVma xoutLma xoutDot xgroupStart xgroupEnd xgroupResident xinKind xinId xinAlign xinSize xinFirstByte xinStmt xinLive xinVma xfedBytes xrelocOwner xrelocOffset xrelocType xrelocTarget xrelocAddend : Nat → Int32} {k x l v : Nat} (hk : k < 8) (ev : xoutVma k = nI v) (el : xoutLma k = nI l) (hv : v ≤ x) (hl : xoutLoaded k = 1 → l + (x - v) < 384) (h : post (if xoutLoaded k = 1 then xmemory (l + (x - v)) else 0)) : wpX_imageByte post (xphase, (nI ns), xopenOut, xopenGroup, (nI no), (nI ng), (nI ni), (nI nb), (nI nr), xregionSize, xcounter, xmemory, xstmtOp, xstmtA, xstmtB, xstmtOwner, xoutRegion, xoutLoaded, xoutGroup, xoutAlign, xoutVma, xoutLma, xoutDot, xgroupStart, xgroupEnd, xgroupResident, xinKind, xinId, xinAlign, xinSize, xinFirstByte, xinStmt, xinLive, xinVma, xfedBytes, xrelocOwner, xrelocOffset, xrelocType, xrelocTarget, xrelocAddend) (nI k) (nI x) := by
  have e : (nI k).toNatClampNeg = k := nI_clamp (by omega)
  have v8 : vp_in (nI k) 8 := vp_in_nI hk (by omega)
  refine ⟨v8, ?_⟩
  by_cases a : xoutLoaded k = 1
  · have hb := hl a
    have ex : xoutLma (nI k).toNatClampNeg + nI x - xoutVma (nI k).toNatClampNeg = nI (l + (x - v)) := by rw [e, el, ev, nI_add, pk_sub (by omega), show l + x - v = l + (x - v) by omega]
    rw [if_pos a] at h
    refine br_t (by rw [e]; exact a) ⟨v8, v8, by rw [ex]; exact vp_in_nI hb (by omega), ?_⟩
    rw [ex, nI_clamp (by omega)]
    exact h
  · rw [if_neg a] at h
    exact br_f (by rw [e]; exact a) h
theorem lx_ini {post : SX → Prop} {ns no ng ni nb nr : Nat} {xphase xopenOut xopenGroup : Int32} {xregionSize xcounter xmemory xstmtOp xstmtA xstmtB xstmtOwner xoutRegion xoutLoaded xoutGroup xoutAlign xoutVma xoutLma xoutDot xgroupStart xgroupEnd xgroupResident xinKind xinId xinAlign xinSize xinFirstByte xinStmt xinLive xinVma xfedBytes xrelocOwner xrelocOffset xrelocType xrelocTarget xrelocAddend : Nat → Int32} {k v d l : Nat} (hk : k < 8) (ev : xoutVma k = nI v) (ed : xoutDot k = nI d) (el : xoutLma k = nI l) (hvd : v ≤ d) (h256 : 256 ≤ v) (hd : d ≤ 384) (hl : xoutLoaded k = 1 → l + (d - v) ≤ 128) (h : post (xphase, (nI ns), xopenOut, xopenGroup, (nI no), (nI ng), (nI ni), (nI nb), (nI nr), xregionSize, xcounter, (lk_wr xmemory v d (fun j => if xoutLoaded k = 1 then xmemory (l + (j - v)) else 0)), xstmtOp, xstmtA, xstmtB, xstmtOwner, xoutRegion, xoutLoaded, xoutGroup, xoutAlign, xoutVma, xoutLma, xoutDot, xgroupStart, xgroupEnd, xgroupResident, xinKind, xinId, xinAlign, xinSize, xinFirstByte, xinStmt, xinLive, xinVma, xfedBytes, xrelocOwner, xrelocOffset, xrelocType, xrelocTarget, xrelocAddend)) : wpX_initialise post (xphase, (nI ns), xopenOut, xopenGroup, (nI no), (nI ng), (nI ni), (nI nb), (nI nr), xregionSize, xcounter, xmemory, xstmtOp, xstmtA, xstmtB, xstmtOwner, xoutRegion, xoutLoaded, xoutGroup, xoutAlign, xoutVma, xoutLma, xoutDot, xgroupStart, xgroupEnd, xgroupResident, xinKind, xinId, xinAlign, xinSize, xinFirstByte, xinStmt, xinLive, xinVma, xfedBytes, xrelocOwner, xrelocOffset, xrelocType, xrelocTarget, xrelocAddend) (nI k) := by
  have e : (nI k).toNatClampNeg = k := nI_clamp (by omega)
  have v8 : vp_in (nI k) 8 := vp_in_nI hk (by omega)
  have H : ∀ c x, x + c = d → v ≤ x → wX_initialise_14 post (nI k) (nI d) xphase (nI ns) xopenOut xopenGroup (nI no) (nI ng) (nI ni) (nI nb) (nI nr) (c + 1) (nI x) xregionSize xcounter (lk_wr xmemory v x (fun j => if xoutLoaded k = 1 then xmemory (l + (j - v)) else 0)) xstmtOp xstmtA xstmtB xstmtOwner xoutRegion xoutLoaded xoutGroup xoutAlign xoutVma xoutLma xoutDot xgroupStart xgroupEnd xgroupResident xinKind xinId xinAlign xinSize xinFirstByte xinStmt xinLive xinVma xfedBytes xrelocOwner xrelocOffset xrelocType xrelocTarget xrelocAddend := by
    intro c
    induction c with
    | zero =>
      intro x hx _
      have e1 : x = d := hx
      subst e1
      exact br_t (nI_le (by omega) (by omega)) h
    | succ c ih =>
      intro x hx hvx
      refine br_f (nI_ge (by omega) (by omega)) (lx_ib hk ev el hvx (fun a => by have := hl a; omega) ⟨vp_in_nI (by omega) (by omega), nm_r ?_ (nm_r (nI_1 x) (ih (x + 1) (by omega) (by omega)))⟩)
      rw [nI_clamp (by omega)]
      refine lk_wr_s hvx ?_
      by_cases a : xoutLoaded k = 1
      · have hb := hl a
        rw [if_pos a, if_pos a, lk_wr_f (by omega)]
      · rw [if_neg a, if_neg a]
  have H2 := H (d - v) v (by omega) (Nat.le_refl v)
  rw [lk_wr_0] at H2
  exact ⟨v8, nm_r (e' := nI d) (by rw [e, ed]) ⟨v8, nm_r (e' := nI v) (by rw [e, ev]) ⟨_, H2⟩⟩⟩
theorem ly_zs {post : SY → Prop} {R0 R1 ns no ng ni nb nr : Nat} {yphase yopenOut yinGroup ycur yfinalC0 yfinalC1 : Int32} {ystOp ystA ystB ystOut youtReg youtLoaded youtGroup youtVma youtLma youtSize youtAlign youtRes ygStart ygEnd yinKind yinId yinAlign yinBss yinStart yinLen yinStmt yinLive yinVma yinLma ybytes yrSec yrOff yrType yrTgt yrAdd yrom yram : Nat → Int32} {g a b : Nat} {z : Int32} (hz : z = nI g) (hg : g < 4) (ea : ygStart g = nI a) (eb : ygEnd g = nI b) (h256 : 256 ≤ a) (hab : a ≤ b) (hb30 : b < 2 ^ 30) (hb : b = a ∨ b ≤ 256 + R1) (hR : R1 ≤ 128) (h : post ((nI R0), (nI R1), yphase, (nI ns), (nI no), (nI ng), (nI ni), (nI nb), (nI nr), yopenOut, yinGroup, ycur, yfinalC0, yfinalC1, ystOp, ystA, ystB, ystOut, youtReg, youtLoaded, youtGroup, youtVma, youtLma, youtSize, youtAlign, youtRes, ygStart, ygEnd, yinKind, yinId, yinAlign, yinBss, yinStart, yinLen, yinStmt, yinLive, yinVma, yinLma, ybytes, yrSec, yrOff, yrType, yrTgt, yrAdd, yrom, (lk_wr yram (a - 256) (b - 256) (fun _ => 0)))) : wpY_zeroSpan post ((nI R0), (nI R1), yphase, (nI ns), (nI no), (nI ng), (nI ni), (nI nb), (nI nr), yopenOut, yinGroup, ycur, yfinalC0, yfinalC1, ystOp, ystA, ystB, ystOut, youtReg, youtLoaded, youtGroup, youtVma, youtLma, youtSize, youtAlign, youtRes, ygStart, ygEnd, yinKind, yinId, yinAlign, yinBss, yinStart, yinLen, yinStmt, yinLive, yinVma, yinLma, ybytes, yrSec, yrOff, yrType, yrTgt, yrAdd, yrom, yram) z := by
  subst hz
  have e : (nI g).toNatClampNeg = g := nI_clamp (by omega)
  have v4 : vp_in (nI g) 4 := vp_in_nI hg (by omega)
  have H : ∀ d x, x + d = b → a ≤ x → wY_zeroSpan_7 post (nI g) (nI R0) (nI R1) yphase (nI ns) (nI no) (nI ng) (nI ni) (nI nb) (nI nr) yopenOut yinGroup ycur yfinalC0 yfinalC1 (d + 1) (nI x) ystOp ystA ystB ystOut youtReg youtLoaded youtGroup youtVma youtLma youtSize youtAlign youtRes ygStart ygEnd yinKind yinId yinAlign yinBss yinStart yinLen yinStmt yinLive yinVma yinLma ybytes yrSec yrOff yrType yrTgt yrAdd yrom (lk_wr yram (a - 256) (x - 256) (fun _ => 0)) := by
    intro d
    induction d with
    | zero =>
      intro x hx _
      have e1 : x = b := hx
      subst e1
      exact ⟨v4, br_t (by rw [e, eb]; exact nI_le (by omega) (by omega)) h⟩
    | succ d ih =>
      intro x hx hax
      have ex : nI x - 256 = nI (x - 256) := pk_sub (b := 256) (by omega)
      refine ⟨v4, br_f (by rw [e, eb]; exact nI_ge (by omega) (by omega)) (br_f (nI_ge (b := 384) (by omega) (by omega)) (nm_r ex (br_f (nI_pos (by omega)) (br_f (nI_ge (by omega) (by omega)) ⟨vp_in_nI (by omega) (by omega), nm_r ?_ (nm_r (nI_1 x) (ih (x + 1) (by omega) (by omega)))⟩))))⟩
      rw [nI_clamp (by omega), show x + 1 - 256 = x - 256 + 1 by omega]
      exact lk_wr_s (by omega) rfl
  have H2 := H (b - a) a (by omega) (Nat.le_refl a)
  rw [lk_wr_0] at H2
  exact ⟨v4, nm_r (e' := nI a) (by rw [e, ea]) ⟨_, H2⟩⟩
theorem ly_ls {post : SY → Prop} {R0 R1 ns no ng ni nb nr : Nat} {yphase yopenOut yinGroup ycur yfinalC0 yfinalC1 : Int32} {ystOp ystA ystB ystOut youtReg youtLoaded youtGroup youtVma youtLma youtSize youtAlign youtRes ygStart ygEnd yinKind yinId yinAlign yinBss yinStart yinLen yinStmt yinLive yinVma yinLma ybytes yrSec yrOff yrType yrTgt yrAdd yrom yram : Nat → Int32} {k v l S : Nat} (hk : k < 8) (ev : youtVma k = nI v) (el : youtLma k = nI l) (eS : youtSize k = nI S) (h256 : 256 ≤ v) (hd : v + S ≤ 256 + R1) (hR : R1 ≤ 128) (hl : youtLoaded k = 1 → l + S ≤ 128) (h : post ((nI R0), (nI R1), yphase, (nI ns), (nI no), (nI ng), (nI ni), (nI nb), (nI nr), yopenOut, yinGroup, ycur, yfinalC0, yfinalC1, ystOp, ystA, ystB, ystOut, youtReg, youtLoaded, youtGroup, youtVma, youtLma, youtSize, youtAlign, youtRes, ygStart, ygEnd, yinKind, yinId, yinAlign, yinBss, yinStart, yinLen, yinStmt, yinLive, yinVma, yinLma, ybytes, yrSec, yrOff, yrType, yrTgt, yrAdd, yrom, (lk_wr yram (v - 256) (v + S - 256) (fun j => if youtLoaded k = 1 then yrom (l + (256 + j - v)) else 0)))) : wpY_loadSection post ((nI R0), (nI R1), yphase, (nI ns), (nI no), (nI ng), (nI ni), (nI nb), (nI nr), yopenOut, yinGroup, ycur, yfinalC0, yfinalC1, ystOp, ystA, ystB, ystOut, youtReg, youtLoaded, youtGroup, youtVma, youtLma, youtSize, youtAlign, youtRes, ygStart, ygEnd, yinKind, yinId, yinAlign, yinBss, yinStart, yinLen, yinStmt, yinLive, yinVma, yinLma, ybytes, yrSec, yrOff, yrType, yrTgt, yrAdd, yrom, yram) (nI k) := by
  have e : (nI k).toNatClampNeg = k := nI_clamp (by omega)
  have v8 : vp_in (nI k) 8 := vp_in_nI hk (by omega)
  have H : ∀ d i, i + d = S → wY_loadSection_2 post (nI k) (nI R0) (nI R1) yphase (nI ns) (nI no) (nI ng) (nI ni) (nI nb) (nI nr) yopenOut yinGroup ycur yfinalC0 yfinalC1 (d + 1) (nI i) ystOp ystA ystB ystOut youtReg youtLoaded youtGroup youtVma youtLma youtSize youtAlign youtRes ygStart ygEnd yinKind yinId yinAlign yinBss yinStart yinLen yinStmt yinLive yinVma yinLma ybytes yrSec yrOff yrType yrTgt yrAdd yrom (lk_wr yram (v - 256) (v + i - 256) (fun j => if youtLoaded k = 1 then yrom (l + (256 + j - v)) else 0)) := by
    intro d
    induction d with
    | zero =>
      intro i hi
      have e1 : i = S := hi
      subst e1
      exact ⟨v8, br_t (by rw [e, eS]; exact nI_le (by omega) (by omega)) h⟩
    | succ d ih =>
      intro i hi
      have hi2 := ih (i + 1) (by omega)
      have ex : youtVma (nI k).toNatClampNeg + nI i - 256 = nI (v + i - 256) := by
        rw [e, ev, nI_add]
        exact pk_sub (b := 256) (by omega)
      refine ⟨v8, br_f (by rw [e, eS]; exact nI_ge (by omega) (by omega)) (br_f (nI_ge (b := 1100) (by omega) (by omega)) ⟨v8, nm_r ex ⟨v8, nm_e ⟨v8, ?_⟩⟩⟩)⟩
      have w : ∀ z : Int32, z = (if youtLoaded k = 1 then yrom (l + (256 + (v + i - 256) - v)) else 0) → wY_loadSection_85 post (wY_loadSection_2 post (nI k) (nI R0) (nI R1) yphase (nI ns) (nI no) (nI ng) (nI ni) (nI nb) (nI nr) yopenOut yinGroup ycur yfinalC0 yfinalC1 (d + 1)) (nI k) (nI i) (nI (v + i - 256)) z (nI R0) (nI R1) yphase (nI ns) (nI no) (nI ng) (nI ni) (nI nb) (nI nr) yopenOut yinGroup ycur yfinalC0 yfinalC1 ystOp ystA ystB ystOut youtReg youtLoaded youtGroup youtVma youtLma youtSize youtAlign youtRes ygStart ygEnd yinKind yinId yinAlign yinBss yinStart yinLen yinStmt yinLive yinVma yinLma ybytes yrSec yrOff yrType yrTgt yrAdd yrom (lk_wr yram (v - 256) (v + i - 256) (fun j => if youtLoaded k = 1 then yrom (l + (256 + j - v)) else 0)) := by
        intro z hz
        refine br_f (nI_pos (by omega)) (br_f (nI_ge (by omega) (by omega)) ⟨vp_in_nI (by omega) (by omega), nm_r ?_ (nm_r (nI_1 i) hi2)⟩)
        rw [nI_clamp (by omega), show v + (i + 1) - 256 = v + i - 256 + 1 by omega]
        exact lk_wr_s (by omega) hz
      by_cases a : youtLoaded k = 1
      · have hb := hl a
        have e2 : youtLma (nI k).toNatClampNeg + nI i - 0 = nI (l + i) := by rw [e, el, nI_add, Int32.sub_zero]
        rw [e2]
        refine br_t (by rw [e]; exact a) (br_f (nI_pos (by omega)) (br_f (nI_ge (b := 128) (by omega) (by omega)) ⟨vp_in_nI (by omega) (by omega), w _ ?_⟩))
        rw [if_pos a, nI_clamp (by omega), show 256 + (v + i - 256) - v = i by omega]
      · exact br_f (by rw [e]; exact a) (w 0 (by rw [if_neg a]))
  have H2 := H S 0 (by omega)
  rw [lk_wr_e (show v + 0 - 256 ≤ v - 256 by omega)] at H2
  exact ⟨_, H2⟩
/-- a group's span made zero, an output section laid: both sides -/
theorem lk_M_zs {me rom ram : Nat → Int32} {a b : Nat} (h : lk_M me rom ram) (ha : 256 ≤ a) : lk_M (lk_wr me a b (fun _ => 0)) rom (lk_wr ram (a - 256) (b - 256) (fun _ => 0)) := lk_M_wr h ha (fun _ _ _ _ => rfl)
theorem lk_M_ls {me rom ram : Nat → Int32} {v d l : Nat} {ld : Int32} (h : lk_M me rom ram) (ha : 256 ≤ v) (hl : ld = 1 → l + (d - v) ≤ 128) : lk_M (lk_wr me v d (fun j => if ld = 1 then me (l + (j - v)) else 0)) rom (lk_wr ram (v - 256) (d - 256) (fun j => if ld = 1 then rom (l + (256 + j - v)) else 0)) := by
  refine lk_M_wr h ha (fun j hj h1 h2 => ?_)
  by_cases a : ld = 1
  · have hb := hl a
    rw [if_pos a, if_pos a]
    exact h.1 _ (by omega)
  · rw [if_neg a, if_neg a]
theorem lk_su1 {ns no ng ni nb nr R0 R1 : Nat} {xphase xopenOut xopenGroup yinGroup yfinalC0 yfinalC1 : Int32} {xregionSize xcounter xstmtOp xstmtA xstmtB xstmtOwner xoutRegion xoutLoaded xoutGroup xoutAlign xoutVma xoutLma xoutDot xgroupStart xgroupEnd xgroupResident xinKind xinId xinAlign xinSize xinFirstByte xinStmt xinLive xinVma xfedBytes xrelocOwner xrelocOffset xrelocType xrelocTarget xrelocAddend ystOut youtSize youtRes ygStart ygEnd yinBss yinLen yinVma yinLma yrom : Nat → Int32} (h8 : no ≤ 8) (h4 : ng ≤ 4) (hR : R0 ≤ 128 ∧ R1 ≤ 128) (hg : ∀ k, k < no → xoutGroup k = -1 ∨ ∃ g, g < ng ∧ xoutGroup k = nI g) (hgr : ∀ g, g < ng → ∃ a b, xgroupStart g = nI a ∧ ygStart g = nI a ∧ xgroupEnd g = nI b ∧ ygEnd g = nI b ∧ 256 ≤ a ∧ a ≤ b ∧ b < 2 ^ 30 ∧ (b = a ∨ b ≤ 256 + R1)) : ∀ d g, g + d = ng → ∀ me ram : Nat → Int32, lk_M me yrom ram → ∃ me' ram' : Nat → Int32, lk_M me' yrom ram' ∧
    (∀ post : Int32 → SX → Prop, (∃ n, wX_startup_45 post n 0 xphase (nI ns) xopenOut xopenGroup (nI no) (nI ng) (nI ni) (nI nb) (nI nr) xregionSize xcounter me' xstmtOp xstmtA xstmtB xstmtOwner xoutRegion xoutLoaded xoutGroup xoutAlign xoutVma xoutLma xoutDot xgroupStart xgroupEnd xgroupResident xinKind xinId xinAlign xinSize xinFirstByte xinStmt xinLive xinVma xfedBytes xrelocOwner xrelocOffset xrelocType xrelocTarget xrelocAddend) → wX_startup_12 post (d + 1) (nI g) xphase (nI ns) xopenOut xopenGroup (nI no) (nI ng) (nI ni) (nI nb) (nI nr) xregionSize xcounter me xstmtOp xstmtA xstmtB xstmtOwner xoutRegion xoutLoaded xoutGroup xoutAlign xoutVma xoutLma xoutDot xgroupStart xgroupEnd xgroupResident xinKind xinId xinAlign xinSize xinFirstByte xinStmt xinLive xinVma xfedBytes xrelocOwner xrelocOffset xrelocType xrelocTarget xrelocAddend) ∧
    (∀ post : Int32 → SY → Prop, (∃ n, wY_startup_38 post n 0 (nI R0) (nI R1) xphase (nI ns) (nI no) (nI ng) (nI ni) (nI nb) (nI nr) xopenOut yinGroup (nI ni - 1) yfinalC0 yfinalC1 xstmtOp xstmtA xstmtB ystOut xoutRegion xoutLoaded xoutGroup xoutVma xoutLma youtSize xoutAlign youtRes ygStart ygEnd xinKind xinId xinAlign yinBss xinFirstByte yinLen xinStmt xinLive yinVma yinLma xfedBytes xrelocOwner xrelocOffset xrelocType xrelocTarget xrelocAddend yrom ram') → wY_startup_12 post (d + 1) (nI g) (nI R0) (nI R1) xphase (nI ns) (nI no) (nI ng) (nI ni) (nI nb) (nI nr) xopenOut yinGroup (nI ni - 1) yfinalC0 yfinalC1 xstmtOp xstmtA xstmtB ystOut xoutRegion xoutLoaded xoutGroup xoutVma xoutLma youtSize xoutAlign youtRes ygStart ygEnd xinKind xinId xinAlign yinBss xinFirstByte yinLen xinStmt xinLive yinVma yinLma xfedBytes xrelocOwner xrelocOffset xrelocType xrelocTarget xrelocAddend yrom ram) := by
  intro d
  induction d with
  | zero =>
    intro g hgd me ram hM
    have e1 : g = ng := hgd
    subst e1
    exact ⟨me, ram, hM, fun post hp => br_t (nI_le (by omega) (by omega)) hp, fun post hp => br_t (nI_le (by omega) (by omega)) hp⟩
  | succ d ih =>
    intro g hgd me ram hM
    obtain ⟨a, b, s1, s2, s3, s4, s5, s6, s7, s8⟩ := hgr g (by omega)
    have e : (nI g).toNatClampNeg = g := nI_clamp (by omega)
    have v4 : vp_in (nI g) 4 := vp_in_nI (by omega) (by omega)
    have n1 : ¬ nI ng ≤ nI g := nI_ge (by omega) (by omega)
    have n2 : ¬ (4 : Int32) ≤ nI g := nI_ge (b := 4) (by omega) (by omega)
    obtain ⟨me', ram', j1, j2, j3⟩ := ih (g + 1) (by omega) _ _ (lk_M_zs (b := b) hM s5)
    exact ⟨me', ram', j1, fun post hp => br_f n1 ⟨v4, v4, lx_fill3 (by rw [e, s1]) (by rw [e, s3]) (by omega) (by omega) (nm_r (nI_1 g) (j2 post hp))⟩, fun post hp => br_f n1 (br_f n2 (ly_zs rfl (by omega) s2 s4 s5 s6 s7 s8 hR.2 (nm_r (nI_1 g) (j3 post hp))))⟩
theorem lk_su2 {ns no ng ni nb nr R0 R1 : Nat} {xphase xopenOut xopenGroup yinGroup yfinalC0 yfinalC1 : Int32} {xregionSize xcounter xstmtOp xstmtA xstmtB xstmtOwner xoutRegion xoutLoaded xoutGroup xoutAlign xoutVma xoutLma xoutDot xgroupStart xgroupEnd xgroupResident xinKind xinId xinAlign xinSize xinFirstByte xinStmt xinLive xinVma xfedBytes xrelocOwner xrelocOffset xrelocType xrelocTarget xrelocAddend ystOut youtSize youtRes ygStart ygEnd yinBss yinLen yinVma yinLma yrom : Nat → Int32} {V L D : Nat → Nat} (h8 : no ≤ 8) (h4 : ng ≤ 4) (hR : R0 ≤ 128 ∧ R1 ≤ 128) (hg : ∀ k, k < no → xoutGroup k = -1 ∨ ∃ g, g < ng ∧ xoutGroup k = nI g) (hk : ∀ k, k < no → xoutVma k = nI (V k) ∧ xoutLma k = nI (L k) ∧ xoutDot k = nI (D k) ∧ youtSize k = nI (D k - V k) ∧ V k ≤ D k ∧ (xoutRegion k = 1 → 256 ≤ V k ∧ D k ≤ 256 + R1) ∧ (xoutRegion k = 0 → D k ≤ R0) ∧ (xoutLoaded k = 1 → L k + (D k - V k) ≤ R0)) (hres : ∀ g, g < ng → xgroupResident g = lk_f1 xoutGroup no (nI g)) : ∀ d k, k + d = no → ∀ me ram : Nat → Int32, lk_M me yrom ram → ∃ me' ram' : Nat → Int32, lk_M me' yrom ram' ∧
    (∀ post : Int32 → SX → Prop, post 0 (2, (nI ns), xopenOut, xopenGroup, (nI no), (nI ng), (nI ni), (nI nb), (nI nr), xregionSize, xcounter, me', xstmtOp, xstmtA, xstmtB, xstmtOwner, xoutRegion, xoutLoaded, xoutGroup, xoutAlign, xoutVma, xoutLma, xoutDot, xgroupStart, xgroupEnd, xgroupResident, xinKind, xinId, xinAlign, xinSize, xinFirstByte, xinStmt, xinLive, xinVma, xfedBytes, xrelocOwner, xrelocOffset, xrelocType, xrelocTarget, xrelocAddend) → wX_startup_45 post (d + 1) (nI k) xphase (nI ns) xopenOut xopenGroup (nI no) (nI ng) (nI ni) (nI nb) (nI nr) xregionSize xcounter me xstmtOp xstmtA xstmtB xstmtOwner xoutRegion xoutLoaded xoutGroup xoutAlign xoutVma xoutLma xoutDot xgroupStart xgroupEnd xgroupResident xinKind xinId xinAlign xinSize xinFirstByte xinStmt xinLive xinVma xfedBytes xrelocOwner xrelocOffset xrelocType xrelocTarget xrelocAddend) ∧
    (∀ post : Int32 → SY → Prop, post 0 ((nI R0), (nI R1), 2, (nI ns), (nI no), (nI ng), (nI ni), (nI nb), (nI nr), xopenOut, yinGroup, (nI ni - 1), yfinalC0, yfinalC1, xstmtOp, xstmtA, xstmtB, ystOut, xoutRegion, xoutLoaded, xoutGroup, xoutVma, xoutLma, youtSize, xoutAlign, youtRes, ygStart, ygEnd, xinKind, xinId, xinAlign, yinBss, xinFirstByte, yinLen, xinStmt, xinLive, yinVma, yinLma, xfedBytes, xrelocOwner, xrelocOffset, xrelocType, xrelocTarget, xrelocAddend, yrom, ram') → wY_startup_38 post (d + 1) (nI k) (nI R0) (nI R1) xphase (nI ns) (nI no) (nI ng) (nI ni) (nI nb) (nI nr) xopenOut yinGroup (nI ni - 1) yfinalC0 yfinalC1 xstmtOp xstmtA xstmtB ystOut xoutRegion xoutLoaded xoutGroup xoutVma xoutLma youtSize xoutAlign youtRes ygStart ygEnd xinKind xinId xinAlign yinBss xinFirstByte yinLen xinStmt xinLive yinVma yinLma xfedBytes xrelocOwner xrelocOffset xrelocType xrelocTarget xrelocAddend yrom ram) := by
  intro d
  induction d with
  | zero =>
    intro k hkd me ram hM
    have e1 : k = no := hkd
    subst e1
    exact ⟨me, ram, hM, fun post hp => br_t (nI_le (by omega) (by omega)) hp, fun post hp => br_t (nI_le (by omega) (by omega)) hp⟩
  | succ d ih =>
    intro k hkd me ram hM
    obtain ⟨t1, t2, t3, t4, t5, t6, t7, t8⟩ := hk k (by omega)
    have e : (nI k).toNatClampNeg = k := nI_clamp (by omega)
    have v8 : vp_in (nI k) 8 := vp_in_nI (by omega) (by omega)
    have n1 : ¬ nI no ≤ nI k := nI_ge (by omega) (by omega)
    have n2 : ¬ (8 : Int32) ≤ nI k := nI_ge (b := 8) (by omega) (by omega)
    by_cases r : xoutRegion k = 1
    · obtain ⟨t9, t10⟩ := t6 r
      have r' : xoutRegion (nI k).toNatClampNeg = 1 := by rw [e]; exact r
      have hl8 : xoutLoaded k = 1 → L k + (D k - V k) ≤ 128 := fun z => by have := t8 z; omega
      have hl8' : xoutLoaded k = 1 → L k + (D k - V k) ≤ 128 := hl8
      have lay : ∃ me' ram' : Nat → Int32, lk_M me' yrom ram' ∧
          (∀ post : Int32 → SX → Prop, post 0 (2, (nI ns), xopenOut, xopenGroup, (nI no), (nI ng), (nI ni), (nI nb), (nI nr), xregionSize, xcounter, me', xstmtOp, xstmtA, xstmtB, xstmtOwner, xoutRegion, xoutLoaded, xoutGroup, xoutAlign, xoutVma, xoutLma, xoutDot, xgroupStart, xgroupEnd, xgroupResident, xinKind, xinId, xinAlign, xinSize, xinFirstByte, xinStmt, xinLive, xinVma, xfedBytes, xrelocOwner, xrelocOffset, xrelocType, xrelocTarget, xrelocAddend) → wX_startup_81 post (wX_startup_45 post (d + 1)) (nI k) xphase (nI ns) xopenOut xopenGroup (nI no) (nI ng) (nI ni) (nI nb) (nI nr) xregionSize xcounter me xstmtOp xstmtA xstmtB xstmtOwner xoutRegion xoutLoaded xoutGroup xoutAlign xoutVma xoutLma xoutDot xgroupStart xgroupEnd xgroupResident xinKind xinId xinAlign xinSize xinFirstByte xinStmt xinLive xinVma xfedBytes xrelocOwner xrelocOffset xrelocType xrelocTarget xrelocAddend) ∧
          (∀ post : Int32 → SY → Prop, post 0 ((nI R0), (nI R1), 2, (nI ns), (nI no), (nI ng), (nI ni), (nI nb), (nI nr), xopenOut, yinGroup, (nI ni - 1), yfinalC0, yfinalC1, xstmtOp, xstmtA, xstmtB, ystOut, xoutRegion, xoutLoaded, xoutGroup, xoutVma, xoutLma, youtSize, xoutAlign, youtRes, ygStart, ygEnd, xinKind, xinId, xinAlign, yinBss, xinFirstByte, yinLen, xinStmt, xinLive, yinVma, yinLma, xfedBytes, xrelocOwner, xrelocOffset, xrelocType, xrelocTarget, xrelocAddend, yrom, ram') → wY_startup_85 post (wY_startup_38 post (d + 1)) (nI k) (nI R0) (nI R1) xphase (nI ns) (nI no) (nI ng) (nI ni) (nI nb) (nI nr) xopenOut yinGroup (nI ni - 1) yfinalC0 yfinalC1 xstmtOp xstmtA xstmtB ystOut xoutRegion xoutLoaded xoutGroup xoutVma xoutLma youtSize xoutAlign youtRes ygStart ygEnd xinKind xinId xinAlign yinBss xinFirstByte yinLen xinStmt xinLive yinVma yinLma xfedBytes xrelocOwner xrelocOffset xrelocType xrelocTarget xrelocAddend yrom ram) := by
        obtain ⟨me', ram', j1, j2, j3⟩ := ih (k + 1) (by omega) _ _ (lk_M_ls (d := D k) (ld := xoutLoaded k) hM t9 hl8)
        refine ⟨me', ram', j1, fun post hp => lx_ini (by omega) t1 t3 t2 t5 t9 (by omega) hl8 (nm_r (nI_1 k) (j2 post hp)), fun post hp => ly_ls (v := V k) (l := L k) (S := D k - V k) (by omega) t1 t2 t4 t9 (by omega) hR.2 hl8' ?_⟩
        have hj := j3 post hp
        rw [show D k - 256 = V k + (D k - V k) - 256 by omega] at hj
        exact nm_r (nI_1 k) hj
      have skip := ih (k + 1) (by omega) me ram hM
      rcases hg k (by omega) with z | ⟨g, hgn, z⟩
      · obtain ⟨me', ram', j1, j2, j3⟩ := lay
        exact ⟨me', ram', j1, fun post hp => br_f n1 ⟨v8, br_t r' ⟨v8, br_t (by rw [e]; exact z) (j2 post hp)⟩⟩, fun post hp => br_f n1 (br_f n2 ⟨v8, br_t r' ⟨v8, br_t (by rw [e, z]; decide) (j3 post hp)⟩⟩)⟩
      · have eg : (nI g).toNatClampNeg = g := nI_clamp (by omega)
        have z' : xoutGroup (nI k).toNatClampNeg = nI g := by rw [e]; exact z
        have nz : ¬ xoutGroup (nI k).toNatClampNeg = -1 := by rw [z']; exact lk_nn1 (by omega)
        have nl : ¬ xoutGroup (nI k).toNatClampNeg < 0 := by rw [z']; exact nI_pos (by omega)
        have vg : vp_in (xoutGroup (nI k).toNatClampNeg) 4 := by rw [z']; exact vp_in_nI (by omega) (by omega)
        by_cases c : lk_f1 xoutGroup no (nI g) = nI k
        · obtain ⟨me', ram', j1, j2, j3⟩ := lay
          exact ⟨me', ram', j1, fun post hp => br_f n1 ⟨v8, br_t r' ⟨v8, br_f nz ⟨v8, br_f nz ⟨v8, vg, br_t (by rw [z', eg, hres g hgn]; exact c) (br_f (by decide) (j2 post hp))⟩⟩⟩⟩, fun post hp => br_f n1 (br_f n2 ⟨v8, br_t r' ⟨v8, br_f nl ⟨v8, ly_f1 h8 (br_t (by rw [z']; exact c) (j3 post hp))⟩⟩⟩)⟩
        · obtain ⟨me', ram', j1, j2, j3⟩ := skip
          exact ⟨me', ram', j1, fun post hp => br_f n1 ⟨v8, br_t r' ⟨v8, br_f nz ⟨v8, br_f nz ⟨v8, vg, br_f (by rw [z', eg, hres g hgn]; exact c) (br_t rfl (nm_r (nI_1 k) (j2 post hp)))⟩⟩⟩⟩, fun post hp => br_f n1 (br_f n2 ⟨v8, br_t r' ⟨v8, br_f nl ⟨v8, ly_f1 h8 (br_f (by rw [z']; exact c) (nm_r (nI_1 k) (j3 post hp)))⟩⟩⟩)⟩
    · have r' : ¬ xoutRegion (nI k).toNatClampNeg = 1 := by rw [e]; exact r
      obtain ⟨me', ram', j1, j2, j3⟩ := ih (k + 1) (by omega) me ram hM
      exact ⟨me', ram', j1, fun post hp => br_f n1 ⟨v8, br_f r' (nm_r (nI_1 k) (j2 post hp))⟩, fun post hp => br_f n1 (br_f n2 ⟨v8, br_f r' (nm_r (nI_1 k) (j3 post hp))⟩)⟩
end
end
section

section
/-! AK: startup and loadOverlay -/
theorem i_vc_startup {k : Nat} {u : SX} {v : SY} (I : i_Rel k u v) (hk : k + 5 ≤ 2562) : wpX_startup (fun r u' => wpY_startup (fun r' v' => r' = r ∧ i_Rel (k + 5) u' v') v) u := by
  have J := i_up I
  obtain ⟨ns, no, ng, ni, nb, nr, R0, R1, xphase, xopenOut, xopenGroup, yinGroup, yfinalC0, yfinalC1, xregionSize, xcounter, xmemory, xstmtOp, xstmtA, xstmtB, xstmtOwner, xoutRegion, xoutLoaded, xoutGroup, xoutAlign, xoutVma, xoutLma, xoutDot, xgroupStart, xgroupEnd, xgroupResident, xinKind, xinId, xinAlign, xinSize, xinFirstByte, xinStmt, xinLive, xinVma, xfedBytes, xrelocOwner, xrelocOffset, xrelocType, xrelocTarget, xrelocAddend, ystOut, youtSize, youtRes, ygStart, ygEnd, yinBss, yinLen, yinVma, yinLma, yrom, yram, rfl, rfl, hS, hN, hQ, hZ, hM, hP⟩ := I
  rcases Decidable.em (xphase = 1) with hp | hp
  · rcases hP with ⟨h, _⟩ | ⟨_, hL⟩
    · rw [hp] at h; exact absurd h (by decide)
    · have hof := lk_S_of hS
      obtain ⟨c1, c2, c3, _⟩ := id hS
      have hR : R0 ≤ 128 ∧ R1 ≤ 128 := ⟨hZ.2.2.2.1, hZ.2.2.2.2.2⟩
      have hg : ∀ k, k < no → xoutGroup k = -1 ∨ ∃ g, g < ng ∧ xoutGroup k = nI g := fun k hkn => by
        rcases hof k hkn with ⟨_, _, z⟩ | ⟨_, _, z⟩
        · exact Or.inl z
        · exact z
      obtain ⟨V, L, D, IV, h1, h2, h3, h4, h5, h6, h7, h9⟩ := id hL
      obtain ⟨me1, ram1, m1, x1, y1⟩ := lk_su1 (ns := ns) (no := no) (ng := ng) (ni := ni) (nb := nb) (nr := nr) (R0 := R0) (R1 := R1) (xphase := xphase) (xopenOut := xopenOut) (xopenGroup := xopenGroup) (yinGroup := yinGroup) (yfinalC0 := yfinalC0) (yfinalC1 := yfinalC1) (xregionSize := xregionSize) (xcounter := xcounter) (xstmtOp := xstmtOp) (xstmtA := xstmtA) (xstmtB := xstmtB) (xstmtOwner := xstmtOwner) (xoutRegion := xoutRegion) (xoutLoaded := xoutLoaded) (xoutGroup := xoutGroup) (xoutAlign := xoutAlign) (xoutVma := xoutVma) (xoutLma := xoutLma) (xoutDot := xoutDot) (xgroupStart := xgroupStart) (xgroupEnd := xgroupEnd) (xgroupResident := xgroupResident) (xinKind := xinKind) (xinId := xinId) (xinAlign := xinAlign) (xinSize := xinSize) (xinFirstByte := xinFirstByte) (xinStmt := xinStmt) (xinLive := xinLive) (xinVma := xinVma) (xfedBytes := xfedBytes) (xrelocOwner := xrelocOwner) (xrelocOffset := xrelocOffset) (xrelocType := xrelocType) (xrelocTarget := xrelocTarget) (xrelocAddend := xrelocAddend) (ystOut := ystOut) (youtSize := youtSize) (youtRes := youtRes) (ygStart := ygStart) (ygEnd := ygEnd) (yinBss := yinBss) (yinLen := yinLen) (yinVma := yinVma) (yinLma := yinLma) (yrom := yrom) c2 c3 hR hg h3 ng 0 (by omega) xmemory yram hM
      obtain ⟨me2, ram2, m2, x2, y2⟩ := lk_su2 (ns := ns) (no := no) (ng := ng) (ni := ni) (nb := nb) (nr := nr) (R0 := R0) (R1 := R1) (xphase := xphase) (xopenOut := xopenOut) (xopenGroup := xopenGroup) (yinGroup := yinGroup) (yfinalC0 := yfinalC0) (yfinalC1 := yfinalC1) (xregionSize := xregionSize) (xcounter := xcounter) (xstmtOp := xstmtOp) (xstmtA := xstmtA) (xstmtB := xstmtB) (xstmtOwner := xstmtOwner) (xoutRegion := xoutRegion) (xoutLoaded := xoutLoaded) (xoutGroup := xoutGroup) (xoutAlign := xoutAlign) (xoutVma := xoutVma) (xoutLma := xoutLma) (xoutDot := xoutDot) (xgroupStart := xgroupStart) (xgroupEnd := xgroupEnd) (xgroupResident := xgroupResident) (xinKind := xinKind) (xinId := xinId) (xinAlign := xinAlign) (xinSize := xinSize) (xinFirstByte := xinFirstByte) (xinStmt := xinStmt) (xinLive := xinLive) (xinVma := xinVma) (xfedBytes := xfedBytes) (xrelocOwner := xrelocOwner) (xrelocOffset := xrelocOffset) (xrelocType := xrelocType) (xrelocTarget := xrelocTarget) (xrelocAddend := xrelocAddend) (ystOut := ystOut) (youtSize := youtSize) (youtRes := youtRes) (ygStart := ygStart) (ygEnd := ygEnd) (yinBss := yinBss) (yinLen := yinLen) (yinVma := yinVma) (yinLma := yinLma) (yrom := yrom) c2 c3 hR hg h2 (h9 hp) no 0 (by omega) me1 ram1 m1
      have R : i_Rel (k + 5) (2, (nI ns), xopenOut, xopenGroup, (nI no), (nI ng), (nI ni), (nI nb), (nI nr), xregionSize, xcounter, me2, xstmtOp, xstmtA, xstmtB, xstmtOwner, xoutRegion, xoutLoaded, xoutGroup, xoutAlign, xoutVma, xoutLma, xoutDot, xgroupStart, xgroupEnd, xgroupResident, xinKind, xinId, xinAlign, xinSize, xinFirstByte, xinStmt, xinLive, xinVma, xfedBytes, xrelocOwner, xrelocOffset, xrelocType, xrelocTarget, xrelocAddend) ((nI R0), (nI R1), 2, (nI ns), (nI no), (nI ng), (nI ni), (nI nb), (nI nr), xopenOut, yinGroup, (nI ni - 1), yfinalC0, yfinalC1, xstmtOp, xstmtA, xstmtB, ystOut, xoutRegion, xoutLoaded, xoutGroup, xoutVma, xoutLma, youtSize, xoutAlign, youtRes, ygStart, ygEnd, xinKind, xinId, xinAlign, yinBss, xinFirstByte, yinLen, xinStmt, xinLive, yinVma, yinLma, xfedBytes, xrelocOwner, xrelocOffset, xrelocType, xrelocTarget, xrelocAddend, yrom, ram2) := ⟨ns, no, ng, ni, nb, nr, R0, R1, 2, xopenOut, xopenGroup, yinGroup, yfinalC0, yfinalC1, xregionSize, xcounter, me2, xstmtOp, xstmtA, xstmtB, xstmtOwner, xoutRegion, xoutLoaded, xoutGroup, xoutAlign, xoutVma, xoutLma, xoutDot, xgroupStart, xgroupEnd, xgroupResident, xinKind, xinId, xinAlign, xinSize, xinFirstByte, xinStmt, xinLive, xinVma, xfedBytes, xrelocOwner, xrelocOffset, xrelocType, xrelocTarget, xrelocAddend, ystOut, youtSize, youtRes, ygStart, ygEnd, yinBss, yinLen, yinVma, yinLma, yrom, ram2, rfl, rfl, hS, hN, hQ, hZ, m2, Or.inr ⟨Or.inr rfl, lk_L_st hL hR.1 (fun j hj => (m2.1 j hj).trans (hM.1 j hj).symm) (by decide)⟩⟩
      exact br_t hp ⟨_, x1 _ ⟨_, x2 _ (br_t hp ⟨_, y1 _ ⟨_, y2 _ ⟨rfl, R⟩⟩⟩)⟩⟩
  · exact br_f hp (br_f hp ⟨rfl, J⟩)
theorem ly_53 {post : Int32 → SY → Prop} {R0 R1 ns no ng ni nb nr : Nat} {yphase yopenOut yinGroup ycur yfinalC0 yfinalC1 : Int32} {ystOp ystA ystB ystOut youtReg youtLoaded youtGroup youtVma youtLma youtSize youtAlign youtRes ygStart ygEnd yinKind yinId yinAlign yinBss yinStart yinLen yinStmt yinLive yinVma yinLma ybytes yrSec yrOff yrType yrTgt yrAdd yrom yram : Nat → Int32} {g j : Nat} (h8 : no ≤ 8) (hj : j < no) (hg4 : g < 4) (h : post 0 ((nI R0), (nI R1), yphase, (nI ns), (nI no), (nI ng), (nI ni), (nI nb), (nI nr), yopenOut, yinGroup, ycur, yfinalC0, yfinalC1, ystOp, ystA, ystB, ystOut, youtReg, youtLoaded, youtGroup, youtVma, youtLma, youtSize, youtAlign, (lk_om youtGroup youtRes g j no), ygStart, ygEnd, yinKind, yinId, yinAlign, yinBss, yinStart, yinLen, yinStmt, yinLive, yinVma, yinLma, ybytes, yrSec, yrOff, yrType, yrTgt, yrAdd, yrom, yram)) : ∃ n, wY_loadOverlay_53 post (nI j) (nI g) (nI R0) (nI R1) yphase (nI ns) (nI no) (nI ng) (nI ni) (nI nb) (nI nr) yopenOut yinGroup ycur yfinalC0 yfinalC1 n 0 ystOp ystA ystB ystOut youtReg youtLoaded youtGroup youtVma youtLma youtSize youtAlign youtRes ygStart ygEnd yinKind yinId yinAlign yinBss yinStart yinLen yinStmt yinLive yinVma yinLma ybytes yrSec yrOff yrType yrTgt yrAdd yrom yram := by
  have H : ∀ d x, x + d = no → wY_loadOverlay_53 post (nI j) (nI g) (nI R0) (nI R1) yphase (nI ns) (nI no) (nI ng) (nI ni) (nI nb) (nI nr) yopenOut yinGroup ycur yfinalC0 yfinalC1 (d + 1) (nI x) ystOp ystA ystB ystOut youtReg youtLoaded youtGroup youtVma youtLma youtSize youtAlign (lk_om youtGroup youtRes g j x) ygStart ygEnd yinKind yinId yinAlign yinBss yinStart yinLen yinStmt yinLive yinVma yinLma ybytes yrSec yrOff yrType yrTgt yrAdd yrom yram := by
    intro d
    induction d with
    | zero =>
      intro x hx
      have e1 : x = no := hx
      subst e1
      exact br_t (nI_le (by omega) (by omega)) h
    | succ d ih =>
      intro x hx
      have e : (nI x).toNatClampNeg = x := nI_clamp (by omega)
      have v8 : vp_in (nI x) 8 := vp_in_nI (by omega) (by omega)
      have hi := ih (x + 1) (by omega)
      refine br_f (nI_ge (by omega) (by omega)) (br_f (nI_ge (b := 8) (by omega) (by omega)) ⟨v8, ?_⟩)
      by_cases a : youtGroup x = nI g
      · refine br_t (by rw [e]; exact a) ?_
        by_cases b : x = j
        · refine br_t (by rw [b]) ⟨v8, nm_r ?_ (nm_r (nI_1 x) hi)⟩
          rw [e]
          exact lk_om_s a (if_pos b).symm
        · refine br_f (by rw [nI_eq (by omega) (by omega)]; exact b) ⟨v8, nm_r ?_ (nm_r (nI_1 x) hi)⟩
          rw [e]
          exact lk_om_s a (if_neg b).symm
      · refine br_f (by rw [e]; exact a) (nm_r (nI_1 x) ?_)
        rw [lk_om_n a] at hi
        exact hi
  have H2 := H no 0 (by omega)
  rw [lk_om_0] at H2
  exact ⟨_, H2⟩
theorem i_vc_loadOverlay {k : Nat} {u : SX} {v : SY} (I : i_Rel k u v) (hk : k + 5 ≤ 2562) (v1 : Int32) : wpX_loadOverlay (fun r u' => wpY_loadOverlay (fun r' v' => r' = r ∧ i_Rel (k + 5) u' v') v v1) u v1 := by
  have J := i_up I
  obtain ⟨ns, no, ng, ni, nb, nr, R0, R1, xphase, xopenOut, xopenGroup, yinGroup, yfinalC0, yfinalC1, xregionSize, xcounter, xmemory, xstmtOp, xstmtA, xstmtB, xstmtOwner, xoutRegion, xoutLoaded, xoutGroup, xoutAlign, xoutVma, xoutLma, xoutDot, xgroupStart, xgroupEnd, xgroupResident, xinKind, xinId, xinAlign, xinSize, xinFirstByte, xinStmt, xinLive, xinVma, xfedBytes, xrelocOwner, xrelocOffset, xrelocType, xrelocTarget, xrelocAddend, ystOut, youtSize, youtRes, ygStart, ygEnd, yinBss, yinLen, yinVma, yinLma, yrom, yram, rfl, rfl, hS, hN, hQ, hZ, hM, hP⟩ := I
  rcases Decidable.em (xphase = 2) with hp | hp
  · rcases hP with ⟨h, _⟩ | ⟨_, hL⟩
    · rw [hp] at h; exact absurd h (by decide)
    · have hof := lk_S_of hS
      obtain ⟨c1, c2, c3, _⟩ := id hS
      have hR : R0 ≤ 128 ∧ R1 ≤ 128 := ⟨hZ.2.2.2.1, hZ.2.2.2.2.2⟩
      have hg : ∀ k, k < no → xoutGroup k = -1 ∨ ∃ g, g < ng ∧ xoutGroup k = nI g := fun k hkn => by
        rcases hof k hkn with ⟨_, _, z⟩ | ⟨_, _, z⟩
        · exact Or.inl z
        · exact z
      obtain ⟨V, L, D, IV, h1, h2, h3, h4, h5, h6, h7, h9⟩ := id hL
      rcases pk_ix v1 (n := no) (by omega) with h | h | ⟨j, hj, rfl⟩
      · exact br_t hp (br_t h (br_t hp (br_t h ⟨rfl, J⟩)))
      · have n0 : ¬ v1 < 0 := Int32.not_lt.mpr (Int32.le_trans (nI_pos' (by omega)) h)
        exact br_t hp (br_f n0 (br_t h (br_t hp (br_f n0 (br_t h ⟨rfl, J⟩)))))
      · have e : (nI j).toNatClampNeg = j := nI_clamp (by omega)
        have v8 : vp_in (nI j) 8 := vp_in_nI (by omega) (by omega)
        have n0 : ¬ nI j < 0 := nI_pos (by omega)
        have n1 : ¬ nI no ≤ nI j := nI_ge hj (by omega)
        rcases hg j hj with z | ⟨g, hgn, z⟩
        · exact br_t hp (br_f n0 (br_f n1 ⟨v8, br_t (by rw [e]; exact z) (br_t hp (br_f n0 (br_f n1 ⟨v8, br_f (by rw [e, z]; decide) ⟨rfl, J⟩⟩)))⟩))
        · have eg : (nI g).toNatClampNeg = g := nI_clamp (by omega)
          have v4 : vp_in (nI g) 4 := vp_in_nI (by omega) (by omega)
          have z' : xoutGroup (nI j).toNatClampNeg = nI g := by rw [e]; exact z
          have nz : ¬ xoutGroup (nI j).toNatClampNeg = -1 := by rw [z']; exact lk_nn1 (by omega)
          have nl : 0 ≤ xoutGroup (nI j).toNatClampNeg := by rw [z']; exact nI_pos' (by omega)
          have r1 : xoutRegion j = 1 := by
            rcases hof j hj with ⟨_, _, y⟩ | ⟨y, _⟩
            · rw [z] at y; exact absurd y (lk_nn1 (by omega))
            · exact y
          obtain ⟨a, b, s1, s2, s3, s4, s5, s6, s7, s8⟩ := h3 g hgn
          obtain ⟨t1, t2, t3, t4, t5, t6, t7, t8⟩ := h2 j hj
          obtain ⟨t9, t10⟩ := t6 r1
          have hl8 : xoutLoaded j = 1 → L j + (D j - V j) ≤ 128 := fun y => by have := t8 y; omega
          have m2 := lk_M_ls (d := D j) (ld := xoutLoaded j) (lk_M_zs (b := b) hM s5) t9 hl8
          refine br_t hp (br_f n0 (br_f n1 ⟨v8, br_f nz ⟨v8, nm_r z' ⟨v4, v4, lx_fill3 (by rw [eg, s1]) (by rw [eg, s3]) (by omega) (by omega) (lx_ini (by omega) t1 t3 t2 t5 t9 (by omega) hl8 ⟨v4, nm_r (e' := upd xgroupResident g (nI j)) (by rw [eg]) ?_⟩)⟩⟩⟩))
          refine br_t hp (br_f n0 (br_f n1 ⟨v8, br_t nl ⟨v8, nm_r z' (ly_zs rfl (by omega) s2 s4 s5 s6 s7 s8 hR.2 (ly_ls (v := V j) (l := L j) (S := D j - V j) (by omega) t1 t2 t4 t9 (by omega) hR.2 hl8 (ly_53 c2 hj (by omega) ⟨rfl, ?_⟩)))⟩⟩))
          rw [show D j - 256 = V j + (D j - V j) - 256 by omega] at m2
          exact ⟨ns, no, ng, ni, nb, nr, R0, R1, xphase, xopenOut, xopenGroup, yinGroup, yfinalC0, yfinalC1, xregionSize, xcounter, _, xstmtOp, xstmtA, xstmtB, xstmtOwner, xoutRegion, xoutLoaded, xoutGroup, xoutAlign, xoutVma, xoutLma, xoutDot, xgroupStart, xgroupEnd, _, xinKind, xinId, xinAlign, xinSize, xinFirstByte, xinStmt, xinLive, xinVma, xfedBytes, xrelocOwner, xrelocOffset, xrelocType, xrelocTarget, xrelocAddend, ystOut, youtSize, _, ygStart, ygEnd, yinBss, yinLen, yinVma, yinLma, yrom, _, rfl, rfl, hS, hN, hQ, hZ, m2, Or.inr ⟨Or.inr hp, lk_L_ov hL hR.1 (fun i hi => (m2.1 i hi).trans (hM.1 i hi).symm) (by rw [hp]; decide) c2 c3 hg hj hgn z⟩⟩
  · exact br_f hp (br_f hp ⟨rfl, J⟩)
end
end
section

section
/-! AL: runByte -/
theorem lx_cov {post : Int32 → Prop} {ns no ng ni nb nr : Nat} {xphase xopenOut xopenGroup : Int32} {xregionSize xcounter xmemory xstmtOp xstmtA xstmtB xstmtOwner xoutRegion xoutLoaded xoutGroup xoutAlign xoutVma xoutLma xoutDot xgroupStart xgroupEnd xgroupResident xinKind xinId xinAlign xinSize xinFirstByte xinStmt xinLive xinVma xfedBytes xrelocOwner xrelocOffset xrelocType xrelocTarget xrelocAddend : Nat → Int32} {k x v d : Nat} (hk : k < 8) (hx : x < 2 ^ 30) (hd : d < 2 ^ 30) (hv : v < 2 ^ 30) (ev : xoutVma k = nI v) (ed : xoutDot k = nI d) (h1 : v ≤ x → x < d → post 1) (h0 : ¬ (v ≤ x ∧ x < d) → post 0) : wpX_covers post (xphase, (nI ns), xopenOut, xopenGroup, (nI no), (nI ng), (nI ni), (nI nb), (nI nr), xregionSize, xcounter, xmemory, xstmtOp, xstmtA, xstmtB, xstmtOwner, xoutRegion, xoutLoaded, xoutGroup, xoutAlign, xoutVma, xoutLma, xoutDot, xgroupStart, xgroupEnd, xgroupResident, xinKind, xinId, xinAlign, xinSize, xinFirstByte, xinStmt, xinLive, xinVma, xfedBytes, xrelocOwner, xrelocOffset, xrelocType, xrelocTarget, xrelocAddend) (nI k) (nI x) := by
  have e : (nI k).toNatClampNeg = k := nI_clamp (by omega)
  have v8 : vp_in (nI k) 8 := vp_in_nI hk (by omega)
  refine ⟨v8, ?_⟩
  by_cases a : v ≤ x
  · refine br_f (by rw [e, ev]; exact nI_nlt a (by omega)) ⟨v8, ?_⟩
    by_cases b : x < d
    · exact br_f (by rw [e, ed]; exact nI_ge b (by omega)) (h1 a b)
    · exact br_t (by rw [e, ed]; exact nI_le (by omega) (by omega)) (h0 (fun z => b z.2))
  · exact br_t (by rw [e, ev]; exact nI_lt (by omega) (by omega)) (h0 (fun z => a z.1))
theorem lk_ans {ni nr no : Nat} {ystOut xinKind xinStmt xinLive yinLen xinFirstByte xfedBytes xrelocOwner xrelocOffset xrelocType xrelocTarget xrelocAddend yinVma yinLma xmemory xoutLoaded : Nat → Int32} {V L D : Nat → Nat} {k x : Nat} (him : ∀ k off, k < no → off < D k - V k → (xoutLoaded k = 1 → xmemory (L k + off) = lk_ib ni nr ystOut xinKind xinStmt xinLive yinLen xinFirstByte xfedBytes xrelocOwner xrelocOffset xrelocType xrelocTarget xrelocAddend yinVma yinLma (nI k) (nI (V k + off))) ∧ (¬ xoutLoaded k = 1 → lk_ib ni nr ystOut xinKind xinStmt xinLive yinLen xinFirstByte xfedBytes xrelocOwner xrelocOffset xrelocType xrelocTarget xrelocAddend yinVma yinLma (nI k) (nI (V k + off)) = 0)) (hk : k < no) (h1 : V k ≤ x) (h2 : x < D k) : lk_ib ni nr ystOut xinKind xinStmt xinLive yinLen xinFirstByte xfedBytes xrelocOwner xrelocOffset xrelocType xrelocTarget xrelocAddend yinVma yinLma (nI k) (nI x) = if xoutLoaded k = 1 then xmemory (L k + (x - V k)) else 0 := by
  have h := him k (x - V k) hk (by omega)
  rw [show V k + (x - V k) = x by omega] at h
  by_cases a : xoutLoaded k = 1
  · rw [if_pos a, h.1 a]
  · rw [if_neg a, h.2 a]
theorem ly_175 {post : Int32 → Prop} {ns no ng ni nb nr R0 R1 : Nat} {xphase xopenOut yinGroup yfinalC0 yfinalC1 : Int32} {xstmtOp xstmtA xstmtB xoutRegion xoutLoaded xoutGroup xoutAlign xoutVma xoutLma xoutDot xinKind xinId xinAlign xinFirstByte xinStmt xinLive xfedBytes xrelocOwner xrelocOffset xrelocType xrelocTarget xrelocAddend ystOut youtSize youtRes ygStart ygEnd yinBss yinLen yinVma yinLma yrom yram : Nat → Int32} {V L D IV : Nat → Nat} {g x : Nat} (h8 : no ≤ 8) (h4 : ng ≤ 4) (hR : R0 ≤ 128 ∧ R1 ≤ 128) (hg : ∀ k, k < no → xoutGroup k = -1 ∨ ∃ g, g < ng ∧ xoutGroup k = nI g) (hrg : ∀ k, k < no → xoutRegion k = 0 ∨ xoutRegion k = 1) (hk : ∀ k, k < no → xoutVma k = nI (V k) ∧ xoutLma k = nI (L k) ∧ xoutDot k = nI (D k) ∧ youtSize k = nI (D k - V k) ∧ V k ≤ D k ∧ (xoutRegion k = 1 → 256 ≤ V k ∧ D k ≤ 256 + R1) ∧ (xoutRegion k = 0 → D k ≤ R0) ∧ (xoutLoaded k = 1 → L k + (D k - V k) ≤ R0)) (hq : lk_hq ni nr xrelocOwner xrelocTarget) (hv : ∀ s, s < ni → xinLive s = 1 → ∃ q, q < 32 ∧ xinStmt s = nI q ∧ yinVma s = nI (IV s) ∧ IV s < 2 ^ 30) (hb : ∀ s, s < ni → ∃ T Z, xinFirstByte s = nI T ∧ yinLen s = nI Z ∧ T + Z ≤ 256) (hg4 : g < 4) (hx : x < 2 ^ 30) (h : post (lk_fv (fun k => decide (xoutGroup k = nI g ∧ youtRes k = 1 ∧ V k ≤ x ∧ x < D k)) (fun k => lk_ib ni nr ystOut xinKind xinStmt xinLive yinLen xinFirstByte xfedBytes xrelocOwner xrelocOffset xrelocType xrelocTarget xrelocAddend yinVma yinLma (nI k) (nI x)) no 0)) : ∃ n, wY_runByte_175 post (nI x) (nI g) (nI R0) (nI R1) xphase (nI ns) (nI no) (nI ng) (nI ni) (nI nb) (nI nr) xopenOut yinGroup (nI ni - 1) yfinalC0 yfinalC1 xstmtOp xstmtA xstmtB ystOut xoutRegion xoutLoaded xoutGroup xoutVma xoutLma youtSize xoutAlign youtRes ygStart ygEnd xinKind xinId xinAlign yinBss xinFirstByte yinLen xinStmt xinLive yinVma yinLma xfedBytes xrelocOwner xrelocOffset xrelocType xrelocTarget xrelocAddend yrom yram n 0 := by
  have H : ∀ d k, k + d = no → post (lk_fv (fun k => decide (xoutGroup k = nI g ∧ youtRes k = 1 ∧ V k ≤ x ∧ x < D k)) (fun k => lk_ib ni nr ystOut xinKind xinStmt xinLive yinLen xinFirstByte xfedBytes xrelocOwner xrelocOffset xrelocType xrelocTarget xrelocAddend yinVma yinLma (nI k) (nI x)) d k) → wY_runByte_175 post (nI x) (nI g) (nI R0) (nI R1) xphase (nI ns) (nI no) (nI ng) (nI ni) (nI nb) (nI nr) xopenOut yinGroup (nI ni - 1) yfinalC0 yfinalC1 xstmtOp xstmtA xstmtB ystOut xoutRegion xoutLoaded xoutGroup xoutVma xoutLma youtSize xoutAlign youtRes ygStart ygEnd xinKind xinId xinAlign yinBss xinFirstByte yinLen xinStmt xinLive yinVma yinLma xfedBytes xrelocOwner xrelocOffset xrelocType xrelocTarget xrelocAddend yrom yram (d + 1) (nI k) := by
    intro d
    induction d with
    | zero => intro k hkd h; exact br_t (nI_le (by omega) (by omega)) h
    | succ d ih =>
      intro k hkd h
      obtain ⟨t1, t2, t3, t4, t5, t6, t7, t8⟩ := hk k (by omega)
      have e : (nI k).toNatClampNeg = k := nI_clamp (by omega)
      have v8 : vp_in (nI k) 8 := vp_in_nI (by omega) (by omega)
      have n1 : ¬ nI no ≤ nI k := nI_ge (by omega) (by omega)
      have n2 : ¬ (8 : Int32) ≤ nI k := nI_ge (b := 8) (by omega) (by omega)
      have hn : ¬ (xoutGroup k = nI g ∧ youtRes k = 1 ∧ V k ≤ x ∧ x < D k) → wY_runByte_175 post (nI x) (nI g) (nI R0) (nI R1) xphase (nI ns) (nI no) (nI ng) (nI ni) (nI nb) (nI nr) xopenOut yinGroup (nI ni - 1) yfinalC0 yfinalC1 xstmtOp xstmtA xstmtB ystOut xoutRegion xoutLoaded xoutGroup xoutVma xoutLma youtSize xoutAlign youtRes ygStart ygEnd xinKind xinId xinAlign yinBss xinFirstByte yinLen xinStmt xinLive yinVma yinLma xfedBytes xrelocOwner xrelocOffset xrelocType xrelocTarget xrelocAddend yrom yram (d + 1) (nI (k + 1)) := by
        intro z
        rw [lk_fv_f (show ¬ (fun k => decide (xoutGroup k = nI g ∧ youtRes k = 1 ∧ V k ≤ x ∧ x < D k)) k = true from fun y => z (of_decide_eq_true y))] at h
        exact ih (k + 1) (by omega) h
      by_cases a : xoutGroup k = nI g
      · have hD : D k < 2 ^ 29 := by
          by_cases r : xoutRegion k = 1
          · have := t6 r; omega
          · by_cases r0 : xoutRegion k = 0
            · have := t7 r0; omega
            · exact absurd (hrg k (by omega)) (fun y => y.elim r0 r)
        refine br_f n1 (br_f n2 ⟨v8, br_t (by rw [e]; exact a) ⟨v8, ?_⟩⟩)
        by_cases b : youtRes k = 1
        · refine br_t (by rw [e]; exact b) ⟨v8, ?_⟩
          by_cases c : V k ≤ x
          · refine br_f (by rw [e, t1]; exact nI_nlt c (by omega)) ⟨v8, v8, ?_⟩
            have evs : xoutVma (nI k).toNatClampNeg + youtSize (nI k).toNatClampNeg = nI (D k) := by rw [e, t1, t4, nI_add, show V k + (D k - V k) = D k by omega]
            by_cases f : x < D k
            · rw [lk_fv_t (show (fun k => decide (xoutGroup k = nI g ∧ youtRes k = 1 ∧ V k ≤ x ∧ x < D k)) k = true from decide_eq_true ⟨a, b, c, f⟩)] at h
              refine br_f (by rw [evs]; exact nI_ge f (by omega)) ⟨v8, ly_ib hq hv hb (by omega) (X := x) hx ?_ h⟩
              rw [e, t1, pk_sub c, nI_add, show V k + (x - V k) = x by omega]
            · exact br_t (by rw [evs]; exact nI_le (by omega) (by omega)) (nm_r (nI_1 k) (hn (fun y => f y.2.2.2)))
          · exact br_t (by rw [e, t1]; exact nI_lt (by omega) (by omega)) (nm_r (nI_1 k) (hn (fun y => c y.2.2.1)))
        · exact br_f (by rw [e]; exact b) (nm_r (nI_1 k) (hn (fun y => b y.2.1)))
      · exact br_f n1 (br_f n2 ⟨v8, br_f (by rw [e]; exact a) (nm_r (nI_1 k) (hn (fun y => a y.1)))⟩)
  exact ⟨_, H no 0 (by omega) h⟩
theorem lk_rg {ns no ng ni nb nr R0 R1 : Nat} {xphase xopenOut xopenGroup yinGroup yfinalC0 yfinalC1 : Int32} {xregionSize xcounter xmemory xstmtOp xstmtA xstmtB xstmtOwner xoutRegion xoutLoaded xoutGroup xoutAlign xoutVma xoutLma xoutDot xgroupStart xgroupEnd xgroupResident xinKind xinId xinAlign xinSize xinFirstByte xinStmt xinLive xinVma xfedBytes xrelocOwner xrelocOffset xrelocType xrelocTarget xrelocAddend ystOut youtSize youtRes ygStart ygEnd yinBss yinLen yinVma yinLma yrom yram : Nat → Int32} {V L D IV : Nat → Nat} {x : Nat} (h8 : no ≤ 8) (h4 : ng ≤ 4) (hR : R0 ≤ 128 ∧ R1 ≤ 128) (hg : ∀ k, k < no → xoutGroup k = -1 ∨ ∃ g, g < ng ∧ xoutGroup k = nI g) (hrg : ∀ k, k < no → xoutRegion k = 0 ∨ xoutRegion k = 1) (hk : ∀ k, k < no → xoutVma k = nI (V k) ∧ xoutLma k = nI (L k) ∧ xoutDot k = nI (D k) ∧ youtSize k = nI (D k - V k) ∧ V k ≤ D k ∧ (xoutRegion k = 1 → 256 ≤ V k ∧ D k ≤ 256 + R1) ∧ (xoutRegion k = 0 → D k ≤ R0) ∧ (xoutLoaded k = 1 → L k + (D k - V k) ≤ R0)) (hgr : ∀ g, g < ng → ∃ a b, xgroupStart g = nI a ∧ ygStart g = nI a ∧ xgroupEnd g = nI b ∧ ygEnd g = nI b ∧ 256 ≤ a ∧ a ≤ b ∧ b < 2 ^ 30 ∧ (b = a ∨ b ≤ 256 + R1)) (hq : lk_hq ni nr xrelocOwner xrelocTarget) (hv : ∀ s, s < ni → xinLive s = 1 → ∃ q, q < 32 ∧ xinStmt s = nI q ∧ yinVma s = nI (IV s) ∧ IV s < 2 ^ 30) (hb : ∀ s, s < ni → ∃ T Z, xinFirstByte s = nI T ∧ yinLen s = nI Z ∧ T + Z ≤ 256) (him : ∀ k off, k < no → off < D k - V k → (xoutLoaded k = 1 → xmemory (L k + off) = lk_ib ni nr ystOut xinKind xinStmt xinLive yinLen xinFirstByte xfedBytes xrelocOwner xrelocOffset xrelocType xrelocTarget xrelocAddend yinVma yinLma (nI k) (nI (V k + off))) ∧ (¬ xoutLoaded k = 1 → lk_ib ni nr ystOut xinKind xinStmt xinLive yinLen xinFirstByte xfedBytes xrelocOwner xrelocOffset xrelocType xrelocTarget xrelocAddend yinVma yinLma (nI k) (nI (V k + off)) = 0)) (hx : x < 2 ^ 30) (hgm : ∀ g, g < ng → xgroupResident g = -1 ∨ ∃ k, k < no ∧ xgroupResident g = nI k ∧ xoutGroup k = nI g) (hrs : ∀ k, k < no → youtRes k = if ¬ xoutGroup k = -1 ∧ xgroupResident (xoutGroup k).toNatClampNeg = nI k then 1 else 0) : ∀ d g, g + d = ng → ∃ r : Int32, (∀ post : Int32 → Prop, post r → wX_runRamByte_54 post (nI x) xphase (nI ns) xopenOut xopenGroup (nI no) (nI ng) (nI ni) (nI nb) (nI nr) xregionSize xcounter xmemory xstmtOp xstmtA xstmtB xstmtOwner xoutRegion xoutLoaded xoutGroup xoutAlign xoutVma xoutLma xoutDot xgroupStart xgroupEnd xgroupResident xinKind xinId xinAlign xinSize xinFirstByte xinStmt xinLive xinVma xfedBytes xrelocOwner xrelocOffset xrelocType xrelocTarget xrelocAddend (d + 1) (nI g)) ∧ (∀ post : Int32 → Prop, post r → wY_runByte_137 post (nI x) (nI R0) (nI R1) xphase (nI ns) (nI no) (nI ng) (nI ni) (nI nb) (nI nr) xopenOut yinGroup (nI ni - 1) yfinalC0 yfinalC1 xstmtOp xstmtA xstmtB ystOut xoutRegion xoutLoaded xoutGroup xoutVma xoutLma youtSize xoutAlign youtRes ygStart ygEnd xinKind xinId xinAlign yinBss xinFirstByte yinLen xinStmt xinLive yinVma yinLma xfedBytes xrelocOwner xrelocOffset xrelocType xrelocTarget xrelocAddend yrom yram (d + 1) (nI g)) := by
  have hD : ∀ k, k < no → V k ≤ D k ∧ D k < 2 ^ 29 := by
    intro k hkn
    obtain ⟨t1, t2, t3, t4, t5, t6, t7, t8⟩ := hk k hkn
    refine ⟨t5, ?_⟩
    rcases hrg k hkn with r | r
    · have := t7 r; omega
    · have := t6 r; omega
  intro d
  induction d with
  | zero =>
    intro g hgd
    exact ⟨255, fun post hp => br_t (nI_le (by omega) (by omega)) hp, fun post hp => br_t (nI_le (by omega) (by omega)) hp⟩
  | succ d ih =>
    intro g hgd
    obtain ⟨a, b, s1, s2, s3, s4, s5, s6, s7, s8⟩ := hgr g (by omega)
    have e : (nI g).toNatClampNeg = g := nI_clamp (by omega)
    have v4 : vp_in (nI g) 4 := vp_in_nI (by omega) (by omega)
    have n1 : ¬ nI ng ≤ nI g := nI_ge (by omega) (by omega)
    have n2 : ¬ (4 : Int32) ≤ nI g := nI_ge (b := 4) (by omega) (by omega)
    obtain ⟨r, j1, j2⟩ := ih (g + 1) (by omega)
    by_cases c1 : a ≤ x
    · have xa : ¬ nI x < xgroupStart (nI g).toNatClampNeg := by rw [e, s1]; exact nI_nlt c1 (by omega)
      have ya : ¬ nI x < ygStart (nI g).toNatClampNeg := by rw [e, s2]; exact nI_nlt c1 (by omega)
      by_cases c2 : x < b
      · have xb : ¬ xgroupEnd (nI g).toNatClampNeg ≤ nI x := by rw [e, s3]; exact nI_ge c2 (by omega)
        have yb : nI x < ygEnd (nI g).toNatClampNeg := by rw [e, s4]; exact nI_lt c2 (by omega)
        rcases hgm g (by omega) with z | ⟨k0, hk0, z, zg⟩
        · refine ⟨0, fun post hp => br_f n1 ⟨v4, br_f xa ⟨v4, br_f xb ⟨v4, nm_r (e' := -1) (by rw [e, z]) (br_t rfl hp)⟩⟩⟩, fun post hp => br_f n1 (br_f n2 ⟨v4, br_f ya ⟨v4, br_t yb (ly_175 h8 h4 hR hg hrg hk hq hv hb (by omega) hx ?_)⟩⟩)⟩
          rw [lk_fv_n (fun i hi y => ?_)]
          · exact hp
          · obtain ⟨y1, y2, _⟩ := of_decide_eq_true y
            rw [hrs i hi, y1, e, z, if_neg (fun w => lk_nn1 (show i < 2 ^ 31 by omega) w.2.symm)] at y2
            exact absurd y2 (by decide)
        · obtain ⟨t1, t2, t3, t4, t5, t6, t7, t8⟩ := hk k0 hk0
          obtain ⟨_, hDk⟩ := hD k0 hk0
          have uniq : ∀ i, i < no → (fun k => decide (xoutGroup k = nI g ∧ youtRes k = 1 ∧ V k ≤ x ∧ x < D k)) i = true → i = k0 := by
            intro i hi y
            obtain ⟨y1, y2, _⟩ := of_decide_eq_true y
            by_cases w : nI k0 = nI i
            · exact ((nI_eq (by omega) (by omega)).mp w).symm
            · rw [hrs i hi, y1, e, z, if_neg (fun q => w q.2)] at y2
              exact absurd y2 (by decide)
          have res1 : youtRes k0 = 1 := by
            rw [hrs k0 hk0, zg, e, z, if_pos ⟨lk_nn1 (by omega), rfl⟩]
          have fv := lk_fv_1 (w := fun k => lk_ib ni nr ystOut xinKind xinStmt xinLive yinLen xinFirstByte xfedBytes xrelocOwner xrelocOffset xrelocType xrelocTarget xrelocAddend yinVma yinLma (nI k) (nI x)) hk0 uniq
          by_cases c3 : V k0 ≤ x ∧ x < D k0
          · have pk0 : (fun k => decide (xoutGroup k = nI g ∧ youtRes k = 1 ∧ V k ≤ x ∧ x < D k)) k0 = true := decide_eq_true ⟨zg, res1, c3.1, c3.2⟩
            rw [if_pos pk0, lk_ans (V := V) (L := L) (D := D) him hk0 c3.1 c3.2] at fv
            refine ⟨_, fun post hp => br_f n1 ⟨v4, br_f xa ⟨v4, br_f xb ⟨v4, nm_r (e' := nI k0) (by rw [e, z]) (br_f (lk_nn1 (by omega)) (lx_cov (by omega) hx (by omega) (by omega) t1 t3 (fun _ _ => br_f (by decide) (lx_ib (by omega) t1 t2 c3.1 (fun q => by have := t8 q; omega) hp)) (fun q => absurd c3 q)))⟩⟩⟩, fun post hp => br_f n1 (br_f n2 ⟨v4, br_f ya ⟨v4, br_t yb (ly_175 h8 h4 hR hg hrg hk hq hv hb (by omega) hx (by rw [fv]; exact hp))⟩⟩)⟩
          · have npk0 : ¬ (fun k => decide (xoutGroup k = nI g ∧ youtRes k = 1 ∧ V k ≤ x ∧ x < D k)) k0 = true := fun y => c3 (of_decide_eq_true y).2.2
            rw [if_neg npk0] at fv
            exact ⟨0, fun post hp => br_f n1 ⟨v4, br_f xa ⟨v4, br_f xb ⟨v4, nm_r (e' := nI k0) (by rw [e, z]) (br_f (lk_nn1 (by omega)) (lx_cov (by omega) hx (by omega) (by omega) t1 t3 (fun q1 q2 => absurd ⟨q1, q2⟩ c3) (fun _ => br_t rfl hp)))⟩⟩⟩, fun post hp => br_f n1 (br_f n2 ⟨v4, br_f ya ⟨v4, br_t yb (ly_175 h8 h4 hR hg hrg hk hq hv hb (by omega) hx (by rw [fv]; exact hp))⟩⟩)⟩
      · have xb : xgroupEnd (nI g).toNatClampNeg ≤ nI x := by rw [e, s3]; exact nI_le (by omega) (by omega)
        have yb : ¬ nI x < ygEnd (nI g).toNatClampNeg := by rw [e, s4]; exact nI_nlt (by omega) (by omega)
        exact ⟨r, fun post hp => br_f n1 ⟨v4, br_f xa ⟨v4, br_t xb (nm_r (nI_1 g) (j1 post hp))⟩⟩, fun post hp => br_f n1 (br_f n2 ⟨v4, br_f ya ⟨v4, br_f yb (nm_r (nI_1 g) (j2 post hp))⟩⟩)⟩
    · have xa : nI x < xgroupStart (nI g).toNatClampNeg := by rw [e, s1]; exact nI_lt (by omega) (by omega)
      have ya : nI x < ygStart (nI g).toNatClampNeg := by rw [e, s2]; exact nI_lt (by omega) (by omega)
      exact ⟨r, fun post hp => br_f n1 ⟨v4, br_t xa (nm_r (nI_1 g) (j1 post hp))⟩, fun post hp => br_f n1 (br_f n2 ⟨v4, br_t ya (nm_r (nI_1 g) (j2 post hp))⟩)⟩
theorem lk_ro {ns no ng ni nb nr R0 R1 : Nat} {xphase xopenOut xopenGroup yinGroup yfinalC0 yfinalC1 : Int32} {xregionSize xcounter xmemory xstmtOp xstmtA xstmtB xstmtOwner xoutRegion xoutLoaded xoutGroup xoutAlign xoutVma xoutLma xoutDot xgroupStart xgroupEnd xgroupResident xinKind xinId xinAlign xinSize xinFirstByte xinStmt xinLive xinVma xfedBytes xrelocOwner xrelocOffset xrelocType xrelocTarget xrelocAddend ystOut youtSize youtRes ygStart ygEnd yinBss yinLen yinVma yinLma yrom yram : Nat → Int32} {V L D IV : Nat → Nat} {x : Nat} (h8 : no ≤ 8) (h4 : ng ≤ 4) (hR : R0 ≤ 128 ∧ R1 ≤ 128) (hg : ∀ k, k < no → xoutGroup k = -1 ∨ ∃ g, g < ng ∧ xoutGroup k = nI g) (hrg : ∀ k, k < no → xoutRegion k = 0 ∨ xoutRegion k = 1) (hk : ∀ k, k < no → xoutVma k = nI (V k) ∧ xoutLma k = nI (L k) ∧ xoutDot k = nI (D k) ∧ youtSize k = nI (D k - V k) ∧ V k ≤ D k ∧ (xoutRegion k = 1 → 256 ≤ V k ∧ D k ≤ 256 + R1) ∧ (xoutRegion k = 0 → D k ≤ R0) ∧ (xoutLoaded k = 1 → L k + (D k - V k) ≤ R0)) (hgr : ∀ g, g < ng → ∃ a b, xgroupStart g = nI a ∧ ygStart g = nI a ∧ xgroupEnd g = nI b ∧ ygEnd g = nI b ∧ 256 ≤ a ∧ a ≤ b ∧ b < 2 ^ 30 ∧ (b = a ∨ b ≤ 256 + R1)) (hq : lk_hq ni nr xrelocOwner xrelocTarget) (hv : ∀ s, s < ni → xinLive s = 1 → ∃ q, q < 32 ∧ xinStmt s = nI q ∧ yinVma s = nI (IV s) ∧ IV s < 2 ^ 30) (hb : ∀ s, s < ni → ∃ T Z, xinFirstByte s = nI T ∧ yinLen s = nI Z ∧ T + Z ≤ 256) (him : ∀ k off, k < no → off < D k - V k → (xoutLoaded k = 1 → xmemory (L k + off) = lk_ib ni nr ystOut xinKind xinStmt xinLive yinLen xinFirstByte xfedBytes xrelocOwner xrelocOffset xrelocType xrelocTarget xrelocAddend yinVma yinLma (nI k) (nI (V k + off))) ∧ (¬ xoutLoaded k = 1 → lk_ib ni nr ystOut xinKind xinStmt xinLive yinLen xinFirstByte xfedBytes xrelocOwner xrelocOffset xrelocType xrelocTarget xrelocAddend yinVma yinLma (nI k) (nI (V k + off)) = 0)) (hx : x < 2 ^ 30) (hgm : ∀ g, g < ng → xgroupResident g = -1 ∨ ∃ k, k < no ∧ xgroupResident g = nI k ∧ xoutGroup k = nI g) (hrs : ∀ k, k < no → youtRes k = if ¬ xoutGroup k = -1 ∧ xgroupResident (xoutGroup k).toNatClampNeg = nI k then 1 else 0) : ∀ d k, k + d = no → ∃ r : Int32, (∀ post : Int32 → Prop, post r → wX_runRamByte_2 post (nI x) xphase (nI ns) xopenOut xopenGroup (nI no) (nI ng) (nI ni) (nI nb) (nI nr) xregionSize xcounter xmemory xstmtOp xstmtA xstmtB xstmtOwner xoutRegion xoutLoaded xoutGroup xoutAlign xoutVma xoutLma xoutDot xgroupStart xgroupEnd xgroupResident xinKind xinId xinAlign xinSize xinFirstByte xinStmt xinLive xinVma xfedBytes xrelocOwner xrelocOffset xrelocType xrelocTarget xrelocAddend (d + 1) (nI k)) ∧ (∀ post : Int32 → Prop, post r → wY_runByte_55 post (nI x) (nI R0) (nI R1) xphase (nI ns) (nI no) (nI ng) (nI ni) (nI nb) (nI nr) xopenOut yinGroup (nI ni - 1) yfinalC0 yfinalC1 xstmtOp xstmtA xstmtB ystOut xoutRegion xoutLoaded xoutGroup xoutVma xoutLma youtSize xoutAlign youtRes ygStart ygEnd xinKind xinId xinAlign yinBss xinFirstByte yinLen xinStmt xinLive yinVma yinLma xfedBytes xrelocOwner xrelocOffset xrelocType xrelocTarget xrelocAddend yrom yram (d + 1) (nI k)) := by
  intro d
  induction d with
  | zero =>
    intro k hkd
    obtain ⟨r, j1, j2⟩ := lk_rg (ns := ns) (no := no) (ng := ng) (ni := ni) (nb := nb) (nr := nr) (R0 := R0) (R1 := R1) (xphase := xphase) (xopenOut := xopenOut) (xopenGroup := xopenGroup) (yinGroup := yinGroup) (yfinalC0 := yfinalC0) (yfinalC1 := yfinalC1) (xregionSize := xregionSize) (xcounter := xcounter) (xmemory := xmemory) (xstmtOp := xstmtOp) (xstmtA := xstmtA) (xstmtB := xstmtB) (xstmtOwner := xstmtOwner) (xoutRegion := xoutRegion) (xoutLoaded := xoutLoaded) (xoutGroup := xoutGroup) (xoutAlign := xoutAlign) (xoutVma := xoutVma) (xoutLma := xoutLma) (xoutDot := xoutDot) (xgroupStart := xgroupStart) (xgroupEnd := xgroupEnd) (xgroupResident := xgroupResident) (xinKind := xinKind) (xinId := xinId) (xinAlign := xinAlign) (xinSize := xinSize) (xinFirstByte := xinFirstByte) (xinStmt := xinStmt) (xinLive := xinLive) (xinVma := xinVma) (xfedBytes := xfedBytes) (xrelocOwner := xrelocOwner) (xrelocOffset := xrelocOffset) (xrelocType := xrelocType) (xrelocTarget := xrelocTarget) (xrelocAddend := xrelocAddend) (ystOut := ystOut) (youtSize := youtSize) (youtRes := youtRes) (ygStart := ygStart) (ygEnd := ygEnd) (yinBss := yinBss) (yinLen := yinLen) (yinVma := yinVma) (yinLma := yinLma) (yrom := yrom) (yram := yram) (V := V) (L := L) (D := D) (IV := IV) (x := x) h8 h4 hR hg hrg hk hgr hq hv hb him hx hgm hrs ng 0 (by omega)
    exact ⟨r, fun post hp => br_t (nI_le (by omega) (by omega)) ⟨_, j1 post hp⟩, fun post hp => br_t (nI_le (by omega) (by omega)) ⟨_, j2 post hp⟩⟩
  | succ d ih =>
    intro k hkd
    obtain ⟨t1, t2, t3, t4, t5, t6, t7, t8⟩ := hk k (by omega)
    have e : (nI k).toNatClampNeg = k := nI_clamp (by omega)
    have v8 : vp_in (nI k) 8 := vp_in_nI (by omega) (by omega)
    have n1 : ¬ nI no ≤ nI k := nI_ge (by omega) (by omega)
    have n2 : ¬ (8 : Int32) ≤ nI k := nI_ge (b := 8) (by omega) (by omega)
    obtain ⟨r, j1, j2⟩ := ih (k + 1) (by omega)
    by_cases rr : xoutRegion k = 1
    · obtain ⟨t9, t10⟩ := t6 rr
      have r' : xoutRegion (nI k).toNatClampNeg = 1 := by rw [e]; exact rr
      have evs : xoutVma (nI k).toNatClampNeg + youtSize (nI k).toNatClampNeg = nI (D k) := by rw [e, t1, t4, nI_add, show V k + (D k - V k) = D k by omega]
      rcases hg k (by omega) with z | ⟨g, hgn, z⟩
      · have z' : xoutGroup (nI k).toNatClampNeg = -1 := by rw [e]; exact z
        have nl : ¬ 0 ≤ xoutGroup (nI k).toNatClampNeg := by rw [z']; decide
        by_cases c : V k ≤ x
        · by_cases f : x < D k
          · refine ⟨lk_ib ni nr ystOut xinKind xinStmt xinLive yinLen xinFirstByte xfedBytes xrelocOwner xrelocOffset xrelocType xrelocTarget xrelocAddend yinVma yinLma (nI k) (nI x), fun post hp => br_f n1 ⟨v8, br_t r' ⟨v8, br_t z' (lx_cov (by omega) hx (by omega) (by omega) t1 t3 (fun _ _ => br_f (by decide) (lx_ib (by omega) t1 t2 c (fun q => by have := t8 q; omega) ?_)) (fun q => absurd ⟨c, f⟩ q))⟩⟩, fun post hp => br_f n1 (br_f n2 ⟨v8, br_t r' ⟨v8, br_f nl ⟨v8, br_f (by rw [e, t1]; exact nI_nlt c (by omega)) ⟨v8, v8, br_f (by rw [evs]; exact nI_ge f (by omega)) ⟨v8, ly_ib hq hv hb (by omega) (X := x) hx ?_ hp⟩⟩⟩⟩⟩)⟩
            · rw [← lk_ans (V := V) (L := L) (D := D) him (by omega) c f]
              exact hp
            · rw [e, t1, pk_sub c, nI_add, show V k + (x - V k) = x by omega]
          · exact ⟨r, fun post hp => br_f n1 ⟨v8, br_t r' ⟨v8, br_t z' (lx_cov (by omega) hx (by omega) (by omega) t1 t3 (fun _ q => absurd q f) (fun _ => br_t rfl (nm_r (nI_1 k) (j1 post hp))))⟩⟩, fun post hp => br_f n1 (br_f n2 ⟨v8, br_t r' ⟨v8, br_f nl ⟨v8, br_f (by rw [e, t1]; exact nI_nlt c (by omega)) ⟨v8, v8, br_t (by rw [evs]; exact nI_le (by omega) (by omega)) (nm_r (nI_1 k) (j2 post hp))⟩⟩⟩⟩)⟩
        · exact ⟨r, fun post hp => br_f n1 ⟨v8, br_t r' ⟨v8, br_t z' (lx_cov (by omega) hx (by omega) (by omega) t1 t3 (fun q _ => absurd q c) (fun _ => br_t rfl (nm_r (nI_1 k) (j1 post hp))))⟩⟩, fun post hp => br_f n1 (br_f n2 ⟨v8, br_t r' ⟨v8, br_f nl ⟨v8, br_t (by rw [e, t1]; exact nI_lt (by omega) (by omega)) (nm_r (nI_1 k) (j2 post hp))⟩⟩⟩)⟩
      · have z' : xoutGroup (nI k).toNatClampNeg = nI g := by rw [e]; exact z
        have nz : ¬ xoutGroup (nI k).toNatClampNeg = -1 := by rw [z']; exact lk_nn1 (by omega)
        have nl : 0 ≤ xoutGroup (nI k).toNatClampNeg := by rw [z']; exact nI_pos' (by omega)
        exact ⟨r, fun post hp => br_f n1 ⟨v8, br_t r' ⟨v8, br_f nz (nm_r (nI_1 k) (j1 post hp))⟩⟩, fun post hp => br_f n1 (br_f n2 ⟨v8, br_t r' ⟨v8, br_t nl (nm_r (nI_1 k) (j2 post hp))⟩⟩)⟩
    · have r' : ¬ xoutRegion (nI k).toNatClampNeg = 1 := by rw [e]; exact rr
      exact ⟨r, fun post hp => br_f n1 ⟨v8, br_f r' (nm_r (nI_1 k) (j1 post hp))⟩, fun post hp => br_f n1 (br_f n2 ⟨v8, br_f r' (nm_r (nI_1 k) (j2 post hp))⟩)⟩
theorem lk_run {Q : Prop} (q : Q) {ns no ng ni nb nr R0 R1 : Nat} {xphase xopenOut xopenGroup yinGroup yfinalC0 yfinalC1 : Int32} {xregionSize xcounter xmemory xstmtOp xstmtA xstmtB xstmtOwner xoutRegion xoutLoaded xoutGroup xoutAlign xoutVma xoutLma xoutDot xgroupStart xgroupEnd xgroupResident xinKind xinId xinAlign xinSize xinFirstByte xinStmt xinLive xinVma xfedBytes xrelocOwner xrelocOffset xrelocType xrelocTarget xrelocAddend ystOut youtSize youtRes ygStart ygEnd yinBss yinLen yinVma yinLma yrom yram : Nat → Int32} {v1 : Int32} (h : xphase = 0 ∨ (¬ xphase = 0 ∧ ((v1 < 0 ∧ v1 < 256) ∨ (¬ v1 < 0 ∧ ¬ 0 + xregionSize (0 : Int32).toNatClampNeg ≤ v1 ∧ ¬ 0 + nI R0 ≤ v1 ∧ vp_in v1 384 ∧ vp_in (v1 - 0) 128 ∧ yrom (v1 - 0).toNatClampNeg = xmemory v1.toNatClampNeg) ∨ (¬ v1 < 0 ∧ 0 + xregionSize (0 : Int32).toNatClampNeg ≤ v1 ∧ 0 + nI R0 ≤ v1 ∧ (v1 < 256 ∨ (¬ v1 < 256 ∧ 256 + xregionSize (1 : Int32).toNatClampNeg ≤ v1 ∧ ¬ v1 < 256 + nI R1) ∨ (¬ v1 < 256 ∧ ¬ 256 + xregionSize (1 : Int32).toNatClampNeg ≤ v1 ∧ v1 < 256 + nI R1 ∧ ∃ r : Int32, (∀ post : Int32 → Prop, post r → wpX_runRamByte post (xphase, (nI ns), xopenOut, xopenGroup, (nI no), (nI ng), (nI ni), (nI nb), (nI nr), xregionSize, xcounter, xmemory, xstmtOp, xstmtA, xstmtB, xstmtOwner, xoutRegion, xoutLoaded, xoutGroup, xoutAlign, xoutVma, xoutLma, xoutDot, xgroupStart, xgroupEnd, xgroupResident, xinKind, xinId, xinAlign, xinSize, xinFirstByte, xinStmt, xinLive, xinVma, xfedBytes, xrelocOwner, xrelocOffset, xrelocType, xrelocTarget, xrelocAddend) v1) ∧ (∀ post : Int32 → Prop, post r → ∃ n, wY_runByte_55 post v1 (nI R0) (nI R1) xphase (nI ns) (nI no) (nI ng) (nI ni) (nI nb) (nI nr) xopenOut yinGroup (nI ni - 1) yfinalC0 yfinalC1 xstmtOp xstmtA xstmtB ystOut xoutRegion xoutLoaded xoutGroup xoutVma xoutLma youtSize xoutAlign youtRes ygStart ygEnd xinKind xinId xinAlign yinBss xinFirstByte yinLen xinStmt xinLive yinVma yinLma xfedBytes xrelocOwner xrelocOffset xrelocType xrelocTarget xrelocAddend yrom yram n 0))))))) : wpX_runByte (fun r => wpY_runByte (fun r' => r' = r ∧ Q) ((nI R0), (nI R1), xphase, (nI ns), (nI no), (nI ng), (nI ni), (nI nb), (nI nr), xopenOut, yinGroup, (nI ni - 1), yfinalC0, yfinalC1, xstmtOp, xstmtA, xstmtB, ystOut, xoutRegion, xoutLoaded, xoutGroup, xoutVma, xoutLma, youtSize, xoutAlign, youtRes, ygStart, ygEnd, xinKind, xinId, xinAlign, yinBss, xinFirstByte, yinLen, xinStmt, xinLive, yinVma, yinLma, xfedBytes, xrelocOwner, xrelocOffset, xrelocType, xrelocTarget, xrelocAddend, yrom, yram) v1) (xphase, (nI ns), xopenOut, xopenGroup, (nI no), (nI ng), (nI ni), (nI nb), (nI nr), xregionSize, xcounter, xmemory, xstmtOp, xstmtA, xstmtB, xstmtOwner, xoutRegion, xoutLoaded, xoutGroup, xoutAlign, xoutVma, xoutLma, xoutDot, xgroupStart, xgroupEnd, xgroupResident, xinKind, xinId, xinAlign, xinSize, xinFirstByte, xinStmt, xinLive, xinVma, xfedBytes, xrelocOwner, xrelocOffset, xrelocType, xrelocTarget, xrelocAddend) v1 := by
  have v02 : vp_in (0 : Int32) 2 := vp_in_iff.mpr (by decide)
  have v12 : vp_in (1 : Int32) 2 := vp_in_iff.mpr (by decide)
  rcases h with a0 | ⟨a0, ⟨a1, a2⟩ | ⟨a1, a2, a3, a4, a5, a6⟩ | ⟨a1, a2, a3, a4 | ⟨a4, a5, a6⟩ | ⟨a4, a5, a6, r, hX, hY⟩⟩⟩
  · repeat (first | refine br_t (by assumption) ?_ | refine br_f (by assumption) ?_ | refine br_t (by decide) ?_ | refine br_f (by decide) ?_ | refine nm_e ?_ | refine And.intro (by assumption) ?_)
    first | exact q | exact ⟨rfl, q⟩
  · repeat (first | refine br_t (by assumption) ?_ | refine br_f (by assumption) ?_ | refine br_t (by decide) ?_ | refine br_f (by decide) ?_ | refine nm_e ?_ | refine And.intro (by assumption) ?_)
    first | exact q | exact ⟨rfl, q⟩
  · repeat (first | refine br_t (by assumption) ?_ | refine br_f (by assumption) ?_ | refine br_t (by decide) ?_ | refine br_f (by decide) ?_ | refine nm_e ?_ | refine And.intro (by assumption) ?_)
    first | exact q | exact ⟨a6, q⟩
  · repeat (first | refine br_t (by assumption) ?_ | refine br_f (by assumption) ?_ | refine br_t (by decide) ?_ | refine br_f (by decide) ?_ | refine nm_e ?_ | refine And.intro (by assumption) ?_)
    first | exact q | exact ⟨rfl, q⟩
  · repeat (first | refine br_t (by assumption) ?_ | refine br_f (by assumption) ?_ | refine br_t (by decide) ?_ | refine br_f (by decide) ?_ | refine nm_e ?_ | refine And.intro (by assumption) ?_)
    first | exact q | exact ⟨rfl, q⟩
  · repeat (first | refine br_t (by assumption) ?_ | refine br_f (by assumption) ?_ | refine br_t (by decide) ?_ | refine br_f (by decide) ?_ | refine nm_e ?_ | refine And.intro (by assumption) ?_)
    refine hX _ ?_
    repeat (first | refine br_t (by assumption) ?_ | refine br_f (by assumption) ?_ | refine br_t (by decide) ?_ | refine br_f (by decide) ?_ | refine nm_e ?_ | refine And.intro (by assumption) ?_)
    exact hY _ ⟨rfl, q⟩
theorem i_vc_runByte {k : Nat} {u : SX} {v : SY} (I : i_Rel k u v) (hk : k + 5 ≤ 2562) (v1 : Int32) : wpX_runByte (fun r => wpY_runByte (fun r' => r' = r ∧ i_Rel (k + 5) u v) v v1) u v1 := by
  have J := i_up I
  obtain ⟨ns, no, ng, ni, nb, nr, R0, R1, xphase, xopenOut, xopenGroup, yinGroup, yfinalC0, yfinalC1, xregionSize, xcounter, xmemory, xstmtOp, xstmtA, xstmtB, xstmtOwner, xoutRegion, xoutLoaded, xoutGroup, xoutAlign, xoutVma, xoutLma, xoutDot, xgroupStart, xgroupEnd, xgroupResident, xinKind, xinId, xinAlign, xinSize, xinFirstByte, xinStmt, xinLive, xinVma, xfedBytes, xrelocOwner, xrelocOffset, xrelocType, xrelocTarget, xrelocAddend, ystOut, youtSize, youtRes, ygStart, ygEnd, yinBss, yinLen, yinVma, yinLma, yrom, yram, rfl, rfl, hS, hN, hQ, hZ, hM, hP⟩ := I
  have hof := lk_S_of hS
  obtain ⟨c1, c2, c3, _⟩ := id hS
  obtain ⟨z0, z1, z2, z3, z4, z5⟩ := id hZ
  refine lk_run J ?_
  rcases hP with ⟨h, _⟩ | ⟨hp, hL⟩
  · exact Or.inl h
  have np : ¬ xphase = 0 := by
    rcases hp with h | h <;> rw [h] <;> decide
  refine Or.inr ⟨np, ?_⟩
  rw [lk_e0, lk_e1, z0, z1, Int32.zero_add, Int32.sub_zero, lk_256]
  rcases pk_ix v1 (n := R0) (by omega) with h | h | ⟨s, hs, rfl⟩
  · exact Or.inl ⟨h, Int32.lt_trans h (by decide)⟩
  · have n0 : ¬ v1 < 0 := Int32.not_lt.mpr (Int32.le_trans (nI_pos' (by omega)) h)
    refine Or.inr (Or.inr ⟨n0, h, h, ?_⟩)
    rcases lk_ix2 v1 (a := 256) (n := R1) (by omega) (by omega) with h2 | h2 | ⟨s, hs, rfl⟩
    · exact Or.inl h2
    · exact Or.inr (Or.inl ⟨Int32.not_lt.mpr (Int32.le_trans (nI_le (a := 256) (b := 256 + R1) (by omega) (by omega)) h2), h2, Int32.not_lt.mpr h2⟩)
    · refine Or.inr (Or.inr ⟨nI_nlt (b := 256) (by omega) (by omega), nI_ge (by omega) (by omega), nI_lt (by omega) (by omega), ?_⟩)
      obtain ⟨V, L, D, IV, h1, h2, h3, h4, h5, h6, h7, h9⟩ := id hL
      have hg : ∀ k, k < no → xoutGroup k = -1 ∨ ∃ g, g < ng ∧ xoutGroup k = nI g := fun k hkn => by
        rcases hof k hkn with ⟨_, _, z⟩ | ⟨_, _, z⟩
        · exact Or.inl z
        · exact z
      have hrg : ∀ k, k < no → xoutRegion k = 0 ∨ xoutRegion k = 1 := fun k hkn => by
        rcases hof k hkn with ⟨z, _⟩ | ⟨z, _⟩
        · exact Or.inl z
        · exact Or.inr z
      have hq : lk_hq ni nr xrelocOwner xrelocTarget := ⟨hN.1, hQ.1, fun r hr => by
        obtain ⟨o, f, t, Z, a1, a2, _, _, _, _, _, a8, a9⟩ := hQ.2 r hr
        exact ⟨o, t, a1, a2, a8, a9⟩⟩
      have hv : ∀ s, s < ni → xinLive s = 1 → ∃ q, q < 32 ∧ xinStmt s = nI q ∧ yinVma s = nI (IV s) ∧ IV s < 2 ^ 30 := fun s hs hlv => by
        obtain ⟨q, o, hq2, eq, _, _, _, _, ey, hI, _⟩ := h4 s hs hlv
        exact ⟨q, by omega, eq, ey, hI⟩
      have hb : ∀ s, s < ni → ∃ T Z, xinFirstByte s = nI T ∧ yinLen s = nI Z ∧ T + Z ≤ 256 := fun s hs => by
        obtain ⟨A, T, Z, Q, _, _, a3, a4, a5, _, _⟩ := hN.2.2 s hs
        have := hN.2.1
        exact ⟨T, Z, a3, a4, by omega⟩
      obtain ⟨r, j1, j2⟩ := lk_ro (ns := ns) (no := no) (ng := ng) (ni := ni) (nb := nb) (nr := nr) (R0 := R0) (R1 := R1) (xphase := xphase) (xopenOut := xopenOut) (xopenGroup := xopenGroup) (yinGroup := yinGroup) (yfinalC0 := yfinalC0) (yfinalC1 := yfinalC1) (xregionSize := xregionSize) (xcounter := xcounter) (xmemory := xmemory) (xstmtOp := xstmtOp) (xstmtA := xstmtA) (xstmtB := xstmtB) (xstmtOwner := xstmtOwner) (xoutRegion := xoutRegion) (xoutLoaded := xoutLoaded) (xoutGroup := xoutGroup) (xoutAlign := xoutAlign) (xoutVma := xoutVma) (xoutLma := xoutLma) (xoutDot := xoutDot) (xgroupStart := xgroupStart) (xgroupEnd := xgroupEnd) (xgroupResident := xgroupResident) (xinKind := xinKind) (xinId := xinId) (xinAlign := xinAlign) (xinSize := xinSize) (xinFirstByte := xinFirstByte) (xinStmt := xinStmt) (xinLive := xinLive) (xinVma := xinVma) (xfedBytes := xfedBytes) (xrelocOwner := xrelocOwner) (xrelocOffset := xrelocOffset) (xrelocType := xrelocType) (xrelocTarget := xrelocTarget) (xrelocAddend := xrelocAddend) (ystOut := ystOut) (youtSize := youtSize) (youtRes := youtRes) (ygStart := ygStart) (ygEnd := ygEnd) (yinBss := yinBss) (yinLen := yinLen) (yinVma := yinVma) (yinLma := yinLma) (yrom := yrom) (yram := yram) (V := V) (L := L) (D := D) (IV := IV) (x := 256 + s) c2 c3 ⟨z3, z5⟩ hg hrg h2 h3 hq hv hb h5 (by omega) h6 h7 no 0 (by omega)
      exact ⟨r, fun post hp => ⟨_, j1 post hp⟩, fun post hp => ⟨_, j2 post hp⟩⟩
  · refine Or.inr (Or.inl ⟨nI_pos (by omega), nI_ge hs (by omega), nI_ge hs (by omega), vp_in_nI (by omega) (by omega), vp_in_nI (by omega) (by omega), ?_⟩)
    rw [nI_clamp (show s < 2 ^ 31 by omega)]
    exact (hM.1 s (by omega)).symm
end
end
section
section
/-! AM: the last part -/
theorem lk_end : True := trivial
end
end
