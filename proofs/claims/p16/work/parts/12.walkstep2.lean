section
/-! the run addresses at statement i -/
theorem lk_S_oi {op sa sb ox oy rg ld gp : Nat → Int32} {ns : Nat} (h : ∀ i, i < ns → lk_sc op sa sb ox oy rg ld gp i) : ∀ n, n ≤ ns → ∀ k, k < lk_no op n → rg k = 1 → gp k = -1 ∨ ∃ g, g < lk_ng op n ∧ gp k = nI g := by
  intro n
  induction n with
  | zero => intro _ k hk; exact absurd hk (Nat.not_lt_zero k)
  | succ n ih =>
    intro hn k hk r
    have mono : lk_ng op n ≤ lk_ng op (n + 1) := by rw [lk_ng_s]; omega
    by_cases c : k < lk_no op n
    · rcases ih (by omega) k c r with z | ⟨g, hg, z⟩
      · exact Or.inl z
      · exact Or.inr ⟨g, by omega, z⟩
    · rw [lk_no_s] at hk
      by_cases h1 : op n = 1
      · rw [if_pos h1] at hk
        have ek : k = lk_no op n := by omega
        subst ek
        rcases h n (by omega) with ⟨_, _, _, _, _, _, _, e3⟩ | ⟨h2, _⟩ | ⟨h2, _⟩ | ⟨h2, _⟩ | ⟨h2, _⟩
        · rw [e3]
          by_cases hg : lk_ig op n = true
          · rw [if_pos hg]
            have g1 := lk_ig_p n hg
            exact Or.inr ⟨_, by omega, rfl⟩
          · rw [if_neg hg]
            exact Or.inl rfl
        · rw [h1] at h2; exact absurd h2 (by decide)
        · rw [h1] at h2; exact absurd h2 (by decide)
        · rw [h1] at h2; exact absurd h2 (by decide)
        · rw [h1] at h2; exact absurd h2 (by decide)
      · rw [if_neg h1] at hk
        exact absurd hk c
section
variable {i : Nat} {op rg gp : Nat → Int32} {C1 : Nat} {V D G0 GE : Nat → Nat}
def lk_U (op rg gp : Nat → Int32) (i C1 : Nat) (V D G0 GE : Nat → Nat) : Prop := lk_G2 rg gp (lk_no op i) (lk_nc op i) (lk_ng op i) (lk_ig op i) C1 V D G0 GE
theorem lk_U_sec {v : Nat} (h : lk_U op rg gp i C1 V D G0 GE) (ho : op i = 1) (his : lk_is op i = false) (hng : lk_ng op i < 2 ^ 31) (hgp : gp (lk_no op i) = if lk_ig op i = true then nI (lk_ng op i - 1) else -1) (hof : ∀ k, k < lk_no op i → rg k = 1 → gp k = -1 ∨ ∃ g, g < lk_ng op i ∧ gp k = nI g) (hv : rg (lk_no op i) = 1 → C1 ≤ v) : lk_U op rg gp (i + 1) C1 (lk_up V (lk_no op i) v) (lk_up D (lk_no op i) v) G0 GE := by
  have e1 : lk_no op (i + 1) = lk_no op i + 1 := by rw [lk_no_s, if_pos ho]
  have e2 : lk_nc op (i + 1) = lk_no op i := by
    unfold lk_nc
    rw [e1, lk_is_s, if_pos ho, if_pos rfl]
    omega
  have e3 : lk_ng op (i + 1) = lk_ng op i := by rw [lk_ng_s, ho, if_neg (by decide)]; rfl
  have e4 : lk_ig op (i + 1) = lk_ig op i := by rw [lk_ig_s, ho, if_neg (by decide), if_neg (by decide)]
  unfold lk_U at h ⊢
  rw [e1, e2, e3, e4]
  rw [lk_nc_f his] at h
  exact lk_G2_sec h hng hgp hof hv
theorem lk_U_D {D' : Nat → Nat} (h : lk_U op rg gp i C1 V D G0 GE) (ho : op i = 3 ∨ op i = 4 ∨ op i = 5 ∨ op i = 6 ∨ op i = 7) (his : lk_is op i = true) (hD : ∀ k, k ≠ lk_nc op i → D' k = D k) : lk_U op rg gp (i + 1) C1 V D' G0 GE := by
  have n1 : ¬ op i = 1 := by rcases ho with e | e | e | e | e <;> rw [e] <;> decide
  have n2 : ¬ op i = 2 := by rcases ho with e | e | e | e | e <;> rw [e] <;> decide
  have n8 : ¬ op i = 8 := by rcases ho with e | e | e | e | e <;> rw [e] <;> decide
  have n9 : ¬ op i = 9 := by rcases ho with e | e | e | e | e <;> rw [e] <;> decide
  have e1 : lk_no op (i + 1) = lk_no op i := by rw [lk_no_s, if_neg n1]; rfl
  have e2 : lk_nc op (i + 1) = lk_nc op i := by
    unfold lk_nc
    rw [e1, lk_is_s, if_neg n1, if_neg n2]
  have e3 : lk_ng op (i + 1) = lk_ng op i := by rw [lk_ng_s, if_neg n8]; rfl
  have e4 : lk_ig op (i + 1) = lk_ig op i := by rw [lk_ig_s, if_neg n8, if_neg n9]
  unfold lk_U at h ⊢
  rw [e1, e2, e3, e4]
  rw [lk_nc_t his] at h ⊢
  exact lk_G2_D h hD
theorem lk_U_end {C1' : Nat} {GE' : Nat → Nat} (ho : op i = 2) (his : lk_is op i = true) (h : lk_G2 rg gp (lk_nc op i + 1) (lk_nc op i + 1) (lk_ng op i) (lk_ig op i) C1' V D G0 GE') : lk_U op rg gp (i + 1) C1' V D G0 GE' := by
  have e1 : lk_no op (i + 1) = lk_no op i := by rw [lk_no_s, ho, if_neg (by decide)]; rfl
  have e2 : lk_nc op (i + 1) = lk_no op i := by
    rw [lk_nc_f, e1]
    rw [lk_is_s, ho, if_neg (by decide), if_pos rfl]
  have e3 : lk_ng op (i + 1) = lk_ng op i := by rw [lk_ng_s, ho, if_neg (by decide)]; rfl
  have e4 : lk_ig op (i + 1) = lk_ig op i := by rw [lk_ig_s, ho, if_neg (by decide), if_neg (by decide)]
  unfold lk_U
  rw [e1, e2, e3, e4, lk_nc_t his]
  exact h
theorem lk_U_cnt {C1' : Nat} (h : lk_U op rg gp i C1 V D G0 GE) (ho : op i = 5 ∨ op i = 6 ∨ op i = 7) (his : lk_is op i = false) (hig : lk_ig op i = false) (hc : C1 ≤ C1') : lk_U op rg gp (i + 1) C1' V D G0 GE := by
  have n1 : ¬ op i = 1 := by rcases ho with e | e | e <;> rw [e] <;> decide
  have n2 : ¬ op i = 2 := by rcases ho with e | e | e <;> rw [e] <;> decide
  have n8 : ¬ op i = 8 := by rcases ho with e | e | e <;> rw [e] <;> decide
  have n9 : ¬ op i = 9 := by rcases ho with e | e | e <;> rw [e] <;> decide
  have e1 : lk_no op (i + 1) = lk_no op i := by rw [lk_no_s, if_neg n1]; rfl
  have e2 : lk_nc op (i + 1) = lk_no op i := by
    rw [lk_nc_f, e1]
    rw [lk_is_s, if_neg n1, if_neg n2]; exact his
  have e3 : lk_ng op (i + 1) = lk_ng op i := by rw [lk_ng_s, if_neg n8]; rfl
  have e4 : lk_ig op (i + 1) = false := by rw [lk_ig_s, if_neg n8, if_neg n9]; exact hig
  unfold lk_U at h ⊢
  rw [e1, e2, e3, e4]
  rw [lk_nc_f his, hig] at h
  exact lk_G2_cnt h hc
theorem lk_U_ovl (h : lk_U op rg gp i C1 V D G0 GE) (ho : op i = 8) (his : lk_is op i = false) (hig : lk_ig op i = false) (hng : lk_ng op i < 2 ^ 30) (hof : ∀ k, k < lk_no op i → rg k = 1 → gp k = -1 ∨ ∃ g, g < lk_ng op i ∧ gp k = nI g) : lk_U op rg gp (i + 1) C1 V D (lk_up G0 (lk_ng op i) C1) (lk_up GE (lk_ng op i) C1) := by
  have e1 : lk_no op (i + 1) = lk_no op i := by rw [lk_no_s, ho, if_neg (by decide)]; rfl
  have e2 : lk_nc op (i + 1) = lk_no op i := by
    rw [lk_nc_f, e1]
    rw [lk_is_s, ho, if_neg (by decide), if_neg (by decide)]; exact his
  have e3 : lk_ng op (i + 1) = lk_ng op i + 1 := by rw [lk_ng_s, ho, if_pos rfl]
  have e4 : lk_ig op (i + 1) = true := by rw [lk_ig_s, ho, if_pos rfl]
  unfold lk_U at h ⊢
  rw [e1, e2, e3, e4]
  rw [lk_nc_f his, hig] at h
  exact lk_G2_ovl h hng hof
theorem lk_U_ove {g : Nat} (h : lk_U op rg gp i C1 V D G0 GE) (ho : op i = 9) (his : lk_is op i = false) (hig : lk_ig op i = true) (hg : lk_ng op i = g + 1) : lk_U op rg gp (i + 1) (GE g) V D G0 GE := by
  have e1 : lk_no op (i + 1) = lk_no op i := by rw [lk_no_s, ho, if_neg (by decide)]; rfl
  have e2 : lk_nc op (i + 1) = lk_no op i := by
    rw [lk_nc_f, e1]
    rw [lk_is_s, ho, if_neg (by decide), if_neg (by decide)]; exact his
  have e3 : lk_ng op (i + 1) = lk_ng op i := by rw [lk_ng_s, ho, if_neg (by decide)]; rfl
  have e4 : lk_ig op (i + 1) = false := by rw [lk_ig_s, ho, if_neg (by decide), if_pos rfl]
  unfold lk_U at h ⊢
  rw [e1, e2, e3, e4]
  rw [lk_nc_f his, hig, hg] at h
  rw [hg]
  exact lk_G2_ove h
end
end
