section
/-! H: what link reckons, without the walk -/
theorem lk_ff_sn (p : Nat → Bool) : ∀ d j : Nat, j + d < 2 ^ 31 → lk_ff p (d + 1) j = if lk_ff p d j = -1 then (if p (j + d) = true then nI (j + d) else -1) else lk_ff p d j := by
  intro d
  induction d with
  | zero => intro j _; rfl
  | succ d ih =>
    intro j hj
    by_cases h : p j = true
    · rw [lk_ff_t h, lk_ff_t h, if_neg]
      intro e
      have := nI_pos (n := j) (by omega)
      rw [e] at this
      exact absurd (by decide : (-1 : Int32) < 0) this
    · rw [lk_ff_f h, lk_ff_f h, ih (j + 1) (by omega), show j + 1 + d = j + (d + 1) by omega]
theorem lk_nn1 {j : Nat} (h : j < 2 ^ 31) : ¬ nI j = -1 := by
  intro e
  have := nI_pos (n := j) h
  rw [e] at this
  exact absurd (by decide : (-1 : Int32) < 0) this
/-- the first n cells written by F -/
def lk_as (f : Nat → Int32) (n : Nat) (F : Nat → Int32) : Nat → Int32 := fun s => if s < n then F s else f s
theorem lk_as_0 {f F : Nat → Int32} : lk_as f 0 F = f := by
  funext s
  exact if_neg (Nat.not_lt_zero s)
theorem lk_as_s {f F : Nat → Int32} {n : Nat} {x : Int32} (h : x = F n) : upd (lk_as f n F) n x = lk_as f (n + 1) F := by
  funext s
  by_cases e : s = n
  · subst e
    rw [pk_us, h]
    exact (if_pos (Nat.lt_succ_self s)).symm
  · rw [pk_un e]
    unfold lk_as
    by_cases c : s < n
    · rw [if_pos c, if_pos (show s < n + 1 by omega)]
    · rw [if_neg c, if_neg (show ¬ s < n + 1 by omega)]
theorem lk_as_t {f F : Nat → Int32} {n s : Nat} (h : s < n) : lk_as f n F s = F s := if_pos h
theorem lk_as_f {f F : Nat → Int32} {n s : Nat} (h : ¬ s < n) : lk_as f n F s = f s := if_neg h
/-- statement i takes section s -/
def lk_mt (op sa sb kd id : Nat → Int32) (s i : Nat) : Bool := decide ((op i = 3 ∨ op i = 4) ∧ (sa i = -1 ∨ sa i = id s) ∧ (sb i = 0 ∨ sb i = kd s))
def lk_fm (op sa sb kd id : Nat → Int32) (ns s : Nat) : Int32 := lk_ff (lk_mt op sa sb kd id s) ns 0
theorem lk_fm_or {op sa sb kd id : Nat → Int32} {ns s : Nat} : lk_fm op sa sb kd id ns s = -1 ∨ ∃ i, i < ns ∧ (op i = 3 ∨ op i = 4) ∧ lk_fm op sa sb kd id ns s = nI i := by
  rcases lk_ff_or (lk_mt op sa sb kd id s) ns 0 with e | ⟨i, _, h2, h3, h4⟩
  · exact Or.inl e
  · exact Or.inr ⟨i, by omega, (of_decide_eq_true h3).1, h4⟩
/-- live at first -/
def lk_l0 (op st : Nat → Int32) (gc : Int32) (s : Nat) : Int32 := if ¬ st s = -1 ∧ (gc = 0 ∨ op (st s).toNatClampNeg = 4) then 1 else 0
theorem lk_l0_a {op st : Nat → Int32} {gc : Int32} {s : Nat} (h : lk_l0 op st gc s = 1) : ¬ st s = -1 := by
  unfold lk_l0 at h
  by_cases c : ¬ st s = -1 ∧ (gc = 0 ∨ op (st s).toNatClampNeg = 4)
  · exact c.1
  · rw [if_neg c] at h
    exact absurd h (by decide)
def lk_lv (op st ro rt : Nat → Int32) (gc : Int32) (ni nr : Nat) (lv : Nat → Int32) : Nat → Int32 := lk_it (lk_sp ro rt st ni) nr ni (lk_as lv ni (lk_l0 op st gc))
/-- a live relocation with an undefined target -/
def lk_ud (ro rt st lv : Nat → Int32) (ni r : Nat) : Bool := decide (lv (ro r).toNatClampNeg = 1 ∧ ¬ lk_on rt st ni r = true)
/-- live bytes in a NOLOAD section -/
def lk_nl (kd st lv ld ow : Nat → Int32) (s : Nat) : Bool := decide (lv s = 1 ∧ ¬ kd s = 3 ∧ ld (ow (st s).toNatClampNeg).toNatClampNeg = 0)
/-- the output sections that the script begins -/
def lk_of (ng : Nat) (rg ld gp : Nat → Int32) (k : Nat) : Prop := (rg k = 0 ∧ ld k = 1 ∧ gp k = -1) ∨ (rg k = 1 ∧ (ld k = 0 ∨ ld k = 1) ∧ (gp k = -1 ∨ ∃ g, g < ng ∧ gp k = nI g))
theorem lk_S_o {op sa sb ox oy rg ld gp : Nat → Int32} {ns : Nat} (h : ∀ i, i < ns → lk_sc op sa sb ox oy rg ld gp i) : ∀ n, n ≤ ns → ∀ k, k < lk_no op n → lk_of (lk_ng op ns) rg ld gp k := by
  intro n
  induction n with
  | zero => intro _ k hk; exact absurd hk (Nat.not_lt_zero k)
  | succ n ih =>
    intro hn k hk
    by_cases c : k < lk_no op n
    · exact ih (by omega) k c
    · rw [lk_no_s] at hk
      by_cases h1 : op n = 1
      · rw [if_pos h1] at hk
        have ek : k = lk_no op n := by omega
        subst ek
        have h2 := h n (by omega)
        unfold lk_sc at h2
        rcases h2 with ⟨_, _, hab, _, _, e1, e2, e3⟩ | ⟨h2, _⟩ | ⟨h2, _⟩ | ⟨h2, _⟩ | ⟨h2, _⟩
        · unfold lk_of
          rw [e1, e2, e3]
          rcases hab with ⟨a1, a2, a3⟩ | ⟨a1, a2⟩
          · rw [a3, if_neg (by decide)]
            exact Or.inl ⟨a1, a2, rfl⟩
          · refine Or.inr ⟨a1, a2, ?_⟩
            by_cases hg : lk_ig op n = true
            · rw [if_pos hg]
              have g1 := lk_ig_p n hg
              have g2 := lk_ng_m (op := op) (i := n) (ns - n)
              rw [show n + (ns - n) = ns by omega] at g2
              exact Or.inr ⟨_, by omega, rfl⟩
            · rw [if_neg hg]
              exact Or.inl rfl
        · rw [h1] at h2; exact absurd h2 (by decide)
        · rw [h1] at h2; exact absurd h2 (by decide)
        · rw [h1] at h2; exact absurd h2 (by decide)
        · rw [h1] at h2; exact absurd h2 (by decide)
      · rw [if_neg h1] at hk
        exact absurd hk c
/-- a statement that takes sections: its owner on both sides -/
theorem lk_S_i {op sa sb ox oy rg ld gp : Nat → Int32} {ns i : Nat} (h : ∀ i, i < ns → lk_sc op sa sb ox oy rg ld gp i) (hi : i < ns) (ho : op i = 3 ∨ op i = 4) : lk_is op i = true ∧ 1 ≤ lk_no op i ∧ lk_no op i ≤ lk_no op ns ∧ ox i = nI (lk_no op i - 1) ∧ oy i = nI (lk_no op i - 1) := by
  have h2 := h i hi
  unfold lk_sc at h2
  have m := lk_no_m (op := op) (i := i) (ns - i)
  rw [show i + (ns - i) = ns by omega] at m
  rcases h2 with ⟨h2, _⟩ | ⟨_, h3, h4, h5⟩ | ⟨h2, _⟩ | ⟨h2, _⟩ | ⟨h2, _⟩
  · rcases ho with e | e <;> rw [e] at h2 <;> exact absurd h2 (by decide)
  · exact ⟨h3, lk_is_p i h3, m, h4, h5⟩
  · rcases ho with e | e <;> rw [e] at h2 <;> exact absurd h2 (by decide)
  · rcases ho with e | e <;> rw [e] at h2 <;> exact absurd h2 (by decide)
  · rcases ho with e | e <;> rw [e] at h2 <;> exact absurd h2 (by decide)
end
