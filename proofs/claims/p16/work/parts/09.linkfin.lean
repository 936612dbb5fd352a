section
/-! L: what holds behind the walk -/
def lk_ov (R0 R1 : Nat) (rg ld : Nat → Int32) (V L D : Nat → Nat) (k : Nat) : Bool := decide ((if rg k = 0 then R0 else 256 + R1) < D k ∨ (ld k = 1 ∧ R0 < L k + (D k - V k)))
theorem lk_W_fin {ni : Nat} {rg ld gp : Nat → Int32} {own sz : Nat → Nat} {pl : Nat → Prop} {B n ng R0 R1 : Nat} {C0 C1 : Nat} {V L D G0 GE IV : Nat → Nat} {ct vm lm dt gs ge xv os yg0 yg1 yv yl : Nat → Int32} {c0 c1 g0 yge grp k dot vma lma ing : Int32}
    (h : lk_W ni rg ld own sz pl B n n ng false C0 C1 V L D G0 GE IV ct vm lm dt gs ge xv os yg0 yg1 yv yl c0 c1 g0 yge grp k dot vma lma ing) (hB : B < 2 ^ 30) (ho : ∀ k, k < n → lk_of ng rg ld gp k) (hv : lk_ex (lk_ov R0 R1 rg ld V L D) n 0 = false) :
    (∀ k, k < n → vm k = nI (V k) ∧ lm k = nI (L k) ∧ dt k = nI (D k) ∧ os k = nI (D k - V k) ∧ V k ≤ D k ∧ (rg k = 1 → 256 ≤ V k ∧ D k ≤ 256 + R1) ∧ (rg k = 0 → D k ≤ R0) ∧ (ld k = 1 → L k + (D k - V k) ≤ R0)) ∧
    (∀ g, g < ng → ∃ a b, gs g = nI a ∧ yg0 g = nI a ∧ ge g = nI b ∧ yg1 g = nI b ∧ 256 ≤ a ∧ a ≤ b ∧ b < 2 ^ 30 ∧ (b = a ∨ b ≤ 256 + R1)) := by
  obtain ⟨⟨_, b2, _, _, _, b6, _, _⟩, _, h3, h4, h5, h6, _⟩ := h
  have hk : ∀ k, k < n → (rg k = 1 → 256 ≤ V k ∧ D k ≤ 256 + R1) ∧ (rg k = 0 → D k ≤ R0) ∧ (ld k = 1 → L k + (D k - V k) ≤ R0) := by
    intro k hk
    have hn := lk_ex_no n 0 hv k (Nat.zero_le k) (by omega)
    have hn2 : ¬ ((if rg k = 0 then R0 else 256 + R1) < D k ∨ (ld k = 1 ∧ R0 < L k + (D k - V k))) := fun z => hn (decide_eq_true z)
    refine ⟨fun e => ⟨(b2 k hk).2.2.2.1 e, ?_⟩, fun e => ?_, fun e => ?_⟩
    · rw [e, if_neg (by decide)] at hn2
      have : ¬ 256 + R1 < D k := fun z => hn2 (Or.inl z)
      omega
    · rw [if_pos e] at hn2
      have : ¬ R0 < D k := fun z => hn2 (Or.inl z)
      omega
    · have : ¬ R0 < L k + (D k - V k) := fun z => hn2 (Or.inr ⟨e, z⟩)
      omega
  refine ⟨fun k hkn => ?_, fun g hg => ?_⟩
  · obtain ⟨e1, e2, e3⟩ := h3 k hkn
    exact ⟨e1, e2, e3, h4 k hkn, (b2 k hkn).1, hk k hkn⟩
  · obtain ⟨e1, e2⟩ := h5 g hg
    obtain ⟨e3, e4⟩ := h6 g hg (fun z => absurd z (by decide))
    obtain ⟨d1, d2, d3, d4⟩ := b6 g hg
    refine ⟨G0 g, GE g, e1, e3, e2, e4, d1, d2, by omega, ?_⟩
    rcases d4 with d4 | ⟨k, hkn, er, ed⟩
    · exact Or.inl d4
    · have := ((hk k hkn).1 er).2
      exact Or.inr (by omega)
/-- X's zeroes -/
def lk_I1 (ld : Nat → Int32) (L D V : Nat → Nat) (me : Nat → Int32) (k : Nat) (m : Nat → Int32) : Prop :=
  (∀ q, q < k → ld q = 1 → ∀ o, o < D q - V q → m (L q + o) = 0) ∧
  (∀ j, (∀ q, q < k → ld q = 1 → ¬ (L q ≤ j ∧ j < L q + (D q - V q))) → m j = me j)
theorem lk_I1_0 {ld : Nat → Int32} {L D V : Nat → Nat} {me : Nat → Int32} : lk_I1 ld L D V me 0 me := ⟨fun q h => absurd h (Nat.not_lt_zero q), fun _ _ => rfl⟩
theorem lk_I1_n {ld : Nat → Int32} {L D V : Nat → Nat} {me m : Nat → Int32} {k : Nat} (h : lk_I1 ld L D V me k m) (hn : ¬ ld k = 1) : lk_I1 ld L D V me (k + 1) m := by
  refine ⟨fun q hq e => ?_, fun j hj => h.2 j (fun q hq e => hj q (by omega) e)⟩
  have : q ≠ k := fun z => hn (z ▸ e)
  exact h.1 q (by omega) e
theorem lk_I1_s {ld : Nat → Int32} {L D V : Nat → Nat} {me m : Nat → Int32} {k : Nat} (h : lk_I1 ld L D V me k m) (hl : ld k = 1) : lk_I1 ld L D V me (k + 1) (lk_wr m (L k) (L k + (D k - V k)) (fun _ => 0)) := by
  refine ⟨fun q hq e o ho => ?_, fun j hj => ?_⟩
  · by_cases c : L k ≤ L q + o ∧ L q + o < L k + (D k - V k)
    · rw [lk_wr_t c.1 c.2]
    · rw [lk_wr_f c]
      by_cases eq : q = k
      · subst eq; exact absurd ⟨by omega, by omega⟩ c
      · exact h.1 q (by omega) e o ho
  · rw [lk_wr_f (hj k (by omega) hl)]
    exact h.2 j (fun q hq e => hj q (by omega) e)
/-- Y's ROM while it is written: mf is X's at the end -/
def lk_J (ld : Nat → Int32) (L D V : Nat → Nat) (mf : Nat → Int32) (k : Nat) (rom : Nat → Int32) : Prop :=
  (∀ q, q < k → ld q = 1 → ∀ o, o < D q - V q → rom (L q + o) = mf (L q + o)) ∧
  (∀ j, j < 128 → (∀ q, q < k → ld q = 1 → ¬ (L q ≤ j ∧ j < L q + (D q - V q))) → rom j = 255)
theorem lk_J_0 {ld : Nat → Int32} {L D V : Nat → Nat} {mf rom : Nat → Int32} (h : ∀ j, j < 128 → rom j = 255) : lk_J ld L D V mf 0 rom := ⟨fun q h => absurd h (Nat.not_lt_zero q), fun j hj _ => h j hj⟩
theorem lk_J_n {ld : Nat → Int32} {L D V : Nat → Nat} {mf rom : Nat → Int32} {k : Nat} (h : lk_J ld L D V mf k rom) (hn : ¬ ld k = 1) : lk_J ld L D V mf (k + 1) rom := by
  refine ⟨fun q hq e => ?_, fun j hj hc => h.2 j hj (fun q hq e => hc q (by omega) e)⟩
  have : q ≠ k := fun z => hn (z ▸ e)
  exact h.1 q (by omega) e
theorem lk_J_s {ld : Nat → Int32} {L D V : Nat → Nat} {mf rom F : Nat → Int32} {k : Nat} (h : lk_J ld L D V mf k rom) (hl : ld k = 1) (hF : ∀ o, o < D k - V k → F (L k + o) = mf (L k + o)) : lk_J ld L D V mf (k + 1) (lk_wr rom (L k) (L k + (D k - V k)) F) := by
  refine ⟨fun q hq e o ho => ?_, fun j hj hc => ?_⟩
  · by_cases c : L k ≤ L q + o ∧ L q + o < L k + (D k - V k)
    · rw [lk_wr_t c.1 c.2]
      have g := hF (L q + o - L k) (by omega)
      rw [show L k + (L q + o - L k) = L q + o by omega] at g
      exact g
    · rw [lk_wr_f c]
      by_cases eq : q = k
      · subst eq; exact absurd ⟨by omega, by omega⟩ c
      · exact h.1 q (by omega) e o ho
  · rw [lk_wr_f (hc k (by omega) hl)]
    exact h.2 j hj (fun q hq e => hc q (by omega) e)
end
