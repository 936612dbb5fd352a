section
/-! F: the image: X builds it in place, Y reads it section by section -/
theorem lk_img {rg ld : Nat → Int32} {ni : Nat} {own sz len : Nat → Nat} {pl act : Nat → Prop} {B n ng C0 C1 nr k off : Nat} {V L D G0 GE IV : Nat → Nat} {ow fo lo hi m1 m w : Nat → Int32} {b0 : Nat → Nat → Int32} {p : Nat → Bool}
    (hG : lk_G rg ld ni own sz pl B n n ng C0 C1 V L D G0 GE IV)
    (ha : ∀ s, s < ni → act s → pl s ∧ len s = sz s ∧ ld (own s) = 1)
    (hI : lk_I3 ni act (fun s => L (own s) + (IV s - V (own s))) len ow fo lo hi b0 m1 nr m)
    (h1 : ∀ q, q < n → ld q = 1 → ∀ o, o < D q - V q → m1 (L q + o) = 0)
    (hk : k < n) (ho : off < D k - V k)
    (hp : ∀ s, s < ni → (p s = true ↔ act s ∧ own s = k ∧ IV s ≤ V k + off ∧ V k + off < IV s + len s))
    (hw : ∀ s, s < ni → p s = true → w s = lk_rb ow fo lo hi s (V k + off - IV s) (b0 s (V k + off - IV s)) nr) :
    (ld k = 1 → m (L k + off) = lk_fv p w ni 0) ∧ (¬ ld k = 1 → lk_fv p w ni 0 = 0) := by
  obtain ⟨_, _, _, h4, _, _, h7, _⟩ := hG
  rcases lk_fv_or p w ni 0 with ⟨e, hn⟩ | ⟨s, _, hs, hps, e⟩
  · refine ⟨fun hl => ?_, fun _ => e⟩
    rw [e, hI.2 (L k + off), h1 k hk hl off ho]
    intro s hs has c
    have c' : L (own s) + (IV s - V (own s)) ≤ L k + off ∧ L k + off < L (own s) + (IV s - V (own s)) + len s := c
    obtain ⟨p1, e1, l1⟩ := ha s hs has
    obtain ⟨b1, b2, b3⟩ := h7 s hs p1
    by_cases eo : own s = k
    · rw [eo] at c' b2 b3
      exact hn s (Nat.zero_le s) (by omega) ((hp s hs).mpr ⟨has, eo, by omega, by omega⟩)
    · rcases Nat.lt_or_gt_of_ne eo with q | q
      · have g := h4 (own s) k b1 hk q l1 hl
        omega
      · have g := h4 k (own s) hk b1 q hl l1
        omega
  · have hs' : s < ni := by omega
    obtain ⟨has, eo, c1, c2⟩ := (hp s hs').mp hps
    obtain ⟨p1, e1, l1⟩ := ha s hs' has
    obtain ⟨b1, b2, b3⟩ := h7 s hs' p1
    rw [eo] at b2 b3 l1
    refine ⟨fun hl => ?_, fun hl => absurd l1 hl⟩
    have g := hI.1 s hs' has (V k + off - IV s) (by omega)
    have g' : m (L (own s) + (IV s - V (own s)) + (V k + off - IV s)) = lk_rb ow fo lo hi s (V k + off - IV s) (b0 s (V k + off - IV s)) nr := g
    rw [eo, show L k + (IV s - V k) + (V k + off - IV s) = L k + off by omega] at g'
    rw [e, hw s hs' hps]
    exact g'
theorem lk_rom {rg ld : Nat → Int32} {ni : Nat} {own sz len : Nat → Nat} {pl act : Nat → Prop} {B n ng C0 C1 nr : Nat} {V L D G0 GE IV : Nat → Nat} {ow fo lo hi m1 m rom : Nat → Int32} {b0 : Nat → Nat → Int32}
    (hG : lk_G rg ld ni own sz pl B n n ng C0 C1 V L D G0 GE IV)
    (ha : ∀ s, s < ni → act s → pl s ∧ len s = sz s ∧ ld (own s) = 1)
    (hI : lk_I3 ni act (fun s => L (own s) + (IV s - V (own s))) len ow fo lo hi b0 m1 nr m)
    (h1 : ∀ j, j < 128 → (∀ q, q < n → ld q = 1 → ¬ (L q ≤ j ∧ j < L q + (D q - V q))) → m1 j = 255)
    (r1 : ∀ q, q < n → ld q = 1 → ∀ o, o < D q - V q → rom (L q + o) = m (L q + o))
    (r2 : ∀ j, j < 128 → (∀ q, q < n → ld q = 1 → ¬ (L q ≤ j ∧ j < L q + (D q - V q))) → rom j = 255) :
    ∀ j, j < 128 → m j = rom j := by
  obtain ⟨_, _, _, _, _, _, h7, _⟩ := hG
  intro j hj
  by_cases c : ∃ q, q < n ∧ ld q = 1 ∧ L q ≤ j ∧ j < L q + (D q - V q)
  · obtain ⟨q, hq, hl, c1, c2⟩ := c
    have g := r1 q hq hl (j - L q) (by omega)
    rw [show L q + (j - L q) = j by omega] at g
    exact g.symm
  · have hn : ∀ q, q < n → ld q = 1 → ¬ (L q ≤ j ∧ j < L q + (D q - V q)) := fun q hq hl z => c ⟨q, hq, hl, z.1, z.2⟩
    rw [r2 j hj hn, ← h1 j hj hn]
    refine hI.2 j (fun s hs has z => ?_)
    have z' : L (own s) + (IV s - V (own s)) ≤ j ∧ j < L (own s) + (IV s - V (own s)) + len s := z
    obtain ⟨p1, e1, l1⟩ := ha s hs has
    obtain ⟨b1, b2, b3⟩ := h7 s hs p1
    exact hn (own s) b1 l1 (by omega)
end
