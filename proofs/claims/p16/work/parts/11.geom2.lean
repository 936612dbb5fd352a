section
/-! run addresses never meet. n begun, nc closed, ng groups begun, ig: a group runs -/
def lk_G2 (rg gp : Nat → Int32) (n nc ng : Nat) (ig : Bool) (C1 : Nat) (V D G0 GE : Nat → Nat) : Prop :=
  (∀ k, k < nc → rg k = 1 → gp k = -1 → D k ≤ C1) ∧
  (∀ k g, k < n → g < ng → rg k = 1 → gp k = nI g → G0 g ≤ V k ∧ (k < nc → D k ≤ GE g)) ∧
  (∀ g, g < ng → (ig = true → g + 1 < ng) → GE g ≤ C1) ∧
  (ig = true → 1 ≤ ng ∧ G0 (ng - 1) = C1) ∧
  (∀ g, g < ng → G0 g ≤ GE g) ∧
  (∀ g h, g < h → h < ng → GE g ≤ G0 h) ∧
  (∀ j k, j < k → k < n → rg j = 1 → rg k = 1 → (gp j = -1 ∨ ¬ gp j = gp k) → D j ≤ V k) ∧
  (∀ k g, k < n → g < ng → rg k = 1 → gp k = -1 → (k < nc ∧ D k ≤ G0 g) ∨ GE g ≤ V k) ∧
  (nc < n → rg nc = 1 → C1 ≤ V nc)
theorem lk_G2_0 {rg gp : Nat → Int32} {V D G0 GE : Nat → Nat} : lk_G2 rg gp 0 0 0 false 256 V D G0 GE :=
  ⟨fun k h => absurd h (Nat.not_lt_zero k), fun k _ h => absurd h (Nat.not_lt_zero k), fun g h => absurd h (Nat.not_lt_zero g), fun z => Bool.noConfusion z, fun g h => absurd h (Nat.not_lt_zero g), fun _ h _ z => absurd z (Nat.not_lt_zero h), fun _ k _ z => absurd z (Nat.not_lt_zero k), fun k _ h => absurd h (Nat.not_lt_zero k), fun z => absurd z (Nat.lt_irrefl 0)⟩
theorem lk_G2_sec {rg gp : Nat → Int32} {n ng v : Nat} {ig : Bool} {C1 : Nat} {V D G0 GE : Nat → Nat} (h : lk_G2 rg gp n n ng ig C1 V D G0 GE) (hng : ng < 2 ^ 31)
    (hgp : gp n = if ig = true then nI (ng - 1) else -1) (hof : ∀ k, k < n → rg k = 1 → gp k = -1 ∨ ∃ g, g < ng ∧ gp k = nI g) (hv : rg n = 1 → C1 ≤ v) :
    lk_G2 rg gp (n + 1) n ng ig C1 (lk_up V n v) (lk_up D n v) G0 GE := by
  obtain ⟨h1, h2, h3, h4, h5, h6, h7, h8, h9⟩ := h
  refine ⟨fun k hk => ?_, fun k g hk hg r e => ?_, h3, h4, h5, h6, fun j k hjk hk r1 r2 hne => ?_, fun k g hk hg r e => ?_, fun _ r => ?_⟩
  · rw [lk_upn (show k ≠ n by omega)]
    exact h1 k hk
  · by_cases c : k = n
    · subst c
      rw [lk_ups]
      refine ⟨?_, fun z => absurd z (Nat.lt_irrefl k)⟩
      rcases Bool.eq_false_or_eq_true ig with z | z
      · rw [hgp, if_pos z] at e
        obtain ⟨p1, p2⟩ := h4 z
        have eg : ng - 1 = g := (nI_eq (by omega) (by omega)).mp e
        rw [← eg, p2]
        exact hv r
      · rw [hgp, z, if_neg (by decide)] at e
        exact absurd e.symm (lk_nn1 (by omega))
    · rw [lk_upn c, lk_upn c]
      exact h2 k g (by omega) hg r e
  · have cj : j ≠ n := by omega
    rw [lk_upn cj]
    by_cases c : k = n
    · subst c
      rw [lk_ups]
      refine Nat.le_trans ?_ (hv r2)
      rcases hof j (by omega) r1 with z | ⟨g, hg, z⟩
      · exact h1 j (by omega) r1 z
      · refine Nat.le_trans ((h2 j g (by omega) hg r1 z).2 (by omega)) (h3 g hg (fun y => ?_))
        rw [hgp, if_pos y, z] at hne
        have nz : ¬ nI g = -1 := lk_nn1 (by omega)
        have : g ≠ ng - 1 := fun w => (hne.resolve_left nz) (by rw [w])
        omega
    · rw [lk_upn c]
      exact h7 j k hjk (by omega) r1 r2 hne
  · by_cases c : k = n
    · subst c
      rw [lk_ups, lk_ups]
      refine Or.inr (Nat.le_trans (h3 g hg (fun y => ?_)) (hv r))
      rw [hgp, if_pos y] at e
      exact absurd e (lk_nn1 (by omega))
    · rw [lk_upn c, lk_upn c]
      exact h8 k g (by omega) hg r e
  · rw [lk_ups]
    exact hv r
theorem lk_G2_D {rg gp : Nat → Int32} {nc ng : Nat} {ig : Bool} {C1 : Nat} {V D D' G0 GE : Nat → Nat} (h : lk_G2 rg gp (nc + 1) nc ng ig C1 V D G0 GE) (hD : ∀ k, k ≠ nc → D' k = D k) : lk_G2 rg gp (nc + 1) nc ng ig C1 V D' G0 GE := by
  obtain ⟨h1, h2, h3, h4, h5, h6, h7, h8, h9⟩ := h
  refine ⟨fun k hk => ?_, fun k g hk hg r e => ⟨(h2 k g hk hg r e).1, fun z => ?_⟩, h3, h4, h5, h6, fun j k hjk hk r1 r2 hne => ?_, fun k g hk hg r e => ?_, h9⟩
  · rw [hD k (by omega)]
    exact h1 k hk
  · rw [hD k (by omega)]
    exact (h2 k g hk hg r e).2 z
  · rw [hD j (by omega)]
    exact h7 j k hjk hk r1 r2 hne
  · rcases h8 k g hk hg r e with ⟨z1, z2⟩ | z
    · refine Or.inl ⟨z1, ?_⟩
      rw [hD k (by omega)]
      exact z2
    · exact Or.inr z
/-- OP_END of a ROM section -/
theorem lk_G2_e0 {rg gp : Nat → Int32} {nc ng : Nat} {ig : Bool} {C1 : Nat} {V D G0 GE : Nat → Nat} (h : lk_G2 rg gp (nc + 1) nc ng ig C1 V D G0 GE) (hr : rg nc = 0) : lk_G2 rg gp (nc + 1) (nc + 1) ng ig C1 V D G0 GE := by
  obtain ⟨h1, h2, h3, h4, h5, h6, h7, h8, h9⟩ := h
  have ne : ∀ k, rg k = 1 → k ≠ nc := by
    intro k r z
    rw [z, hr] at r
    exact absurd r (by decide)
  refine ⟨fun k hk r e => h1 k (by have := ne k r; omega) r e, fun k g hk hg r e => ⟨(h2 k g hk hg r e).1, fun _ => (h2 k g hk hg r e).2 (by have := ne k r; omega)⟩, h3, h4, h5, h6, h7, fun k g hk hg r e => ?_, fun z => absurd z (Nat.lt_irrefl _)⟩
  rcases h8 k g hk hg r e with ⟨z1, z2⟩ | z
  · exact Or.inl ⟨by omega, z2⟩
  · exact Or.inr z
/-- OP_END of a RAM section outside a group -/
theorem lk_G2_e1 {rg gp : Nat → Int32} {nc ng : Nat} {C1 : Nat} {V D G0 GE : Nat → Nat} (h : lk_G2 rg gp (nc + 1) nc ng false C1 V D G0 GE) (hr : rg nc = 1) (hg : gp nc = -1) (hng : ng < 2 ^ 31) (hvd : V nc ≤ D nc) : lk_G2 rg gp (nc + 1) (nc + 1) ng false (D nc) V D G0 GE := by
  obtain ⟨h1, h2, h3, h4, h5, h6, h7, h8, h9⟩ := h
  have h10 := h9 (by omega) hr
  refine ⟨fun k hk r e => ?_, fun k g hk hgn r e => ⟨(h2 k g hk hgn r e).1, fun _ => (h2 k g hk hgn r e).2 ?_⟩, fun g hgn z => Nat.le_trans (h3 g hgn z) (by omega), fun z => Bool.noConfusion z, h5, h6, h7, fun k g hk hgn r e => ?_, fun z => absurd z (Nat.lt_irrefl _)⟩
  · by_cases c : k = nc
    · subst c; exact Nat.le_refl _
    · have := h1 k (by omega) r e
      omega
  · have : k ≠ nc := by
      intro z
      rw [z, hg] at e
      exact absurd e.symm (lk_nn1 (by omega))
    omega
  · rcases h8 k g hk hgn r e with ⟨z1, z2⟩ | z
    · exact Or.inl ⟨by omega, z2⟩
    · exact Or.inr z
/-- OP_END of a member of the running group gs -/
theorem lk_G2_e2 {rg gp : Nat → Int32} {nc gs : Nat} {C1 : Nat} {V D G0 GE GE' : Nat → Nat} (h : lk_G2 rg gp (nc + 1) nc (gs + 1) true C1 V D G0 GE) (hr : rg nc = 1) (hg : gp nc = nI gs) (hgs : gs + 1 < 2 ^ 31) (h1' : ∀ g, g < gs → GE' g = GE g) (h2' : GE gs ≤ GE' gs) (h3' : D nc ≤ GE' gs) : lk_G2 rg gp (nc + 1) (nc + 1) (gs + 1) true C1 V D G0 GE' := by
  obtain ⟨h1, h2, h3, h4, h5, h6, h7, h8, h9⟩ := h
  have h4' := (h4 rfl).2
  rw [Nat.add_sub_cancel] at h4'
  have nu : ∀ k, gp k = -1 → k ≠ nc := by
    intro k e z
    rw [z, hg] at e
    exact lk_nn1 (by omega) e
  refine ⟨fun k hk r e => h1 k (by have := nu k e; omega) r e, fun k g hk hgn r e => ⟨(h2 k g hk hgn r e).1, fun hk2 => ?_⟩, fun g hgn z => ?_, fun _ => h4 rfl, fun g hgn => ?_, fun g hh hgh hhn => ?_, h7, fun k g hk hgn r e => ?_, fun z => absurd z (Nat.lt_irrefl _)⟩
  · by_cases c : g = gs
    · subst c
      by_cases ck : k = nc
      · subst ck; exact h3'
      · exact Nat.le_trans ((h2 k g hk hgn r e).2 (by omega)) h2'
    · rw [h1' g (by omega)]
      have ck : k ≠ nc := by
        intro z
        rw [z, hg] at e
        exact c ((nI_eq (by omega) (by omega)).mp e).symm
      exact (h2 k g hk hgn r e).2 (by omega)
  · have := z rfl
    rw [h1' g (by omega)]
    exact h3 g hgn z
  · by_cases c : g = gs
    · subst c
      exact Nat.le_trans (h5 g hgn) h2'
    · rw [h1' g (by omega)]
      exact h5 g hgn
  · rw [h1' g (by omega)]
    exact h6 g hh hgh hhn
  · by_cases c : g = gs
    · subst c
      refine Or.inl ⟨by have := nu k e; omega, ?_⟩
      rw [h4']
      exact h1 k (by have := nu k e; omega) r e
    · rw [h1' g (by omega)]
      rcases h8 k g hk hgn r e with ⟨z1, z2⟩ | z
      · exact Or.inl ⟨by omega, z2⟩
      · exact Or.inr z
theorem lk_G2_cnt {rg gp : Nat → Int32} {n ng : Nat} {C1 C1' : Nat} {V D G0 GE : Nat → Nat} (h : lk_G2 rg gp n n ng false C1 V D G0 GE) (hc : C1 ≤ C1') : lk_G2 rg gp n n ng false C1' V D G0 GE := by
  obtain ⟨h1, h2, h3, h4, h5, h6, h7, h8, h9⟩ := h
  exact ⟨fun k hk r e => Nat.le_trans (h1 k hk r e) hc, h2, fun g hg z => Nat.le_trans (h3 g hg z) hc, fun z => Bool.noConfusion z, h5, h6, h7, h8, fun z => absurd z (Nat.lt_irrefl _)⟩
theorem lk_G2_ovl {rg gp : Nat → Int32} {n ng : Nat} {C1 : Nat} {V D G0 GE : Nat → Nat} (h : lk_G2 rg gp n n ng false C1 V D G0 GE) (hng : ng < 2 ^ 30) (hof : ∀ k, k < n → rg k = 1 → gp k = -1 ∨ ∃ g, g < ng ∧ gp k = nI g) : lk_G2 rg gp n n (ng + 1) true C1 V D (lk_up G0 ng C1) (lk_up GE ng C1) := by
  obtain ⟨h1, h2, h3, h4, h5, h6, h7, h8, h9⟩ := h
  have h3' : ∀ g, g < ng → GE g ≤ C1 := fun g hg => h3 g hg (fun z => Bool.noConfusion z)
  refine ⟨h1, fun k g hk hg r e => ?_, fun g hg z => ?_, fun _ => ⟨by omega, by rw [Nat.add_sub_cancel, lk_ups]⟩, fun g hg => ?_, fun g hh hgh hhn => ?_, h7, fun k g hk hg r e => ?_, fun z => absurd z (Nat.lt_irrefl _)⟩
  · have c : g ≠ ng := by
      intro z
      rcases hof k hk r with y | ⟨q, hq, y⟩
      · rw [y] at e
        exact lk_nn1 (by omega) e.symm
      · rw [y] at e
        have := (nI_eq (by omega) (by omega)).mp e
        omega
    rw [lk_upn c, lk_upn c]
    exact h2 k g hk (by omega) r e
  · have := z rfl
    rw [lk_upn (show g ≠ ng by omega)]
    exact h3' g (by omega)
  · by_cases c : g = ng
    · subst c; rw [lk_ups, lk_ups]; exact Nat.le_refl _
    · rw [lk_upn c, lk_upn c]; exact h5 g (by omega)
  · rw [lk_upn (show g ≠ ng by omega)]
    by_cases c : hh = ng
    · subst c; rw [lk_ups]; exact h3' g (by omega)
    · rw [lk_upn c]; exact h6 g hh hgh (by omega)
  · by_cases c : g = ng
    · subst c
      rw [lk_ups]
      exact Or.inl ⟨hk, h1 k hk r e⟩
    · rw [lk_upn c, lk_upn c]
      exact h8 k g hk (by omega) r e
theorem lk_G2_ove {rg gp : Nat → Int32} {n gs : Nat} {C1 : Nat} {V D G0 GE : Nat → Nat} (h : lk_G2 rg gp n n (gs + 1) true C1 V D G0 GE) : lk_G2 rg gp n n (gs + 1) false (GE gs) V D G0 GE := by
  obtain ⟨h1, h2, h3, h4, h5, h6, h7, h8, h9⟩ := h
  have h4' := (h4 rfl).2
  rw [Nat.add_sub_cancel] at h4'
  have hle : C1 ≤ GE gs := by
    rw [← h4']
    exact h5 gs (by omega)
  refine ⟨fun k hk r e => Nat.le_trans (h1 k hk r e) hle, h2, fun g hg _ => ?_, fun z => Bool.noConfusion z, h5, h6, h7, h8, fun z => absurd z (Nat.lt_irrefl _)⟩
  by_cases c : g = gs
  · subst c; exact Nat.le_refl _
  · exact Nat.le_trans (h3 g hg (fun _ => by omega)) hle
end
