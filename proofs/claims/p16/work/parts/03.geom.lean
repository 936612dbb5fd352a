section
/-! E: the geometry of the walk, over naturals alone -/
def lk_up (f : Nat → Nat) (k x : Nat) : Nat → Nat := fun j => if j = k then x else f j
theorem lk_ups {f : Nat → Nat} {k x : Nat} : lk_up f k x k = x := if_pos rfl
theorem lk_upn {f : Nat → Nat} {k j x : Nat} (h : j ≠ k) : lk_up f k x j = f j := if_neg h
/-- n outs begun, nc of them closed; B above every number -/
def lk_G (rg ld : Nat → Int32) (ni : Nat) (own sz : Nat → Nat) (pl : Nat → Prop) (B n nc ng C0 C1 : Nat) (V L D G0 GE IV : Nat → Nat) : Prop :=
  (C0 ≤ B ∧ C1 ≤ B ∧ 256 ≤ C1 ∧ nc ≤ n ∧ n ≤ nc + 1) ∧
  (∀ k, k < n → V k ≤ D k ∧ D k ≤ B ∧ L k + (D k - V k) ≤ B ∧ (rg k = 1 → 256 ≤ V k) ∧ (rg k = 0 → L k = V k)) ∧
  (∀ k, k < nc → ld k = 1 → L k + (D k - V k) ≤ C0) ∧
  (∀ j k, j < nc → k < n → j < k → ld j = 1 → ld k = 1 → L j + (D j - V j) ≤ L k) ∧
  (nc < n → ld nc = 1 → C0 ≤ L nc) ∧
  (∀ g, g < ng → 256 ≤ G0 g ∧ G0 g ≤ GE g ∧ GE g ≤ B ∧ (GE g = G0 g ∨ ∃ k, k < nc ∧ rg k = 1 ∧ D k = GE g)) ∧
  (∀ s, s < ni → pl s → own s < n ∧ V (own s) ≤ IV s ∧ IV s + sz s ≤ D (own s)) ∧
  (∀ s t, s < ni → t < ni → pl s → pl t → s ≠ t → own s = own t → IV s + sz s ≤ IV t ∨ IV t + sz t ≤ IV s)
theorem lk_G_0 {rg ld : Nat → Int32} {ni : Nat} {own sz : Nat → Nat} {pl : Nat → Prop} {B : Nat} {V L D G0 GE IV : Nat → Nat} (hB : 256 ≤ B) (hp : ∀ s, s < ni → ¬ pl s) : lk_G rg ld ni own sz pl B 0 0 0 0 256 V L D G0 GE IV :=
  ⟨⟨by omega, hB, by omega, by omega, by omega⟩, fun k h => absurd h (Nat.not_lt_zero k), fun k h => absurd h (Nat.not_lt_zero k), fun j k h => absurd h (Nat.not_lt_zero j), fun h => absurd h (Nat.not_lt_zero 0), fun g h => absurd h (Nat.not_lt_zero g), fun s h1 h2 => absurd h2 (hp s h1), fun s t h1 _ h2 => absurd h2 (hp s h1)⟩
theorem lk_G_pl {rg ld : Nat → Int32} {ni : Nat} {own sz : Nat → Nat} {pl pl' : Nat → Prop} {B n nc ng C0 C1 : Nat} {V L D G0 GE IV : Nat → Nat} (h : lk_G rg ld ni own sz pl B n nc ng C0 C1 V L D G0 GE IV) (hp : ∀ s, s < ni → pl' s → pl s) : lk_G rg ld ni own sz pl' B n nc ng C0 C1 V L D G0 GE IV := by
  obtain ⟨h1, h2, h3, h4, h5, h6, h7, h8⟩ := h
  exact ⟨h1, h2, h3, h4, h5, h6, fun s hs p => h7 s hs (hp s hs p), fun s t hs ht p q => h8 s t hs ht (hp s hs p) (hp t ht q)⟩
theorem lk_G_B {rg ld : Nat → Int32} {ni : Nat} {own sz : Nat → Nat} {pl : Nat → Prop} {B B' n nc ng C0 C1 : Nat} {V L D G0 GE IV : Nat → Nat} (h : lk_G rg ld ni own sz pl B n nc ng C0 C1 V L D G0 GE IV) (hB : B ≤ B') : lk_G rg ld ni own sz pl B' n nc ng C0 C1 V L D G0 GE IV := by
  obtain ⟨⟨a1, a2, a3, a4, a5⟩, h2, h3, h4, h5, h6, h7, h8⟩ := h
  refine ⟨⟨by omega, by omega, a3, a4, a5⟩, fun k hk => ?_, h3, h4, h5, fun g hg => ?_, h7, h8⟩
  · obtain ⟨b1, b2, b3, b4, b5⟩ := h2 k hk
    exact ⟨b1, by omega, by omega, b4, b5⟩
  · obtain ⟨b1, b2, b3, b4⟩ := h6 g hg
    exact ⟨b1, b2, by omega, b4⟩
/-- OP_SECTION -/
theorem lk_G_sec {rg ld : Nat → Int32} {ni : Nat} {own sz : Nat → Nat} {pl : Nat → Prop} {B n ng C0 C1 v l : Nat} {V L D G0 GE IV : Nat → Nat} (h : lk_G rg ld ni own sz pl B n n ng C0 C1 V L D G0 GE IV) (hv : v ≤ B) (hl : l ≤ B) (h256 : rg n = 1 → 256 ≤ v) (hr : rg n = 0 → l = v) (hc : ld n = 1 → C0 ≤ l) : lk_G rg ld ni own sz pl B (n + 1) n ng C0 C1 (lk_up V n v) (lk_up L n l) (lk_up D n v) G0 GE IV := by
  obtain ⟨⟨a1, a2, a3, a4, a5⟩, h2, h3, h4, h5, h6, h7, h8⟩ := h
  refine ⟨⟨a1, a2, a3, by omega, by omega⟩, fun k hk => ?_, fun k hk e => ?_, fun j k hj hk hjk e1 e2 => ?_, fun _ e => ?_, fun g hg => ?_, fun s hs p => ?_, h8⟩
  · by_cases e : k = n
    · subst e
      rw [lk_ups, lk_ups, lk_ups]
      exact ⟨Nat.le_refl v, hv, by omega, h256, hr⟩
    · rw [lk_upn e, lk_upn e, lk_upn e]
      exact h2 k (by omega)
  · have hn : k ≠ n := by omega
    rw [lk_upn hn, lk_upn hn, lk_upn hn]
    exact h3 k hk e
  · have hn : j ≠ n := by omega
    rw [lk_upn hn, lk_upn hn, lk_upn hn]
    by_cases e : k = n
    · subst e
      rw [lk_ups]
      exact Nat.le_trans (h3 j hj e1) (hc e2)
    · rw [lk_upn e]
      exact h4 j k hj (by omega) hjk e1 e2
  · rw [lk_ups]; exact hc e
  · obtain ⟨b1, b2, b3, b4⟩ := h6 g hg
    refine ⟨b1, b2, b3, b4.elim Or.inl (fun ⟨k, hk, e1, e2⟩ => Or.inr ⟨k, hk, e1, ?_⟩)⟩
    rw [lk_upn (show k ≠ n by omega)]; exact e2
  · obtain ⟨b1, b2, b3⟩ := h7 s hs p
    have hn : own s ≠ n := by omega
    rw [lk_upn hn, lk_upn hn]
    exact ⟨by omega, b2, b3⟩
/-- a dot moved inside the open section -/
theorem lk_G_dot {rg ld : Nat → Int32} {ni : Nat} {own sz : Nat → Nat} {pl : Nat → Prop} {B B' nc ng C0 C1 x : Nat} {V L D G0 GE IV : Nat → Nat} (h : lk_G rg ld ni own sz pl B (nc + 1) nc ng C0 C1 V L D G0 GE IV) (hx : D nc ≤ x) (hB : B + (x - D nc) ≤ B') : lk_G rg ld ni own sz pl B' (nc + 1) nc ng C0 C1 V L (lk_up D nc x) G0 GE IV := by
  obtain ⟨⟨a1, a2, a3, a4, a5⟩, h2, h3, h4, h5, h6, h7, h8⟩ := h
  refine ⟨⟨by omega, by omega, a3, a4, a5⟩, fun k hk => ?_, fun k hk e => ?_, fun j k hj hk hjk e1 e2 => ?_, h5, fun g hg => ?_, fun s hs p => ?_, h8⟩
  · obtain ⟨b1, b2, b3, b4, b5⟩ := h2 k hk
    by_cases e : k = nc
    · subst e
      rw [lk_ups]
      exact ⟨by omega, by omega, by omega, b4, b5⟩
    · rw [lk_upn e]
      exact ⟨b1, by omega, by omega, b4, b5⟩
  · rw [lk_upn (show k ≠ nc by omega)]; exact h3 k hk e
  · rw [lk_upn (show j ≠ nc by omega)]; exact h4 j k hj hk hjk e1 e2
  · obtain ⟨b1, b2, b3, b4⟩ := h6 g hg
    refine ⟨b1, b2, by omega, b4.elim Or.inl (fun ⟨k, hk, e1, e2⟩ => Or.inr ⟨k, hk, e1, ?_⟩)⟩
    rw [lk_upn (show k ≠ nc by omega)]; exact e2
  · obtain ⟨b1, b2, b3⟩ := h7 s hs p
    refine ⟨b1, b2, ?_⟩
    by_cases e : own s = nc
    · rw [e, lk_ups]; rw [e] at b3; omega
    · rw [lk_upn e]; exact b3
/-- an input section placed at x -/
theorem lk_G_put {rg ld : Nat → Int32} {ni : Nat} {own sz : Nat → Nat} {pl : Nat → Prop} {B B' nc ng C0 C1 x q : Nat} {V L D G0 GE IV : Nat → Nat} (h : lk_G rg ld ni own sz pl B (nc + 1) nc ng C0 C1 V L D G0 GE IV) (hq : ¬ pl q) (ho : own q = nc) (hx : D nc ≤ x) (hB : B + (x + sz q - D nc) ≤ B') : lk_G rg ld ni own sz (fun t => pl t ∨ t = q) B' (nc + 1) nc ng C0 C1 V L (lk_up D nc (x + sz q)) G0 GE (lk_up IV q x) := by
  have hd := lk_G_dot h (x := x + sz q) (by omega) hB
  obtain ⟨h1, h2, h3, h4, h5, h6, h7, h8⟩ := hd
  obtain ⟨_, g2, _, _, _, _, g7, _⟩ := h
  refine ⟨h1, h2, h3, h4, h5, h6, fun s hs p => ?_, fun s t hs ht p r hne e => ?_⟩
  · by_cases e : s = q
    · subst e
      rw [ho, lk_ups, lk_ups]
      have := (g2 nc (by omega)).1
      exact ⟨by omega, by omega, Nat.le_refl _⟩
    · rw [lk_upn e]
      exact h7 s hs (p.resolve_right e)
  · by_cases es : s = q
    · subst es
      have et : t ≠ s := fun z => hne z.symm
      rw [lk_ups, lk_upn et]
      have g := g7 t ht (r.resolve_right et)
      rw [← e, ho] at g
      exact Or.inr (by omega)
    · by_cases et : t = q
      · subst et
        rw [lk_ups, lk_upn es]
        have g := g7 s hs (p.resolve_right es)
        rw [e, ho] at g
        exact Or.inl (by omega)
      · rw [lk_upn es, lk_upn et]
        exact h8 s t hs ht (p.resolve_right es) (r.resolve_right et) hne e
/-- OP_END -/
theorem lk_G_end {rg ld : Nat → Int32} {ni : Nat} {own sz : Nat → Nat} {pl : Nat → Prop} {B nc ng C0 C1 C0' C1' : Nat} {V L D G0 GE GE' IV : Nat → Nat} (h : lk_G rg ld ni own sz pl B (nc + 1) nc ng C0 C1 V L D G0 GE IV) (h0 : C0' ≤ B) (h0' : C0 ≤ C0') (hl : ld nc = 1 → L nc + (D nc - V nc) ≤ C0') (h1 : C1' ≤ B) (h1' : 256 ≤ C1') (hg : ∀ g, g < ng → GE' g = GE g ∨ (rg nc = 1 ∧ GE' g = D nc ∧ GE g ≤ D nc)) : lk_G rg ld ni own sz pl B (nc + 1) (nc + 1) ng C0' C1' V L D G0 GE' IV := by
  obtain ⟨⟨a1, a2, a3, a4, a5⟩, h2, h3, h4, h5, h6, h7, h8⟩ := h
  refine ⟨⟨h0, h1, h1', by omega, by omega⟩, h2, fun k hk e => ?_, fun j k hj hk hjk e1 e2 => ?_, fun z => absurd z (Nat.lt_irrefl _), fun g hgn => ?_, h7, h8⟩
  · by_cases ek : k = nc
    · subst ek; exact hl e
    · exact Nat.le_trans (h3 k (by omega) e) h0'
  · exact h4 j k (by omega) hk hjk e1 e2
  · obtain ⟨b1, b2, b3, b4⟩ := h6 g hgn
    rcases hg g hgn with e | ⟨e1, e2, e3⟩
    · rw [e]
      exact ⟨b1, b2, b3, b4.elim Or.inl (fun ⟨k, hk, c1, c2⟩ => Or.inr ⟨k, by omega, c1, c2⟩)⟩
    · rw [e2]
      exact ⟨b1, by omega, (h2 nc (by omega)).2.1, Or.inr ⟨nc, by omega, e1, rfl⟩⟩
/-- a counter moved outside, or OP_OVERLAY_END -/
theorem lk_G_cnt {rg ld : Nat → Int32} {ni : Nat} {own sz : Nat → Nat} {pl : Nat → Prop} {B B' n ng C0 C1 C0' C1' : Nat} {V L D G0 GE IV : Nat → Nat} (h : lk_G rg ld ni own sz pl B n n ng C0 C1 V L D G0 GE IV) (hB : B ≤ B') (h0 : C0' ≤ B') (h0' : C0 ≤ C0') (h1 : C1' ≤ B') (h1' : 256 ≤ C1') : lk_G rg ld ni own sz pl B' n n ng C0' C1' V L D G0 GE IV := by
  obtain ⟨⟨a1, a2, a3, a4, a5⟩, h2, h3, h4, h5, h6, h7, h8⟩ := lk_G_B h hB
  exact ⟨⟨h0, h1, h1', a4, a5⟩, h2, fun k hk e => Nat.le_trans (h3 k hk e) h0', h4, fun z => absurd z (Nat.lt_irrefl _), h6, h7, h8⟩
/-- OP_OVERLAY -/
theorem lk_G_ovl {rg ld : Nat → Int32} {ni : Nat} {own sz : Nat → Nat} {pl : Nat → Prop} {B n nc ng C0 C1 : Nat} {V L D G0 GE IV : Nat → Nat} (h : lk_G rg ld ni own sz pl B n nc ng C0 C1 V L D G0 GE IV) : lk_G rg ld ni own sz pl B n nc (ng + 1) C0 C1 V L D (lk_up G0 ng C1) (lk_up GE ng C1) IV := by
  obtain ⟨⟨a1, a2, a3, a4, a5⟩, h2, h3, h4, h5, h6, h7, h8⟩ := h
  refine ⟨⟨a1, a2, a3, a4, a5⟩, h2, h3, h4, h5, fun g hg => ?_, h7, h8⟩
  by_cases e : g = ng
  · subst e
    rw [lk_ups, lk_ups]
    exact ⟨a3, Nat.le_refl _, a2, Or.inl rfl⟩
  · rw [lk_upn e, lk_upn e]
    exact h6 g (by omega)
/-- the load addresses of placed sections never meet -/
theorem lk_G_dj {rg ld : Nat → Int32} {ni : Nat} {own sz len : Nat → Nat} {pl act : Nat → Prop} {B n ng C0 C1 : Nat} {V L D G0 GE IV : Nat → Nat} (h : lk_G rg ld ni own sz pl B n n ng C0 C1 V L D G0 GE IV) (ha : ∀ s, s < ni → act s → pl s ∧ len s = sz s ∧ ld (own s) = 1) : lk_dj ni act (fun s => L (own s) + (IV s - V (own s))) len := by
  obtain ⟨_, _, _, h4, _, _, h7, h8⟩ := h
  intro s t hs ht hs' ht' hne
  obtain ⟨p1, e1, l1⟩ := ha s hs hs'
  obtain ⟨p2, e2, l2⟩ := ha t ht ht'
  obtain ⟨b1, b2, b3⟩ := h7 s hs p1
  obtain ⟨c1, c2, c3⟩ := h7 t ht p2
  show L (own s) + (IV s - V (own s)) + len s ≤ L (own t) + (IV t - V (own t)) ∨ L (own t) + (IV t - V (own t)) + len t ≤ L (own s) + (IV s - V (own s))
  by_cases e : own s = own t
  · have g := h8 s t hs ht p1 p2 hne e
    rw [e] at b2 ⊢
    omega
  · rcases Nat.lt_or_gt_of_ne e with q | q
    · have g := h4 (own s) (own t) b1 c1 q l1 l2
      omega
    · have g := h4 (own t) (own s) c1 b1 q l2 l1
      omega
end
