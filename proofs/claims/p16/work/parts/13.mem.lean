section
/-! RAM behind startup: what lies at x -/
def lq_im (ld : Nat → Int32) (L V : Nat → Nat) (me : Nat → Int32) (q x : Nat) : Int32 := if ld q = 1 then me (L q + (x - V q)) else 0
def lq_P (R1 g : Nat) (G0 GE : Nat → Nat) (me m : Nat → Int32) : Prop :=
  (∀ j, j < 256 → m j = me j) ∧ ∀ x, 256 ≤ x → x < 256 + R1 →
  (∀ h, h < g → G0 h ≤ x → x < GE h → m x = 0) ∧ ((∀ h, h < g → ¬ (G0 h ≤ x ∧ x < GE h)) → m x = 255)
def lq_M (R1 k ng : Nat) (rg ld gp gr : Nat → Int32) (V L D G0 GE : Nat → Nat) (me m : Nat → Int32) : Prop :=
  (∀ j, j < 256 → m j = me j) ∧ ∀ x, 256 ≤ x → x < 256 + R1 →
  (∀ q, q < k → rg q = 1 → gp q = -1 → V q ≤ x → x < D q → m x = lq_im ld L V me q x) ∧
  (∀ g q, g < ng → G0 g ≤ x → x < GE g → gr g = nI q → q < k → V q ≤ x → x < D q → m x = lq_im ld L V me q x) ∧
  (∀ g, g < ng → G0 g ≤ x → x < GE g → (∀ q, gr g = nI q → q < k → ¬ (V q ≤ x ∧ x < D q)) → m x = 0) ∧
  ((∀ q, q < k → rg q = 1 → gp q = -1 → ¬ (V q ≤ x ∧ x < D q)) → (∀ g, g < ng → ¬ (G0 g ≤ x ∧ x < GE g)) → m x = 255)
section
variable {R1 k no ng C1 : Nat} {rg ld gp gr : Nat → Int32} {V L D G0 GE : Nat → Nat} {me m : Nat → Int32}
theorem lq_P_0 (hR : R1 ≤ 128) (h : ∀ x, 256 ≤ x → x < 384 → me x = 255) : lq_P R1 0 G0 GE me me :=
  ⟨fun _ _ => rfl, fun x h1 h2 => ⟨fun g hg => absurd hg (Nat.not_lt_zero g), fun _ => h x h1 (by omega)⟩⟩
theorem lq_P_s {g : Nat} (h : lq_P R1 g G0 GE me m) (hg : 256 ≤ G0 g) : lq_P R1 (g + 1) G0 GE me (lk_wr m (G0 g) (GE g) (fun _ => 0)) := by
  obtain ⟨h1, h2⟩ := h
  refine ⟨fun j hj => ?_, fun x x1 x2 => ?_⟩
  · rw [lk_wr_f (by omega)]
    exact h1 j hj
  · obtain ⟨a, b⟩ := h2 x x1 x2
    by_cases c : G0 g ≤ x ∧ x < GE g
    · rw [lk_wr_t c.1 c.2]
      exact ⟨fun _ _ _ _ => rfl, fun z => absurd c (z g (by omega))⟩
    · rw [lk_wr_f c]
      refine ⟨fun q hq s1 s2 => ?_, fun z => b (fun q hq => z q (by omega))⟩
      have : q ≠ g := fun e => c (by rw [← e]; exact ⟨s1, s2⟩)
      exact a q (by omega) s1 s2
theorem lq_M_0 (h : lq_P R1 ng G0 GE me m) : lq_M R1 0 ng rg ld gp gr V L D G0 GE me m :=
  ⟨h.1, fun x x1 x2 => ⟨fun q hq => absurd hq (Nat.not_lt_zero q), fun _ q _ _ _ _ hq => absurd hq (Nat.not_lt_zero q), fun g hg s1 s2 _ => (h.2 x x1 x2).1 g hg s1 s2, fun _ z => (h.2 x x1 x2).2 z⟩⟩
/-- section k is laid -/
theorem lq_M_w (hG : lk_G2 rg gp no no ng false C1 V D G0 GE) (h8 : no ≤ 8) (hk : k < no) (r : rg k = 1) (hw : gp k = -1 ∨ ∃ g, g < ng ∧ gp k = nI g ∧ gr g = nI k) (hV : 256 ≤ V k) (hL : ld k = 1 → L k + (D k - V k) ≤ 128)
    (h : lq_M R1 k ng rg ld gp gr V L D G0 GE me m) : lq_M R1 (k + 1) ng rg ld gp gr V L D G0 GE me (lk_wr m (V k) (D k) (fun j => if ld k = 1 then m (L k + (j - V k)) else 0)) := by
  obtain ⟨h1, h2, h3, h4, h5, h6, h7, h8', h9⟩ := hG
  obtain ⟨hm, hx⟩ := h
  refine ⟨fun j hj => ?_, fun x x1 x2 => ?_⟩
  · rw [lk_wr_f (by omega)]
    exact hm j hj
  obtain ⟨a, b1, b2, c⟩ := hx x x1 x2
  by_cases cov : V k ≤ x ∧ x < D k
  · have e : lk_wr m (V k) (D k) (fun j => if ld k = 1 then m (L k + (j - V k)) else 0) x = lq_im ld L V me k x := by
      rw [lk_wr_t cov.1 cov.2]
      unfold lq_im
      by_cases l1 : ld k = 1
      · have := hL l1
        rw [if_pos l1, if_pos l1]
        exact hm _ (by omega)
      · rw [if_neg l1, if_neg l1]
    have key : ∀ g, g < ng → G0 g ≤ x → x < GE g → gr g = nI k := by
      intro g hg s1 s2
      rcases hw with z | ⟨g0, hg0, z, zr⟩
      · rcases h8' k g hk hg r z with ⟨_, y⟩ | y
        · omega
        · omega
      · obtain ⟨y1, y2⟩ := h2 k g0 hk hg0 r z
        have y3 := y2 hk
        have eg : g = g0 := by
          rcases Nat.lt_trichotomy g g0 with w | w | w
          · have := h6 g g0 w hg0
            omega
          · exact w
          · have := h6 g0 g w hg
            omega
        rw [eg]
        exact zr
    refine ⟨fun q hq r1 g1 v1 v2 => ?_, fun g q hg s1 s2 eg hq v1 v2 => ?_, fun g hg s1 s2 hn => ?_, fun hn1 hn2 => ?_⟩
    · by_cases cq : q = k
      · rw [cq]; exact e
      · have := h7 q k (by omega) hk r1 r (Or.inl g1)
        omega
    · have e2 := key g hg s1 s2
      have cq : q = k := (nI_eq (by omega) (by omega)).mp (eg.symm.trans e2)
      rw [cq]; exact e
    · exact absurd cov (hn k (key g hg s1 s2) (by omega))
    · rcases hw with z | ⟨g0, hg0, z, zr⟩
      · exact absurd cov (hn1 k (by omega) r z)
      · obtain ⟨y1, y2⟩ := h2 k g0 hk hg0 r z
        have y3 := y2 hk
        exact absurd ⟨by omega, by omega⟩ (hn2 g0 hg0)
  · rw [lk_wr_f cov]
    refine ⟨fun q hq r1 g1 v1 v2 => ?_, fun g q hg s1 s2 eg hq v1 v2 => ?_, fun g hg s1 s2 hn => b2 g hg s1 s2 (fun q eg hq => hn q eg (by omega)), fun hn1 hn2 => c (fun q hq => hn1 q (by omega)) hn2⟩
    · have cq : q ≠ k := fun z => cov (by rw [← z]; exact ⟨v1, v2⟩)
      exact a q (by omega) r1 g1 v1 v2
    · have cq : q ≠ k := fun z => cov (by rw [← z]; exact ⟨v1, v2⟩)
      exact b1 g q hg s1 s2 eg (by omega) v1 v2
/-- section k isn't laid -/
theorem lq_M_n (n1 : ¬ (rg k = 1 ∧ gp k = -1)) (n2 : ∀ g, g < ng → ¬ gr g = nI k) (h : lq_M R1 k ng rg ld gp gr V L D G0 GE me m) : lq_M R1 (k + 1) ng rg ld gp gr V L D G0 GE me m := by
  obtain ⟨hm, hx⟩ := h
  refine ⟨hm, fun x x1 x2 => ?_⟩
  obtain ⟨a, b1, b2, c⟩ := hx x x1 x2
  refine ⟨fun q hq r1 g1 v1 v2 => ?_, fun g q hg s1 s2 eg hq v1 v2 => ?_, fun g hg s1 s2 hn => b2 g hg s1 s2 (fun q eg hq => hn q eg (by omega)), fun hn1 hn2 => c (fun q hq => hn1 q (by omega)) hn2⟩
  · have cq : q ≠ k := fun z => n1 (by rw [← z]; exact ⟨r1, g1⟩)
    exact a q (by omega) r1 g1 v1 v2
  · have cq : q ≠ k := fun z => n2 g hg (by rw [← z]; exact eg)
    exact b1 g q hg s1 s2 eg (by omega) v1 v2
/-- member k of group g is loaded -/
theorem lq_M_o {g : Nat} (hG : lk_G2 rg gp no no ng false C1 V D G0 GE) (h8 : no ≤ 8) (hk : k < no) (hg : g < ng) (r : rg k = 1) (eg : gp k = nI g) (hg0 : 256 ≤ G0 g) (hV : 256 ≤ V k) (hL : ld k = 1 → L k + (D k - V k) ≤ 128)
    (h : lq_M R1 no ng rg ld gp gr V L D G0 GE me m) : lq_M R1 no ng rg ld gp (upd gr g (nI k)) V L D G0 GE me (lk_wr (lk_wr m (G0 g) (GE g) (fun _ => 0)) (V k) (D k) (fun j => if ld k = 1 then lk_wr m (G0 g) (GE g) (fun _ => 0) (L k + (j - V k)) else 0)) := by
  obtain ⟨h1, h2, h3, h4, h5, h6, h7, h8', h9⟩ := hG
  obtain ⟨hm, hx⟩ := h
  obtain ⟨y1, y2⟩ := h2 k g hk hg r eg
  have y3 := y2 hk
  refine ⟨fun j hj => ?_, fun x x1 x2 => ?_⟩
  · rw [lk_wr_f (by omega), lk_wr_f (by omega)]
    exact hm j hj
  obtain ⟨a, b1, b2, c⟩ := hx x x1 x2
  by_cases sp : G0 g ≤ x ∧ x < GE g
  · have nA : ∀ q, q < no → rg q = 1 → gp q = -1 → V q ≤ x → x < D q → False := by
      intro q hq r1 g1 v1 v2
      rcases h8' q g hq hg r1 g1 with ⟨_, y⟩ | y
      · omega
      · omega
    have key : ∀ f, f < ng → G0 f ≤ x → x < GE f → f = g := by
      intro f hf s1 s2
      rcases Nat.lt_trichotomy f g with w | w | w
      · have := h6 f g w hg
        omega
      · exact w
      · have := h6 g f w hf
        omega
    by_cases cov : V k ≤ x ∧ x < D k
    · have e : lk_wr (lk_wr m (G0 g) (GE g) (fun _ => 0)) (V k) (D k) (fun j => if ld k = 1 then lk_wr m (G0 g) (GE g) (fun _ => 0) (L k + (j - V k)) else 0) x = lq_im ld L V me k x := by
        rw [lk_wr_t cov.1 cov.2]
        unfold lq_im
        by_cases l1 : ld k = 1
        · have := hL l1
          rw [if_pos l1, if_pos l1, lk_wr_f (by omega)]
          exact hm _ (by omega)
        · rw [if_neg l1, if_neg l1]
      refine ⟨fun q hq r1 g1 v1 v2 => (nA q hq r1 g1 v1 v2).elim, fun f q hf s1 s2 ef hq v1 v2 => ?_, fun f hf s1 s2 hn => ?_, fun _ hn2 => absurd sp (hn2 g hg)⟩
      · have fg := key f hf s1 s2
        rw [fg, pk_us] at ef
        have cq : k = q := (nI_eq (by omega) (by omega)).mp ef
        rw [← cq]; exact e
      · have fg := key f hf s1 s2
        exact absurd cov (hn k (by rw [fg, pk_us]) hk)
    · rw [lk_wr_f cov, lk_wr_t sp.1 sp.2]
      refine ⟨fun q hq r1 g1 v1 v2 => (nA q hq r1 g1 v1 v2).elim, fun f q hf s1 s2 ef hq v1 v2 => ?_, fun _ _ _ _ _ => rfl, fun _ hn2 => absurd sp (hn2 g hg)⟩
      have fg := key f hf s1 s2
      rw [fg, pk_us] at ef
      have cq : k = q := (nI_eq (by omega) (by omega)).mp ef
      rw [← cq] at v1 v2
      exact absurd ⟨v1, v2⟩ cov
  · have cov : ¬ (V k ≤ x ∧ x < D k) := fun z => sp ⟨by omega, by omega⟩
    rw [lk_wr_f cov, lk_wr_f sp]
    refine ⟨a, fun f q hf s1 s2 ef hq v1 v2 => ?_, fun f hf s1 s2 hn => ?_, c⟩
    · have fg : f ≠ g := fun z => sp (by rw [← z]; exact ⟨s1, s2⟩)
      rw [pk_un fg] at ef
      exact b1 f q hf s1 s2 ef hq v1 v2
    · have fg : f ≠ g := fun z => sp (by rw [← z]; exact ⟨s1, s2⟩)
      exact b2 f hf s1 s2 (fun q ef hq => hn q (by rw [pk_un fg]; exact ef) hq)
end
end
