
section
/-! the class once linked -/
def lq_K (no ng R0 R1 : Nat) (rg ld gp vm lm dt gs ge gr : Nat → Int32) (V L D G0 GE : Nat → Nat) : Prop :=
  no ≤ 8 ∧ ng ≤ 4 ∧ (∀ k, k < no → lk_of ng rg ld gp k) ∧
  (∀ k, k < no → vm k = nI (V k) ∧ lm k = nI (L k) ∧ dt k = nI (D k) ∧ V k ≤ D k ∧ (rg k = 1 → 256 ≤ V k ∧ D k ≤ 256 + R1) ∧ (rg k = 0 → D k ≤ R0 ∧ L k = V k) ∧ (ld k = 1 → L k + (D k - V k) ≤ R0)) ∧
  (∀ j k, j < k → k < no → ld j = 1 → ld k = 1 → L j + (D j - V j) ≤ L k) ∧
  (∀ g, g < ng → gs g = nI (G0 g) ∧ ge g = nI (GE g) ∧ 256 ≤ G0 g ∧ G0 g ≤ GE g ∧ GE g < 2 ^ 30 ∧ (GE g = G0 g ∨ GE g ≤ 256 + R1)) ∧
  (∃ C1, lk_G2 rg gp no no ng false C1 V D G0 GE) ∧
  (∀ g, g < ng → gr g = -1 ∨ ∃ k, k < no ∧ gr g = nI k ∧ gp k = nI g)
def lq_L (ph : Int32) (no R0 R1 : Nat) (u : St2) : Prop := match u with
  | (xphase, xstmtCount, xopenOut, xopenGroup, xoutCount, xgroupCount, xinCount, xbyteCount, xrelocCount, xregionSize, xcounter, xmemory, xstmtOp, xstmtA, xstmtB, xstmtOwner, xoutRegion, xoutLoaded, xoutGroup, xoutAlign, xoutVma, xoutLma, xoutDot, xgroupStart, xgroupEnd, xgroupResident, xinKind, xinId, xinAlign, xinSize, xinFirstByte, xinStmt, xinLive, xinVma, xfedBytes, xrelocOwner, xrelocOffset, xrelocType, xrelocTarget, xrelocAddend) => ∃ (ng : Nat) (V L D G0 GE : Nat → Nat) (me : Nat → Int32), xphase = ph ∧ xoutCount = nI no ∧ xgroupCount = nI ng ∧ lk_Z xregionSize R0 R1 ∧ lq_K no ng R0 R1 xoutRegion xoutLoaded xoutGroup xoutVma xoutLma xoutDot xgroupStart xgroupEnd xgroupResident V L D G0 GE ∧ ((ph = 1 ∧ ∀ x, 256 ≤ x → x < 384 → xmemory x = 255) ∨ (ph = 2 ∧ lq_M R1 no ng xoutRegion xoutLoaded xoutGroup xgroupResident V L D G0 GE me xmemory))
/-- what the walk leaves, as lq_K has it -/
theorem lq_K_fin {ni no ng R0 R1 B : Nat} {rg ld gp gr : Nat → Int32} {own sz : Nat → Nat} {pl : Nat → Prop} {C0 C1 C1' : Nat} {V L D G0 GE IV : Nat → Nat} {ct vm lm dt gs ge xv os yg0 yg1 yv yl : Nat → Int32} {c0 c1 g0 yge grp k dot vma lma ing : Int32}
    (h : lk_W ni rg ld own sz pl B no no ng false C0 C1 V L D G0 GE IV ct vm lm dt gs ge xv os yg0 yg1 yv yl c0 c1 g0 yge grp k dot vma lma ing) (hB : B < 2 ^ 30) (h8 : no ≤ 8) (h4 : ng ≤ 4) (ho : ∀ k, k < no → lk_of ng rg ld gp k) (hv : lk_ex (lk_ov R0 R1 rg ld V L D) no 0 = false)
    (hU : lk_G2 rg gp no no ng false C1' V D G0 GE) (hr : ∀ g, g < ng → gr g = -1 ∨ ∃ k, k < no ∧ gr g = nI k ∧ gp k = nI g) : lq_K no ng R0 R1 rg ld gp vm lm dt gs ge gr V L D G0 GE := by
  have hf := (lk_W_fin h hB ho hv).1
  obtain ⟨⟨_, b2, _, b4, _, b6, _, _⟩, _, _, _, w5, _⟩ := h
  refine ⟨h8, h4, ho, fun k hk => ?_, fun i j hij hj => b4 i j (by omega) hj hij, fun g hg => ?_, ⟨C1', hU⟩, hr⟩
  · obtain ⟨t1, t2, t3, t4, t5, t6, t7, t8⟩ := hf k hk
    exact ⟨t1, t2, t3, t5, t6, fun r => ⟨t7 r, (b2 k hk).2.2.2.2 r⟩, t8⟩
  · obtain ⟨e1, e2⟩ := w5 g hg
    obtain ⟨d1, d2, d3, d4⟩ := b6 g hg
    refine ⟨e1, e2, d1, d2, by omega, ?_⟩
    rcases d4 with d4 | ⟨q, hq, er, ed⟩
    · exact Or.inl d4
    · have := ((hf q hq).2.2.2.2.2.1 er).2
      exact Or.inr (by omega)
end
