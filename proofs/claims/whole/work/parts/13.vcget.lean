section
/-! P: the getters' statements -/
theorem lk_asc (a b c : Int32) : a + b - c = a + (b - c) := by
  rw [Int32.sub_eq_add_neg, Int32.sub_eq_add_neg, Int32.add_assoc]
theorem lk_S_of {ns no ng : Nat} {op sa sb ox oy rg ld gp : Nat → Int32} {oo xg yg : Int32} (h : lk_S ns no ng op sa sb ox oy rg ld gp oo xg yg) : ∀ k, k < no → lk_of ng rg ld gp k := by
  obtain ⟨_, _, _, c4, c5, _, _, _, c9⟩ := h
  intro k hk
  rw [c5]
  exact lk_S_o c9 ns (Nat.le_refl ns) k (by omega)
theorem lk_romByte {Q : Prop} (q : Q) {ns no ng ni nb nr R0 R1 : Nat} {xphase xopenOut xopenGroup yinGroup yfinalC0 yfinalC1 : Int32} {xregionSize xcounter xmemory xstmtOp xstmtA xstmtB xstmtOwner xoutRegion xoutLoaded xoutGroup xoutAlign xoutVma xoutLma xoutDot xgroupStart xgroupEnd xgroupResident xinKind xinId xinAlign xinSize xinFirstByte xinStmt xinLive xinVma xfedBytes xrelocOwner xrelocOffset xrelocType xrelocTarget xrelocAddend ystOut youtSize youtRes ygStart ygEnd yinBss yinLen yinVma yinLma yrom yram : Nat → Int32} {v1 : Int32} (h : xphase = 0 ∨ (¬ xphase = 0 ∧ v1 < 0) ∨ (¬ xphase = 0 ∧ ¬ v1 < 0 ∧ 0 + xregionSize (0 : Int32).toNatClampNeg ≤ v1 ∧ ¬ v1 < 0 + nI R0) ∨ (¬ xphase = 0 ∧ ¬ v1 < 0 ∧ ¬ 0 + xregionSize (0 : Int32).toNatClampNeg ≤ v1 ∧ v1 < 0 + nI R0 ∧ vp_in v1 384 ∧ vp_in (v1 - 0) 128 ∧ yrom (v1 - 0).toNatClampNeg = xmemory v1.toNatClampNeg)) : wpX_romByte (fun r => wpY_romByte (fun r' => r' = r ∧ Q) ((nI R0), (nI R1), xphase, (nI ns), (nI no), (nI ng), (nI ni), (nI nb), (nI nr), xopenOut, yinGroup, (nI ni - 1), yfinalC0, yfinalC1, xstmtOp, xstmtA, xstmtB, ystOut, xoutRegion, xoutLoaded, xoutGroup, xoutVma, xoutLma, youtSize, xoutAlign, youtRes, ygStart, ygEnd, xinKind, xinId, xinAlign, yinBss, xinFirstByte, yinLen, xinStmt, xinLive, yinVma, yinLma, xfedBytes, xrelocOwner, xrelocOffset, xrelocType, xrelocTarget, xrelocAddend, yrom, yram) v1) (xphase, (nI ns), xopenOut, xopenGroup, (nI no), (nI ng), (nI ni), (nI nb), (nI nr), xregionSize, xcounter, xmemory, xstmtOp, xstmtA, xstmtB, xstmtOwner, xoutRegion, xoutLoaded, xoutGroup, xoutAlign, xoutVma, xoutLma, xoutDot, xgroupStart, xgroupEnd, xgroupResident, xinKind, xinId, xinAlign, xinSize, xinFirstByte, xinStmt, xinLive, xinVma, xfedBytes, xrelocOwner, xrelocOffset, xrelocType, xrelocTarget, xrelocAddend) v1 := by
  have v02 : vp_in (0 : Int32) 2 := vp_in_iff.mpr (by decide)
  rcases h with a0 | ⟨a0, a1⟩ | ⟨a0, a1, a2, a3⟩ | ⟨a0, a1, a2, a3, a4, a5, a6⟩
  · repeat (first | refine br_t (by assumption) ?_ | refine br_f (by assumption) ?_ | refine br_t (by decide) ?_ | refine br_f (by decide) ?_ | refine nm_e ?_ | refine And.intro (by assumption) ?_)
    first | exact q | exact ⟨rfl, q⟩
  · repeat (first | refine br_t (by assumption) ?_ | refine br_f (by assumption) ?_ | refine br_t (by decide) ?_ | refine br_f (by decide) ?_ | refine nm_e ?_ | refine And.intro (by assumption) ?_)
    first | exact q | exact ⟨rfl, q⟩
  · repeat (first | refine br_t (by assumption) ?_ | refine br_f (by assumption) ?_ | refine br_t (by decide) ?_ | refine br_f (by decide) ?_ | refine nm_e ?_ | refine And.intro (by assumption) ?_)
    first | exact q | exact ⟨rfl, q⟩
  · repeat (first | refine br_t (by assumption) ?_ | refine br_f (by assumption) ?_ | refine br_t (by decide) ?_ | refine br_f (by decide) ?_ | refine nm_e ?_ | refine And.intro (by assumption) ?_)
    first | exact q | exact ⟨a6, q⟩
theorem lk_ramByte {Q : Prop} (q : Q) {ns no ng ni nb nr R0 R1 : Nat} {xphase xopenOut xopenGroup yinGroup yfinalC0 yfinalC1 : Int32} {xregionSize xcounter xmemory xstmtOp xstmtA xstmtB xstmtOwner xoutRegion xoutLoaded xoutGroup xoutAlign xoutVma xoutLma xoutDot xgroupStart xgroupEnd xgroupResident xinKind xinId xinAlign xinSize xinFirstByte xinStmt xinLive xinVma xfedBytes xrelocOwner xrelocOffset xrelocType xrelocTarget xrelocAddend ystOut youtSize youtRes ygStart ygEnd yinBss yinLen yinVma yinLma yrom yram : Nat → Int32} {v1 : Int32} (h : v1 < 256 ∨ (¬ v1 < 256 ∧ 256 + xregionSize (1 : Int32).toNatClampNeg ≤ v1 ∧ ¬ v1 < 256 + nI R1) ∨ (¬ v1 < 256 ∧ ¬ 256 + xregionSize (1 : Int32).toNatClampNeg ≤ v1 ∧ v1 < 256 + nI R1 ∧ vp_in v1 384 ∧ vp_in (v1 - 256) 128 ∧ yram (v1 - 256).toNatClampNeg = xmemory v1.toNatClampNeg)) : wpX_ramByte (fun r => wpY_ramByte (fun r' => r' = r ∧ Q) ((nI R0), (nI R1), xphase, (nI ns), (nI no), (nI ng), (nI ni), (nI nb), (nI nr), xopenOut, yinGroup, (nI ni - 1), yfinalC0, yfinalC1, xstmtOp, xstmtA, xstmtB, ystOut, xoutRegion, xoutLoaded, xoutGroup, xoutVma, xoutLma, youtSize, xoutAlign, youtRes, ygStart, ygEnd, xinKind, xinId, xinAlign, yinBss, xinFirstByte, yinLen, xinStmt, xinLive, yinVma, yinLma, xfedBytes, xrelocOwner, xrelocOffset, xrelocType, xrelocTarget, xrelocAddend, yrom, yram) v1) (xphase, (nI ns), xopenOut, xopenGroup, (nI no), (nI ng), (nI ni), (nI nb), (nI nr), xregionSize, xcounter, xmemory, xstmtOp, xstmtA, xstmtB, xstmtOwner, xoutRegion, xoutLoaded, xoutGroup, xoutAlign, xoutVma, xoutLma, xoutDot, xgroupStart, xgroupEnd, xgroupResident, xinKind, xinId, xinAlign, xinSize, xinFirstByte, xinStmt, xinLive, xinVma, xfedBytes, xrelocOwner, xrelocOffset, xrelocType, xrelocTarget, xrelocAddend) v1 := by
  have v12 : vp_in (1 : Int32) 2 := vp_in_iff.mpr (by decide)
  rcases h with a1 | ⟨a1, a2, a3⟩ | ⟨a1, a2, a3, a4, a5, a6⟩
  · repeat (first | refine br_t (by assumption) ?_ | refine br_f (by assumption) ?_ | refine br_t (by decide) ?_ | refine br_f (by decide) ?_ | refine nm_e ?_ | refine And.intro (by assumption) ?_)
    first | exact q | exact ⟨rfl, q⟩
  · repeat (first | refine br_t (by assumption) ?_ | refine br_f (by assumption) ?_ | refine br_t (by decide) ?_ | refine br_f (by decide) ?_ | refine nm_e ?_ | refine And.intro (by assumption) ?_)
    first | exact q | exact ⟨rfl, q⟩
  · repeat (first | refine br_t (by assumption) ?_ | refine br_f (by assumption) ?_ | refine br_t (by decide) ?_ | refine br_f (by decide) ?_ | refine nm_e ?_ | refine And.intro (by assumption) ?_)
    first | exact q | exact ⟨a6, q⟩
theorem lk_e0 : (0 : Int32).toNatClampNeg = 0 := by decide
theorem lk_e1 : (1 : Int32).toNatClampNeg = 1 := by decide
theorem lk_256 (n : Nat) : (256 : Int32) + nI n = nI (256 + n) := nI_add 256 n
theorem i_vc_info {k : Nat} {u : SX} {v : SY} (I : i_Rel k u v) (hk : k + 5 ≤ 2562) (v1 : Int32) : wpX_info (fun r => wpY_info (fun r' => r' = r ∧ i_Rel (k + 5) u v) v v1) u v1 := by
  have J := i_up I
  obtain ⟨ns, no, ng, ni, nb, nr, R0, R1, xphase, xopenOut, xopenGroup, yinGroup, yfinalC0, yfinalC1, xregionSize, xcounter, xmemory, xstmtOp, xstmtA, xstmtB, xstmtOwner, xoutRegion, xoutLoaded, xoutGroup, xoutAlign, xoutVma, xoutLma, xoutDot, xgroupStart, xgroupEnd, xgroupResident, xinKind, xinId, xinAlign, xinSize, xinFirstByte, xinStmt, xinLive, xinVma, xfedBytes, xrelocOwner, xrelocOffset, xrelocType, xrelocTarget, xrelocAddend, ystOut, youtSize, youtRes, ygStart, ygEnd, yinBss, yinLen, yinVma, yinLma, yrom, yram, rfl, rfl, hS, hN, hQ, hZ, hM, hP⟩ := I
  refine lk_info J hZ.1.symm hZ.2.1.symm (fun hp => ?_) (fun hp => ?_)
  · rcases hP with ⟨h0, _⟩ | ⟨_, _, _, _, _, h1, _⟩
    · exact absurd h0 hp
    · exact h1.1.symm
  · rcases hP with ⟨h0, _⟩ | ⟨_, _, _, _, _, h1, _⟩
    · exact absurd h0 hp
    · exact h1.2.symm
theorem i_vc_inInfo {k : Nat} {u : SX} {v : SY} (I : i_Rel k u v) (hk : k + 5 ≤ 2562) (v1 : Int32) (v2 : Int32) : wpX_inInfo (fun r => wpY_inInfo (fun r' => r' = r ∧ i_Rel (k + 5) u v) v v1 v2) u v1 v2 := by
  have J := i_up I
  obtain ⟨ns, no, ng, ni, nb, nr, R0, R1, xphase, xopenOut, xopenGroup, yinGroup, yfinalC0, yfinalC1, xregionSize, xcounter, xmemory, xstmtOp, xstmtA, xstmtB, xstmtOwner, xoutRegion, xoutLoaded, xoutGroup, xoutAlign, xoutVma, xoutLma, xoutDot, xgroupStart, xgroupEnd, xgroupResident, xinKind, xinId, xinAlign, xinSize, xinFirstByte, xinStmt, xinLive, xinVma, xfedBytes, xrelocOwner, xrelocOffset, xrelocType, xrelocTarget, xrelocAddend, ystOut, youtSize, youtRes, ygStart, ygEnd, yinBss, yinLen, yinVma, yinLma, yrom, yram, rfl, rfl, hS, hN, hQ, hZ, hM, hP⟩ := I
  obtain ⟨n1, n2, n3⟩ := hN
  refine lk_inInfo J ?_
  rcases pk_ix v1 (n := ni) (by omega) with h | h | ⟨s, hs, rfl⟩
  · exact Or.inl h
  · exact Or.inr (Or.inl ⟨Int32.not_lt.mpr (Int32.le_trans (nI_pos' (by omega)) h), h, Int32.not_lt.mpr h⟩)
  · obtain ⟨A, T, Z, Qn, _, _, _, d4, _, d6, d7⟩ := n3 s hs
    rw [nI_clamp (show s < 2 ^ 31 by omega)]
    refine Or.inr (Or.inr ⟨nI_pos (by omega), nI_ge hs (by omega), nI_lt hs (by omega), vp_in_nI (by omega) (by omega), fun hk3 => ?_, fun hk3 => ?_, fun hp hl => ?_⟩)
    · rcases d7 with ⟨_, _, _, e⟩ | ⟨e, _⟩
      · rw [e, d6]
      · exact absurd hk3 e
    · rcases d7 with ⟨e, _⟩ | ⟨_, e⟩
      · exact absurd e hk3
      · rw [d4, d6, e]
    · rcases hP with ⟨h0, _⟩ | ⟨_, V, L, D, IV, h1, h2, h3, h4, _⟩
      · exact absurd h0 hp
      · obtain ⟨q, o, hq, e1, e2, e3, ho, e4, e5, _, e6⟩ := h4 s hs hl
        obtain ⟨c1, c2, _⟩ := hS
        rw [e1, nI_clamp (show q < 2 ^ 31 by omega), e2, e3, nI_clamp (show o < 2 ^ 31 by omega), e4, e5, e6]
        exact ⟨vp_in_nI (by omega) (by omega), vp_in_nI (by omega) (by omega), rfl, rfl, (lk_asc _ _ _).symm⟩
theorem i_vc_outInfo {k : Nat} {u : SX} {v : SY} (I : i_Rel k u v) (hk : k + 5 ≤ 2562) (v1 : Int32) (v2 : Int32) : wpX_outInfo (fun r => wpY_outInfo (fun r' => r' = r ∧ i_Rel (k + 5) u v) v v1 v2) u v1 v2 := by
  have J := i_up I
  obtain ⟨ns, no, ng, ni, nb, nr, R0, R1, xphase, xopenOut, xopenGroup, yinGroup, yfinalC0, yfinalC1, xregionSize, xcounter, xmemory, xstmtOp, xstmtA, xstmtB, xstmtOwner, xoutRegion, xoutLoaded, xoutGroup, xoutAlign, xoutVma, xoutLma, xoutDot, xgroupStart, xgroupEnd, xgroupResident, xinKind, xinId, xinAlign, xinSize, xinFirstByte, xinStmt, xinLive, xinVma, xfedBytes, xrelocOwner, xrelocOffset, xrelocType, xrelocTarget, xrelocAddend, ystOut, youtSize, youtRes, ygStart, ygEnd, yinBss, yinLen, yinVma, yinLma, yrom, yram, rfl, rfl, hS, hN, hQ, hZ, hM, hP⟩ := I
  have hof := lk_S_of hS
  obtain ⟨c1, c2, c3, _⟩ := hS
  refine lk_outInfo J ?_
  by_cases hp : xphase = 0
  · exact Or.inl hp
  rcases pk_ix v1 (n := no) (by omega) with h | h | ⟨s, hs, rfl⟩
  · exact Or.inr (Or.inl ⟨hp, h⟩)
  · exact Or.inr (Or.inr (Or.inl ⟨hp, Int32.not_lt.mpr (Int32.le_trans (nI_pos' (by omega)) h), h, Int32.not_lt.mpr h⟩))
  · rcases hP with ⟨h0, _⟩ | ⟨_, V, L, D, IV, h1, h2, h3, h4, h5, h6, h7, _⟩
    · exact absurd h0 hp
    · obtain ⟨e1, e2, e3, e4, e5, _⟩ := h2 s hs
      have e6 := h7 s hs
      have hg : xoutGroup s = -1 ∨ ∃ g, g < ng ∧ xoutGroup s = nI g := by
        rcases hof s hs with ⟨_, _, z⟩ | ⟨_, _, z⟩
        · exact Or.inl z
        · exact z
      rw [nI_clamp (show s < 2 ^ 31 by omega)]
      refine Or.inr (Or.inr (Or.inr ⟨hp, nI_pos (by omega), nI_ge hs (by omega), nI_lt hs (by omega), vp_in_nI (by omega) (by omega), by rw [e4, e3, e1, pk_sub e5], ?_⟩))
      rcases hg with z | ⟨g, hg, z⟩
      · refine Or.inl ⟨z, by rw [z]; decide, ?_⟩
        rw [e6, if_neg (fun y => y.1 z)]
      · obtain ⟨a, b, f1, f2, f3, f4, _⟩ := h3 g hg
        have nz : ¬ nI g = -1 := lk_nn1 (by omega)
        rw [z] at e6
        rw [nI_clamp (show g < 2 ^ 31 by omega)] at e6
        rw [z, nI_clamp (show g < 2 ^ 31 by omega)]
        refine Or.inr ⟨nz, nI_pos' (by omega), vp_in_nI (by omega) (by omega), by rw [f1, f2], by rw [f3, f4], ?_⟩
        by_cases y : xgroupResident g = nI s
        · exact Or.inl ⟨y, by rw [e6, if_pos ⟨nz, y⟩]⟩
        · exact Or.inr ⟨y, by rw [e6, if_neg (fun w => y w.2)]⟩
theorem i_vc_romByte {k : Nat} {u : SX} {v : SY} (I : i_Rel k u v) (hk : k + 5 ≤ 2562) (v1 : Int32) : wpX_romByte (fun r => wpY_romByte (fun r' => r' = r ∧ i_Rel (k + 5) u v) v v1) u v1 := by
  have J := i_up I
  obtain ⟨ns, no, ng, ni, nb, nr, R0, R1, xphase, xopenOut, xopenGroup, yinGroup, yfinalC0, yfinalC1, xregionSize, xcounter, xmemory, xstmtOp, xstmtA, xstmtB, xstmtOwner, xoutRegion, xoutLoaded, xoutGroup, xoutAlign, xoutVma, xoutLma, xoutDot, xgroupStart, xgroupEnd, xgroupResident, xinKind, xinId, xinAlign, xinSize, xinFirstByte, xinStmt, xinLive, xinVma, xfedBytes, xrelocOwner, xrelocOffset, xrelocType, xrelocTarget, xrelocAddend, ystOut, youtSize, youtRes, ygStart, ygEnd, yinBss, yinLen, yinVma, yinLma, yrom, yram, rfl, rfl, hS, hN, hQ, hZ, hM, hP⟩ := I
  obtain ⟨z0, z1, z2, z3, z4, z5⟩ := hZ
  refine lk_romByte J ?_
  by_cases hp : xphase = 0
  · exact Or.inl hp
  rw [lk_e0, z0, Int32.zero_add, Int32.sub_zero]
  rcases pk_ix v1 (n := R0) (by omega) with h | h | ⟨s, hs, rfl⟩
  · exact Or.inr (Or.inl ⟨hp, h⟩)
  · exact Or.inr (Or.inr (Or.inl ⟨hp, Int32.not_lt.mpr (Int32.le_trans (nI_pos' (by omega)) h), h, Int32.not_lt.mpr h⟩))
  · refine Or.inr (Or.inr (Or.inr ⟨hp, nI_pos (by omega), nI_ge hs (by omega), nI_lt hs (by omega), vp_in_nI (by omega) (by omega), vp_in_nI (by omega) (by omega), ?_⟩))
    rw [nI_clamp (show s < 2 ^ 31 by omega)]
    exact (hM.1 s (by omega)).symm
theorem lk_ix2 (x : Int32) {a n : Nat} (ha : a < 2 ^ 30) (hn : n < 2 ^ 30) : x < nI a ∨ nI (a + n) ≤ x ∨ ∃ j : Nat, j < n ∧ x = nI (a + j) := by
  rcases pk_ix x (n := a) (by omega) with h | h | ⟨j, hj, e⟩
  · exact Or.inl (Int32.lt_of_lt_of_le h (nI_pos' (by omega)))
  · rcases pk_ix x (n := a + n) (by omega) with h2 | h2 | ⟨j, hj, e⟩
    · exact absurd (Int32.lt_of_lt_of_le h2 (nI_pos' (by omega))) (Int32.not_lt.mpr h)
    · exact Or.inr (Or.inl h2)
    · subst e
      rw [nI_leI (by omega) (by omega)] at h
      exact Or.inr (Or.inr ⟨j - a, by omega, by rw [show a + (j - a) = j by omega]⟩)
  · subst e
    exact Or.inl (nI_lt hj (by omega))
theorem i_vc_ramByte {k : Nat} {u : SX} {v : SY} (I : i_Rel k u v) (hk : k + 5 ≤ 2562) (v1 : Int32) : wpX_ramByte (fun r => wpY_ramByte (fun r' => r' = r ∧ i_Rel (k + 5) u v) v v1) u v1 := by
  have J := i_up I
  obtain ⟨ns, no, ng, ni, nb, nr, R0, R1, xphase, xopenOut, xopenGroup, yinGroup, yfinalC0, yfinalC1, xregionSize, xcounter, xmemory, xstmtOp, xstmtA, xstmtB, xstmtOwner, xoutRegion, xoutLoaded, xoutGroup, xoutAlign, xoutVma, xoutLma, xoutDot, xgroupStart, xgroupEnd, xgroupResident, xinKind, xinId, xinAlign, xinSize, xinFirstByte, xinStmt, xinLive, xinVma, xfedBytes, xrelocOwner, xrelocOffset, xrelocType, xrelocTarget, xrelocAddend, ystOut, youtSize, youtRes, ygStart, ygEnd, yinBss, yinLen, yinVma, yinLma, yrom, yram, rfl, rfl, hS, hN, hQ, hZ, hM, hP⟩ := I
  obtain ⟨z0, z1, z2, z3, z4, z5⟩ := hZ
  refine lk_ramByte J ?_
  rw [lk_e1, z1, lk_256]
  rcases lk_ix2 v1 (a := 256) (n := R1) (by omega) (by omega) with h | h | ⟨s, hs, rfl⟩
  · exact Or.inl h
  · refine Or.inr (Or.inl ⟨Int32.not_lt.mpr (Int32.le_trans (nI_le (a := 256) (b := 256 + R1) (by omega) (by omega)) h), h, Int32.not_lt.mpr h⟩)
  · have e : nI (256 + s) - 256 = nI s := by
      have := pk_sub (a := 256 + s) (b := 256) (by omega)
      rw [Nat.add_sub_cancel_left] at this
      exact this
    rw [e, nI_clamp (show s < 2 ^ 31 by omega), nI_clamp (show 256 + s < 2 ^ 31 by omega)]
    refine Or.inr (Or.inr ⟨nI_nlt (b := 256) (by omega) (by omega), nI_ge (by omega) (by omega), nI_lt (by omega) (by omega), vp_in_nI (by omega) (by omega), vp_in_nI (by omega) (by omega), (hM.2 s (by omega)).symm⟩)
end
