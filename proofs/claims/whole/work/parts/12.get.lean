section
/-! O: the getters -/
theorem lk_34 {x : Int32} (a : 3 < x) (b : x < 4) : False := by
  rw [Int32.lt_iff_toInt_lt] at a b
  have h3 : (3 : Int32).toInt = 3 := by decide
  have h4 : (4 : Int32).toInt = 4 := by decide
  omega
theorem lk_info {Q : Prop} (q : Q) {ns no ng ni nb nr R0 R1 : Nat} {xphase xopenOut xopenGroup yinGroup yfinalC0 yfinalC1 : Int32} {xregionSize xcounter xmemory xstmtOp xstmtA xstmtB xstmtOwner xoutRegion xoutLoaded xoutGroup xoutAlign xoutVma xoutLma xoutDot xgroupStart xgroupEnd xgroupResident xinKind xinId xinAlign xinSize xinFirstByte xinStmt xinLive xinVma xfedBytes xrelocOwner xrelocOffset xrelocType xrelocTarget xrelocAddend ystOut youtSize youtRes ygStart ygEnd yinBss yinLen yinVma yinLma yrom yram : Nat → Int32} {v1 : Int32} (z0 : nI R0 = xregionSize 0) (z1 : nI R1 = xregionSize 1) (c0 : ¬ xphase = 0 → yfinalC0 = xcounter 0) (c1 : ¬ xphase = 0 → yfinalC1 = xcounter 1) : wpX_info (fun r => wpY_info (fun r' => r' = r ∧ Q) ((nI R0), (nI R1), xphase, (nI ns), (nI no), (nI ng), (nI ni), (nI nb), (nI nr), xopenOut, yinGroup, (nI ni - 1), yfinalC0, yfinalC1, xstmtOp, xstmtA, xstmtB, ystOut, xoutRegion, xoutLoaded, xoutGroup, xoutVma, xoutLma, youtSize, xoutAlign, youtRes, ygStart, ygEnd, xinKind, xinId, xinAlign, yinBss, xinFirstByte, yinLen, xinStmt, xinLive, yinVma, yinLma, xfedBytes, xrelocOwner, xrelocOffset, xrelocType, xrelocTarget, xrelocAddend, yrom, yram) v1) (xphase, (nI ns), xopenOut, xopenGroup, (nI no), (nI ng), (nI ni), (nI nb), (nI nr), xregionSize, xcounter, xmemory, xstmtOp, xstmtA, xstmtB, xstmtOwner, xoutRegion, xoutLoaded, xoutGroup, xoutAlign, xoutVma, xoutLma, xoutDot, xgroupStart, xgroupEnd, xgroupResident, xinKind, xinId, xinAlign, xinSize, xinFirstByte, xinStmt, xinLive, xinVma, xfedBytes, xrelocOwner, xrelocOffset, xrelocType, xrelocTarget, xrelocAddend) v1 := by
  by_cases hp : xphase = 0
  · by_cases h0 : v1 = 0
    · subst h0
      repeat (first | refine br_t (by assumption) ?_ | refine br_f (by assumption) ?_ | refine br_t (by decide) ?_ | refine br_f (by decide) ?_ | refine nm_e ?_ | refine And.intro (by assumption) ?_)
      first | exact q | exact ⟨rfl, q⟩
    by_cases h1 : v1 = 1
    · subst h1
      repeat (first | refine br_t (by assumption) ?_ | refine br_f (by assumption) ?_ | refine br_t (by decide) ?_ | refine br_f (by decide) ?_ | refine nm_e ?_ | refine And.intro (by assumption) ?_)
      first | exact q | exact ⟨rfl, q⟩
    by_cases h2 : v1 = 2
    · subst h2
      repeat (first | refine br_t (by assumption) ?_ | refine br_f (by assumption) ?_ | refine br_t (by decide) ?_ | refine br_f (by decide) ?_ | refine nm_e ?_ | refine And.intro (by assumption) ?_)
      first | exact q | exact ⟨rfl, q⟩
    by_cases h3 : v1 = 3
    · subst h3
      repeat (first | refine br_t (by assumption) ?_ | refine br_f (by assumption) ?_ | refine br_t (by decide) ?_ | refine br_f (by decide) ?_ | refine nm_e ?_ | refine And.intro (by assumption) ?_)
      first | exact q | exact ⟨rfl, q⟩
    by_cases h4 : v1 = 4
    · subst h4
      repeat (first | refine br_t (by assumption) ?_ | refine br_f (by assumption) ?_ | refine br_t (by decide) ?_ | refine br_f (by decide) ?_ | refine nm_e ?_ | refine And.intro (by assumption) ?_)
      first | exact q | exact ⟨rfl, q⟩
    by_cases h5 : v1 = 5
    · subst h5
      repeat (first | refine br_t (by assumption) ?_ | refine br_f (by assumption) ?_ | refine br_t (by decide) ?_ | refine br_f (by decide) ?_ | refine nm_e ?_ | refine And.intro (by assumption) ?_)
      first | exact q | exact ⟨rfl, q⟩
    by_cases h6 : v1 = 6
    · subst h6
      repeat (first | refine br_t (by assumption) ?_ | refine br_f (by assumption) ?_ | refine br_t (by decide) ?_ | refine br_f (by decide) ?_ | refine nm_e ?_ | refine And.intro (by assumption) ?_)
      first | exact q | exact ⟨rfl, q⟩
    by_cases h7 : v1 = 7
    · subst h7
      repeat (first | refine br_t (by assumption) ?_ | refine br_f (by assumption) ?_ | refine br_t (by decide) ?_ | refine br_f (by decide) ?_ | refine nm_e ?_ | refine And.intro (by assumption) ?_)
      first | exact q | exact ⟨z0, q⟩
    by_cases h8 : v1 = 8
    · subst h8
      repeat (first | refine br_t (by assumption) ?_ | refine br_f (by assumption) ?_ | refine br_t (by decide) ?_ | refine br_f (by decide) ?_ | refine nm_e ?_ | refine And.intro (by assumption) ?_)
      first | exact q | exact ⟨z1, q⟩
    by_cases h9 : v1 = 9
    · subst h9
      repeat (first | refine br_t (by assumption) ?_ | refine br_f (by assumption) ?_ | refine br_t (by decide) ?_ | refine br_f (by decide) ?_ | refine nm_e ?_ | refine And.intro (by assumption) ?_)
      first | exact q | exact ⟨rfl, q⟩
    by_cases h10 : v1 = 10
    · subst h10
      repeat (first | refine br_t (by assumption) ?_ | refine br_f (by assumption) ?_ | refine br_t (by decide) ?_ | refine br_f (by decide) ?_ | refine nm_e ?_ | refine And.intro (by assumption) ?_)
      first | exact q | exact ⟨rfl, q⟩
    by_cases ha : v1 < 0
    · repeat (first | refine br_t (by assumption) ?_ | refine br_f (by assumption) ?_ | refine br_t (by decide) ?_ | refine br_f (by decide) ?_ | refine nm_e ?_ | refine And.intro (by assumption) ?_)
      first | exact q | exact ⟨rfl, q⟩
    by_cases hb : 10 < v1
    · repeat (first | refine br_t (by assumption) ?_ | refine br_f (by assumption) ?_ | refine br_t (by decide) ?_ | refine br_f (by decide) ?_ | refine nm_e ?_ | refine And.intro (by assumption) ?_)
      first | exact q | exact ⟨rfl, q⟩
    repeat (first | refine br_t (by assumption) ?_ | refine br_f (by assumption) ?_ | refine br_t (by decide) ?_ | refine br_f (by decide) ?_ | refine nm_e ?_ | refine And.intro (by assumption) ?_)
    first | trivial | exact q | exact ⟨rfl, q⟩
  · by_cases h0 : v1 = 0
    · subst h0
      repeat (first | refine br_t (by assumption) ?_ | refine br_f (by assumption) ?_ | refine br_t (by decide) ?_ | refine br_f (by decide) ?_ | refine nm_e ?_ | refine And.intro (by assumption) ?_)
      first | exact q | exact ⟨rfl, q⟩
    by_cases h1 : v1 = 1
    · subst h1
      repeat (first | refine br_t (by assumption) ?_ | refine br_f (by assumption) ?_ | refine br_t (by decide) ?_ | refine br_f (by decide) ?_ | refine nm_e ?_ | refine And.intro (by assumption) ?_)
      first | exact q | exact ⟨rfl, q⟩
    by_cases h2 : v1 = 2
    · subst h2
      repeat (first | refine br_t (by assumption) ?_ | refine br_f (by assumption) ?_ | refine br_t (by decide) ?_ | refine br_f (by decide) ?_ | refine nm_e ?_ | refine And.intro (by assumption) ?_)
      first | exact q | exact ⟨rfl, q⟩
    by_cases h3 : v1 = 3
    · subst h3
      repeat (first | refine br_t (by assumption) ?_ | refine br_f (by assumption) ?_ | refine br_t (by decide) ?_ | refine br_f (by decide) ?_ | refine nm_e ?_ | refine And.intro (by assumption) ?_)
      first | exact q | exact ⟨rfl, q⟩
    by_cases h4 : v1 = 4
    · subst h4
      repeat (first | refine br_t (by assumption) ?_ | refine br_f (by assumption) ?_ | refine br_t (by decide) ?_ | refine br_f (by decide) ?_ | refine nm_e ?_ | refine And.intro (by assumption) ?_)
      first | exact q | exact ⟨rfl, q⟩
    by_cases h5 : v1 = 5
    · subst h5
      repeat (first | refine br_t (by assumption) ?_ | refine br_f (by assumption) ?_ | refine br_t (by decide) ?_ | refine br_f (by decide) ?_ | refine nm_e ?_ | refine And.intro (by assumption) ?_)
      first | exact q | exact ⟨rfl, q⟩
    by_cases h6 : v1 = 6
    · subst h6
      repeat (first | refine br_t (by assumption) ?_ | refine br_f (by assumption) ?_ | refine br_t (by decide) ?_ | refine br_f (by decide) ?_ | refine nm_e ?_ | refine And.intro (by assumption) ?_)
      first | exact q | exact ⟨rfl, q⟩
    by_cases h7 : v1 = 7
    · subst h7
      repeat (first | refine br_t (by assumption) ?_ | refine br_f (by assumption) ?_ | refine br_t (by decide) ?_ | refine br_f (by decide) ?_ | refine nm_e ?_ | refine And.intro (by assumption) ?_)
      first | exact q | exact ⟨z0, q⟩
    by_cases h8 : v1 = 8
    · subst h8
      repeat (first | refine br_t (by assumption) ?_ | refine br_f (by assumption) ?_ | refine br_t (by decide) ?_ | refine br_f (by decide) ?_ | refine nm_e ?_ | refine And.intro (by assumption) ?_)
      first | exact q | exact ⟨z1, q⟩
    by_cases h9 : v1 = 9
    · subst h9
      repeat (first | refine br_t (by assumption) ?_ | refine br_f (by assumption) ?_ | refine br_t (by decide) ?_ | refine br_f (by decide) ?_ | refine nm_e ?_ | refine And.intro (by assumption) ?_)
      first | exact q | exact ⟨c0 hp, q⟩
    by_cases h10 : v1 = 10
    · subst h10
      repeat (first | refine br_t (by assumption) ?_ | refine br_f (by assumption) ?_ | refine br_t (by decide) ?_ | refine br_f (by decide) ?_ | refine nm_e ?_ | refine And.intro (by assumption) ?_)
      first | exact q | exact ⟨c1 hp, q⟩
    by_cases ha : v1 < 0
    · repeat (first | refine br_t (by assumption) ?_ | refine br_f (by assumption) ?_ | refine br_t (by decide) ?_ | refine br_f (by decide) ?_ | refine nm_e ?_ | refine And.intro (by assumption) ?_)
      first | exact q | exact ⟨rfl, q⟩
    by_cases hb : 10 < v1
    · repeat (first | refine br_t (by assumption) ?_ | refine br_f (by assumption) ?_ | refine br_t (by decide) ?_ | refine br_f (by decide) ?_ | refine nm_e ?_ | refine And.intro (by assumption) ?_)
      first | exact q | exact ⟨rfl, q⟩
    repeat (first | refine br_t (by assumption) ?_ | refine br_f (by assumption) ?_ | refine br_t (by decide) ?_ | refine br_f (by decide) ?_ | refine nm_e ?_ | refine And.intro (by assumption) ?_)
    first | trivial | exact q | exact ⟨rfl, q⟩
theorem lk_inInfo {Q : Prop} (q : Q) {ns no ng ni nb nr R0 R1 : Nat} {xphase xopenOut xopenGroup yinGroup yfinalC0 yfinalC1 : Int32} {xregionSize xcounter xmemory xstmtOp xstmtA xstmtB xstmtOwner xoutRegion xoutLoaded xoutGroup xoutAlign xoutVma xoutLma xoutDot xgroupStart xgroupEnd xgroupResident xinKind xinId xinAlign xinSize xinFirstByte xinStmt xinLive xinVma xfedBytes xrelocOwner xrelocOffset xrelocType xrelocTarget xrelocAddend ystOut youtSize youtRes ygStart ygEnd yinBss yinLen yinVma yinLma yrom yram : Nat → Int32} {v1 v2 : Int32} (h : v1 < 0 ∨ (¬ v1 < 0 ∧ nI ni ≤ v1 ∧ ¬ v1 < nI ni) ∨ (¬ v1 < 0 ∧ ¬ nI ni ≤ v1 ∧ v1 < nI ni ∧ vp_in v1 16 ∧ (xinKind v1.toNatClampNeg = 3 → yinBss v1.toNatClampNeg = xinSize v1.toNatClampNeg) ∧ (¬ xinKind v1.toNatClampNeg = 3 → yinLen v1.toNatClampNeg = xinSize v1.toNatClampNeg) ∧ (¬ xphase = 0 → xinLive v1.toNatClampNeg = 1 → vp_in (xinStmt v1.toNatClampNeg) 32 ∧ vp_in (xstmtOwner (xinStmt v1.toNatClampNeg).toNatClampNeg) 8 ∧ ystOut (xinStmt v1.toNatClampNeg).toNatClampNeg = xstmtOwner (xinStmt v1.toNatClampNeg).toNatClampNeg ∧ yinVma v1.toNatClampNeg = xinVma v1.toNatClampNeg ∧ yinLma v1.toNatClampNeg = xinVma v1.toNatClampNeg + xoutLma (xstmtOwner (xinStmt v1.toNatClampNeg).toNatClampNeg).toNatClampNeg - xoutVma (xstmtOwner (xinStmt v1.toNatClampNeg).toNatClampNeg).toNatClampNeg))) : wpX_inInfo (fun r => wpY_inInfo (fun r' => r' = r ∧ Q) ((nI R0), (nI R1), xphase, (nI ns), (nI no), (nI ng), (nI ni), (nI nb), (nI nr), xopenOut, yinGroup, (nI ni - 1), yfinalC0, yfinalC1, xstmtOp, xstmtA, xstmtB, ystOut, xoutRegion, xoutLoaded, xoutGroup, xoutVma, xoutLma, youtSize, xoutAlign, youtRes, ygStart, ygEnd, xinKind, xinId, xinAlign, yinBss, xinFirstByte, yinLen, xinStmt, xinLive, yinVma, yinLma, xfedBytes, xrelocOwner, xrelocOffset, xrelocType, xrelocTarget, xrelocAddend, yrom, yram) v1 v2) (xphase, (nI ns), xopenOut, xopenGroup, (nI no), (nI ng), (nI ni), (nI nb), (nI nr), xregionSize, xcounter, xmemory, xstmtOp, xstmtA, xstmtB, xstmtOwner, xoutRegion, xoutLoaded, xoutGroup, xoutAlign, xoutVma, xoutLma, xoutDot, xgroupStart, xgroupEnd, xgroupResident, xinKind, xinId, xinAlign, xinSize, xinFirstByte, xinStmt, xinLive, xinVma, xfedBytes, xrelocOwner, xrelocOffset, xrelocType, xrelocTarget, xrelocAddend) v1 v2 := by
  rcases h with a1 | ⟨a1, a2, a3⟩ | ⟨a1, a2, a3, a4, a5, a6, a7⟩
  · repeat (first | refine br_t (by assumption) ?_ | refine br_f (by assumption) ?_ | refine br_t (by decide) ?_ | refine br_f (by decide) ?_ | refine nm_e ?_ | refine And.intro (by assumption) ?_)
    first | exact q | exact ⟨rfl, q⟩
  · repeat (first | refine br_t (by assumption) ?_ | refine br_f (by assumption) ?_ | refine br_t (by decide) ?_ | refine br_f (by decide) ?_ | refine nm_e ?_ | refine And.intro (by assumption) ?_)
    first | exact q | exact ⟨rfl, q⟩
  · by_cases h0 : v2 = 0
    · subst h0
      repeat (first | refine br_t (by assumption) ?_ | refine br_f (by assumption) ?_ | refine br_t (by decide) ?_ | refine br_f (by decide) ?_ | refine nm_e ?_ | refine And.intro (by assumption) ?_)
      first | exact q | exact ⟨rfl, q⟩
    by_cases h1 : v2 = 1
    · subst h1
      repeat (first | refine br_t (by assumption) ?_ | refine br_f (by assumption) ?_ | refine br_t (by decide) ?_ | refine br_f (by decide) ?_ | refine nm_e ?_ | refine And.intro (by assumption) ?_)
      first | exact q | exact ⟨rfl, q⟩
    by_cases h2 : v2 = 2
    · subst h2
      repeat (first | refine br_t (by assumption) ?_ | refine br_f (by assumption) ?_ | refine br_t (by decide) ?_ | refine br_f (by decide) ?_ | refine nm_e ?_ | refine And.intro (by assumption) ?_)
      first | exact q | exact ⟨rfl, q⟩
    by_cases h3 : v2 = 3
    · subst h3
      by_cases hk : xinKind v1.toNatClampNeg = 3
      · repeat (first | refine br_t (by assumption) ?_ | refine br_f (by assumption) ?_ | refine br_t (by decide) ?_ | refine br_f (by decide) ?_ | refine nm_e ?_ | refine And.intro (by assumption) ?_)
        first | exact q | exact ⟨a5 hk, q⟩
      · repeat (first | refine br_t (by assumption) ?_ | refine br_f (by assumption) ?_ | refine br_t (by decide) ?_ | refine br_f (by decide) ?_ | refine nm_e ?_ | refine And.intro (by assumption) ?_)
        first | exact q | exact ⟨a6 hk, q⟩
    by_cases hp : xphase = 0
    · by_cases ha : v2 < 0
      · repeat (first | refine br_t (by assumption) ?_ | refine br_f (by assumption) ?_ | refine br_t (by decide) ?_ | refine br_f (by decide) ?_ | refine nm_e ?_ | refine And.intro (by assumption) ?_)
        first | exact q | exact ⟨rfl, q⟩
      by_cases hb : 3 < v2
      · by_cases hc : v2 ≤ 8
        · repeat (first | refine br_t (by assumption) ?_ | refine br_f (by assumption) ?_ | refine br_t (by decide) ?_ | refine br_f (by decide) ?_ | refine nm_e ?_ | refine And.intro (by assumption) ?_)
          first | exact q | exact ⟨rfl, q⟩
        · repeat (first | refine br_t (by assumption) ?_ | refine br_f (by assumption) ?_ | refine br_t (by decide) ?_ | refine br_f (by decide) ?_ | refine nm_e ?_ | refine And.intro (by assumption) ?_)
          first | exact q | exact ⟨rfl, q⟩
      repeat (first | refine br_t (by assumption) ?_ | refine br_f (by assumption) ?_ | refine br_t (by decide) ?_ | refine br_f (by decide) ?_ | refine nm_e ?_ | refine And.intro (by assumption) ?_)
      first | trivial | exact q | exact ⟨rfl, q⟩
    by_cases hl : xinLive v1.toNatClampNeg = 1
    · obtain ⟨b1, b2, b3, b4, b5⟩ := a7 hp hl
      by_cases h4 : v2 = 4
      · subst h4
        repeat (first | refine br_t (by assumption) ?_ | refine br_f (by assumption) ?_ | refine br_t (by decide) ?_ | refine br_f (by decide) ?_ | refine nm_e ?_ | refine And.intro (by assumption) ?_)
        first | exact q | exact ⟨rfl, q⟩
      by_cases h5 : v2 = 5
      · subst h5
        repeat (first | refine br_t (by assumption) ?_ | refine br_f (by assumption) ?_ | refine br_t (by decide) ?_ | refine br_f (by decide) ?_ | refine nm_e ?_ | refine And.intro (by assumption) ?_)
        first | exact q | exact ⟨rfl, q⟩
      by_cases h6 : v2 = 6
      · subst h6
        repeat (first | refine br_t (by assumption) ?_ | refine br_f (by assumption) ?_ | refine br_t (by decide) ?_ | refine br_f (by decide) ?_ | refine nm_e ?_ | refine And.intro (by assumption) ?_)
        first | exact q | exact ⟨b3, q⟩
      by_cases h7 : v2 = 7
      · subst h7
        repeat (first | refine br_t (by assumption) ?_ | refine br_f (by assumption) ?_ | refine br_t (by decide) ?_ | refine br_f (by decide) ?_ | refine nm_e ?_ | refine And.intro (by assumption) ?_)
        first | exact q | exact ⟨b4, q⟩
      by_cases h8 : v2 = 8
      · subst h8
        repeat (first | refine br_t (by assumption) ?_ | refine br_f (by assumption) ?_ | refine br_t (by decide) ?_ | refine br_f (by decide) ?_ | refine nm_e ?_ | refine And.intro (by assumption) ?_)
        first | exact q | exact ⟨b5, q⟩
      by_cases ha : v2 < 0
      · by_cases hb : v2 < 4
        · repeat (first | refine br_t (by assumption) ?_ | refine br_f (by assumption) ?_ | refine br_t (by decide) ?_ | refine br_f (by decide) ?_ | refine nm_e ?_ | refine And.intro (by assumption) ?_)
          first | exact q | exact ⟨rfl, q⟩
        · exact absurd (Int32.lt_trans ha (by decide)) hb
      by_cases hb : 3 < v2
      · by_cases hd : v2 < 4
        · by_cases hc : v2 ≤ 8
          · exact absurd (lk_34 hb hd) id
          · repeat (first | refine br_t (by assumption) ?_ | refine br_f (by assumption) ?_ | refine br_t (by decide) ?_ | refine br_f (by decide) ?_ | refine nm_e ?_ | refine And.intro (by assumption) ?_)
            first | exact q | exact ⟨rfl, q⟩
        · by_cases hc : v2 ≤ 8
          · have hc2 : ¬ 8 < v2 := Int32.not_lt.mpr hc
            repeat (first | refine br_t (by assumption) ?_ | refine br_f (by assumption) ?_ | refine br_t (by decide) ?_ | refine br_f (by decide) ?_ | refine nm_e ?_ | refine And.intro (by assumption) ?_)
            first | trivial | exact q | exact ⟨rfl, q⟩
          · have hc2 : 8 < v2 := Int32.not_le.mp hc
            repeat (first | refine br_t (by assumption) ?_ | refine br_f (by assumption) ?_ | refine br_t (by decide) ?_ | refine br_f (by decide) ?_ | refine nm_e ?_ | refine And.intro (by assumption) ?_)
            first | exact q | exact ⟨rfl, q⟩
      repeat (first | refine br_t (by assumption) ?_ | refine br_f (by assumption) ?_ | refine br_t (by decide) ?_ | refine br_f (by decide) ?_ | refine nm_e ?_ | refine And.intro (by assumption) ?_)
      first | trivial | exact q | exact ⟨rfl, q⟩
    · by_cases h4 : v2 = 4
      · subst h4
        repeat (first | refine br_t (by assumption) ?_ | refine br_f (by assumption) ?_ | refine br_t (by decide) ?_ | refine br_f (by decide) ?_ | refine nm_e ?_ | refine And.intro (by assumption) ?_)
        first | exact q | exact ⟨rfl, q⟩
      by_cases h5 : v2 = 5
      · subst h5
        repeat (first | refine br_t (by assumption) ?_ | refine br_f (by assumption) ?_ | refine br_t (by decide) ?_ | refine br_f (by decide) ?_ | refine nm_e ?_ | refine And.intro (by assumption) ?_)
        first | exact q | exact ⟨rfl, q⟩
      by_cases h6 : v2 = 6
      · subst h6
        repeat (first | refine br_t (by assumption) ?_ | refine br_f (by assumption) ?_ | refine br_t (by decide) ?_ | refine br_f (by decide) ?_ | refine nm_e ?_ | refine And.intro (by assumption) ?_)
        first | exact q | exact ⟨rfl, q⟩
      by_cases h7 : v2 = 7
      · subst h7
        repeat (first | refine br_t (by assumption) ?_ | refine br_f (by assumption) ?_ | refine br_t (by decide) ?_ | refine br_f (by decide) ?_ | refine nm_e ?_ | refine And.intro (by assumption) ?_)
        first | exact q | exact ⟨rfl, q⟩
      by_cases h8 : v2 = 8
      · subst h8
        repeat (first | refine br_t (by assumption) ?_ | refine br_f (by assumption) ?_ | refine br_t (by decide) ?_ | refine br_f (by decide) ?_ | refine nm_e ?_ | refine And.intro (by assumption) ?_)
        first | exact q | exact ⟨rfl, q⟩
      by_cases ha : v2 < 0
      · by_cases hb : v2 < 4
        · repeat (first | refine br_t (by assumption) ?_ | refine br_f (by assumption) ?_ | refine br_t (by decide) ?_ | refine br_f (by decide) ?_ | refine nm_e ?_ | refine And.intro (by assumption) ?_)
          first | exact q | exact ⟨rfl, q⟩
        · exact absurd (Int32.lt_trans ha (by decide)) hb
      by_cases hb : 3 < v2
      · by_cases hd : v2 < 4
        · by_cases hc : v2 ≤ 8
          · exact absurd (lk_34 hb hd) id
          · repeat (first | refine br_t (by assumption) ?_ | refine br_f (by assumption) ?_ | refine br_t (by decide) ?_ | refine br_f (by decide) ?_ | refine nm_e ?_ | refine And.intro (by assumption) ?_)
            first | exact q | exact ⟨rfl, q⟩
        · by_cases hc : v2 ≤ 8
          · have hc2 : ¬ 8 < v2 := Int32.not_lt.mpr hc
            repeat (first | refine br_t (by assumption) ?_ | refine br_f (by assumption) ?_ | refine br_t (by decide) ?_ | refine br_f (by decide) ?_ | refine nm_e ?_ | refine And.intro (by assumption) ?_)
            first | trivial | exact q | exact ⟨rfl, q⟩
          · have hc2 : 8 < v2 := Int32.not_le.mp hc
            repeat (first | refine br_t (by assumption) ?_ | refine br_f (by assumption) ?_ | refine br_t (by decide) ?_ | refine br_f (by decide) ?_ | refine nm_e ?_ | refine And.intro (by assumption) ?_)
            first | exact q | exact ⟨rfl, q⟩
      repeat (first | refine br_t (by assumption) ?_ | refine br_f (by assumption) ?_ | refine br_t (by decide) ?_ | refine br_f (by decide) ?_ | refine nm_e ?_ | refine And.intro (by assumption) ?_)
      first | trivial | exact q | exact ⟨rfl, q⟩
theorem lk_outInfo {Q : Prop} (q : Q) {ns no ng ni nb nr R0 R1 : Nat} {xphase xopenOut xopenGroup yinGroup yfinalC0 yfinalC1 : Int32} {xregionSize xcounter xmemory xstmtOp xstmtA xstmtB xstmtOwner xoutRegion xoutLoaded xoutGroup xoutAlign xoutVma xoutLma xoutDot xgroupStart xgroupEnd xgroupResident xinKind xinId xinAlign xinSize xinFirstByte xinStmt xinLive xinVma xfedBytes xrelocOwner xrelocOffset xrelocType xrelocTarget xrelocAddend ystOut youtSize youtRes ygStart ygEnd yinBss yinLen yinVma yinLma yrom yram : Nat → Int32} {v1 v2 : Int32} (h : xphase = 0 ∨ (¬ xphase = 0 ∧ v1 < 0) ∨ (¬ xphase = 0 ∧ ¬ v1 < 0 ∧ nI no ≤ v1 ∧ ¬ v1 < nI no) ∨ (¬ xphase = 0 ∧ ¬ v1 < 0 ∧ ¬ nI no ≤ v1 ∧ v1 < nI no ∧ vp_in v1 8 ∧ youtSize v1.toNatClampNeg = xoutDot v1.toNatClampNeg - xoutVma v1.toNatClampNeg ∧ ((xoutGroup v1.toNatClampNeg = -1 ∧ ¬ 0 ≤ xoutGroup v1.toNatClampNeg ∧ youtRes v1.toNatClampNeg = 0) ∨ (¬ xoutGroup v1.toNatClampNeg = -1 ∧ 0 ≤ xoutGroup v1.toNatClampNeg ∧ vp_in (xoutGroup v1.toNatClampNeg) 4 ∧ ygStart (xoutGroup v1.toNatClampNeg).toNatClampNeg = xgroupStart (xoutGroup v1.toNatClampNeg).toNatClampNeg ∧ ygEnd (xoutGroup v1.toNatClampNeg).toNatClampNeg = xgroupEnd (xoutGroup v1.toNatClampNeg).toNatClampNeg ∧ ((xgroupResident (xoutGroup v1.toNatClampNeg).toNatClampNeg = v1 ∧ youtRes v1.toNatClampNeg = 1) ∨ (¬ xgroupResident (xoutGroup v1.toNatClampNeg).toNatClampNeg = v1 ∧ youtRes v1.toNatClampNeg = 0)))))) : wpX_outInfo (fun r => wpY_outInfo (fun r' => r' = r ∧ Q) ((nI R0), (nI R1), xphase, (nI ns), (nI no), (nI ng), (nI ni), (nI nb), (nI nr), xopenOut, yinGroup, (nI ni - 1), yfinalC0, yfinalC1, xstmtOp, xstmtA, xstmtB, ystOut, xoutRegion, xoutLoaded, xoutGroup, xoutVma, xoutLma, youtSize, xoutAlign, youtRes, ygStart, ygEnd, xinKind, xinId, xinAlign, yinBss, xinFirstByte, yinLen, xinStmt, xinLive, yinVma, yinLma, xfedBytes, xrelocOwner, xrelocOffset, xrelocType, xrelocTarget, xrelocAddend, yrom, yram) v1 v2) (xphase, (nI ns), xopenOut, xopenGroup, (nI no), (nI ng), (nI ni), (nI nb), (nI nr), xregionSize, xcounter, xmemory, xstmtOp, xstmtA, xstmtB, xstmtOwner, xoutRegion, xoutLoaded, xoutGroup, xoutAlign, xoutVma, xoutLma, xoutDot, xgroupStart, xgroupEnd, xgroupResident, xinKind, xinId, xinAlign, xinSize, xinFirstByte, xinStmt, xinLive, xinVma, xfedBytes, xrelocOwner, xrelocOffset, xrelocType, xrelocTarget, xrelocAddend) v1 v2 := by
  rcases h with a0 | ⟨a0, a1⟩ | ⟨a0, a1, a2, a3⟩ | ⟨a0, a1, a2, a3, a4, a5, a6⟩
  · repeat (first | refine br_t (by assumption) ?_ | refine br_f (by assumption) ?_ | refine br_t (by decide) ?_ | refine br_f (by decide) ?_ | refine nm_e ?_ | refine And.intro (by assumption) ?_)
    first | exact q | exact ⟨rfl, q⟩
  · repeat (first | refine br_t (by assumption) ?_ | refine br_f (by assumption) ?_ | refine br_t (by decide) ?_ | refine br_f (by decide) ?_ | refine nm_e ?_ | refine And.intro (by assumption) ?_)
    first | exact q | exact ⟨rfl, q⟩
  · repeat (first | refine br_t (by assumption) ?_ | refine br_f (by assumption) ?_ | refine br_t (by decide) ?_ | refine br_f (by decide) ?_ | refine nm_e ?_ | refine And.intro (by assumption) ?_)
    first | exact q | exact ⟨rfl, q⟩
  · by_cases h0 : v2 = 0
    · subst h0
      repeat (first | refine br_t (by assumption) ?_ | refine br_f (by assumption) ?_ | refine br_t (by decide) ?_ | refine br_f (by decide) ?_ | refine nm_e ?_ | refine And.intro (by assumption) ?_)
      first | exact q | exact ⟨rfl, q⟩
    by_cases h1 : v2 = 1
    · subst h1
      repeat (first | refine br_t (by assumption) ?_ | refine br_f (by assumption) ?_ | refine br_t (by decide) ?_ | refine br_f (by decide) ?_ | refine nm_e ?_ | refine And.intro (by assumption) ?_)
      first | exact q | exact ⟨rfl, q⟩
    by_cases h2 : v2 = 2
    · subst h2
      repeat (first | refine br_t (by assumption) ?_ | refine br_f (by assumption) ?_ | refine br_t (by decide) ?_ | refine br_f (by decide) ?_ | refine nm_e ?_ | refine And.intro (by assumption) ?_)
      first | exact q | exact ⟨a5, q⟩
    by_cases h3 : v2 = 3
    · subst h3
      repeat (first | refine br_t (by assumption) ?_ | refine br_f (by assumption) ?_ | refine br_t (by decide) ?_ | refine br_f (by decide) ?_ | refine nm_e ?_ | refine And.intro (by assumption) ?_)
      first | exact q | exact ⟨rfl, q⟩
    by_cases h4 : v2 = 4
    · subst h4
      repeat (first | refine br_t (by assumption) ?_ | refine br_f (by assumption) ?_ | refine br_t (by decide) ?_ | refine br_f (by decide) ?_ | refine nm_e ?_ | refine And.intro (by assumption) ?_)
      first | exact q | exact ⟨rfl, q⟩
    by_cases h5 : v2 = 5
    · subst h5
      repeat (first | refine br_t (by assumption) ?_ | refine br_f (by assumption) ?_ | refine br_t (by decide) ?_ | refine br_f (by decide) ?_ | refine nm_e ?_ | refine And.intro (by assumption) ?_)
      first | exact q | exact ⟨rfl, q⟩
    by_cases h7 : v2 = 7
    · subst h7
      repeat (first | refine br_t (by assumption) ?_ | refine br_f (by assumption) ?_ | refine br_t (by decide) ?_ | refine br_f (by decide) ?_ | refine nm_e ?_ | refine And.intro (by assumption) ?_)
      first | exact q | exact ⟨rfl, q⟩
    by_cases ha : v2 < 0
    · repeat (first | refine br_t (by assumption) ?_ | refine br_f (by assumption) ?_ | refine br_t (by decide) ?_ | refine br_f (by decide) ?_ | refine nm_e ?_ | refine And.intro (by assumption) ?_)
      first | exact q | exact ⟨rfl, q⟩
    by_cases hb : 9 < v2
    · have hb2 : ¬ v2 ≤ 9 := Int32.not_le.mpr hb
      repeat (first | refine br_t (by assumption) ?_ | refine br_f (by assumption) ?_ | refine br_t (by decide) ?_ | refine br_f (by decide) ?_ | refine nm_e ?_ | refine And.intro (by assumption) ?_)
      first | exact q | exact ⟨rfl, q⟩
    have hb2 : v2 ≤ 9 := Int32.not_lt.mp hb
    rcases a6 with ⟨d1, d2, d3⟩ | ⟨d1, d2, d3, d4, d5, d6⟩
    · by_cases h6 : v2 = 6
      · subst h6
        repeat (first | refine br_t (by assumption) ?_ | refine br_f (by assumption) ?_ | refine br_t (by decide) ?_ | refine br_f (by decide) ?_ | refine nm_e ?_ | refine And.intro (by assumption) ?_)
        first | exact q | exact ⟨d3, q⟩
      by_cases h8 : v2 = 8
      · subst h8
        repeat (first | refine br_t (by assumption) ?_ | refine br_f (by assumption) ?_ | refine br_t (by decide) ?_ | refine br_f (by decide) ?_ | refine nm_e ?_ | refine And.intro (by assumption) ?_)
        first | exact q | exact ⟨rfl, q⟩
      by_cases h9 : v2 = 9
      · subst h9
        repeat (first | refine br_t (by assumption) ?_ | refine br_f (by assumption) ?_ | refine br_t (by decide) ?_ | refine br_f (by decide) ?_ | refine nm_e ?_ | refine And.intro (by assumption) ?_)
        first | exact q | exact ⟨rfl, q⟩
      repeat (first | refine br_t (by assumption) ?_ | refine br_f (by assumption) ?_ | refine br_t (by decide) ?_ | refine br_f (by decide) ?_ | refine nm_e ?_ | refine And.intro (by assumption) ?_)
      first | trivial | exact q | exact ⟨rfl, q⟩
    · by_cases h6 : v2 = 6
      · subst h6
        rcases d6 with ⟨e1, e2⟩ | ⟨e1, e2⟩
        · repeat (first | refine br_t (by assumption) ?_ | refine br_f (by assumption) ?_ | refine br_t (by decide) ?_ | refine br_f (by decide) ?_ | refine nm_e ?_ | refine And.intro (by assumption) ?_)
          first | exact q | exact ⟨e2, q⟩
        · repeat (first | refine br_t (by assumption) ?_ | refine br_f (by assumption) ?_ | refine br_t (by decide) ?_ | refine br_f (by decide) ?_ | refine nm_e ?_ | refine And.intro (by assumption) ?_)
          first | exact q | exact ⟨e2, q⟩
      by_cases h8 : v2 = 8
      · subst h8
        repeat (first | refine br_t (by assumption) ?_ | refine br_f (by assumption) ?_ | refine br_t (by decide) ?_ | refine br_f (by decide) ?_ | refine nm_e ?_ | refine And.intro (by assumption) ?_)
        first | exact q | exact ⟨d4, q⟩
      by_cases h9 : v2 = 9
      · subst h9
        repeat (first | refine br_t (by assumption) ?_ | refine br_f (by assumption) ?_ | refine br_t (by decide) ?_ | refine br_f (by decide) ?_ | refine nm_e ?_ | refine And.intro (by assumption) ?_)
        first | exact q | exact ⟨d5, q⟩
      repeat (first | refine br_t (by assumption) ?_ | refine br_f (by assumption) ?_ | refine br_t (by decide) ?_ | refine br_f (by decide) ?_ | refine nm_e ?_ | refine And.intro (by assumption) ?_)
      first | trivial | exact q | exact ⟨rfl, q⟩
end
