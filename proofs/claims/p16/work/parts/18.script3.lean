section
theorem lk_scr5 {P : St2 → Prop} {ns no ng ni nb nr : Nat} {xphase xopenOut xopenGroup : Int32} {xregionSize xcounter xmemory xstmtOp xstmtA xstmtB xstmtOwner xoutRegion xoutLoaded xoutGroup xoutAlign xoutVma xoutLma xoutDot xgroupStart xgroupEnd xgroupResident xinKind xinId xinAlign xinSize xinFirstByte xinStmt xinLive xinVma xfedBytes xrelocOwner xrelocOffset xrelocType xrelocTarget xrelocAddend : Nat → Int32} {ystOut : Nat → Int32} {yinGroup : Int32} {v2 v3 : Int32} (J : P (xphase, (nI ns), xopenOut, xopenGroup, (nI no), (nI ng), (nI ni), (nI nb), (nI nr), xregionSize, xcounter, xmemory, xstmtOp, xstmtA, xstmtB, xstmtOwner, xoutRegion, xoutLoaded, xoutGroup, xoutAlign, xoutVma, xoutLma, xoutDot, xgroupStart, xgroupEnd, xgroupResident, xinKind, xinId, xinAlign, xinSize, xinFirstByte, xinStmt, xinLive, xinVma, xfedBytes, xrelocOwner, xrelocOffset, xrelocType, xrelocTarget, xrelocAddend)) (hS : lk_S ns no ng xstmtOp xstmtA xstmtB xstmtOwner ystOut xoutRegion xoutLoaded xoutGroup xopenOut xopenGroup yinGroup) (K : ∀ {ns no ng : Nat} {xopenOut xopenGroup yinGroup : Int32} {xstmtOp xstmtA xstmtB xstmtOwner xoutRegion xoutLoaded xoutGroup ystOut : Nat → Int32}, lk_S ns no ng xstmtOp xstmtA xstmtB xstmtOwner ystOut xoutRegion xoutLoaded xoutGroup xopenOut xopenGroup yinGroup → P (xphase, (nI ns), xopenOut, xopenGroup, (nI no), (nI ng), (nI ni), (nI nb), (nI nr), xregionSize, xcounter, xmemory, xstmtOp, xstmtA, xstmtB, xstmtOwner, xoutRegion, xoutLoaded, xoutGroup, xoutAlign, xoutVma, xoutLma, xoutDot, xgroupStart, xgroupEnd, xgroupResident, xinKind, xinId, xinAlign, xinSize, xinFirstByte, xinStmt, xinLive, xinVma, xfedBytes, xrelocOwner, xrelocOffset, xrelocType, xrelocTarget, xrelocAddend)) (hp : xphase = 0) : wpX_script (fun _ u => P u) (xphase, (nI ns), xopenOut, xopenGroup, (nI no), (nI ng), (nI ni), (nI nb), (nI nr), xregionSize, xcounter, xmemory, xstmtOp, xstmtA, xstmtB, xstmtOwner, xoutRegion, xoutLoaded, xoutGroup, xoutAlign, xoutVma, xoutLma, xoutDot, xgroupStart, xgroupEnd, xgroupResident, xinKind, xinId, xinAlign, xinSize, xinFirstByte, xinStmt, xinLive, xinVma, xfedBytes, xrelocOwner, xrelocOffset, xrelocType, xrelocTarget, xrelocAddend) 5 v2 v3 := by
  obtain ⟨c1, c2, c3, c4, c5, c6, c7, c8, c9⟩ := id hS
  rcases Bool.eq_false_or_eq_true (lk_is xstmtOp ns) with his | his
  · have hno := lk_is_p ns his
    rw [← c4] at hno
    rw [his, if_pos rfl] at c6
    subst c6
    have o1 : ¬ nI (no - 1) = -1 := lk_nn1 (by omega)
    have o2 : ¬ nI (no - 1) < 0 := nI_pos (by omega)
    rcases Bool.eq_false_or_eq_true (lk_ig xstmtOp ns) with hig | hig
    · have hng := lk_ig_p ns hig
      rw [← c5] at hng
      rw [hig, if_pos rfl] at c7 c8
      subst c7
      subst c8
      have g1 : ¬ nI (ng - 1) = -1 := lk_nn1 (by omega)
      by_cases a1 : v2 < 0
      · repeat (first | refine br_t (by assumption) ?_ | refine br_f (by assumption) ?_ | refine br_t (by decide) ?_ | refine br_f (by decide) ?_ | refine nm_e ?_ | refine And.intro (by assumption) ?_ | refine And.intro rfl ?_ | refine lx_isA (by assumption) ?_ | refine lx_nA (by assumption) ?_)
        exact J
      by_cases a2 : 1023 < v2
      · have a3 : ¬ v2 ≤ 1023 := Int32.not_le.mpr a2
        repeat (first | refine br_t (by assumption) ?_ | refine br_f (by assumption) ?_ | refine br_t (by decide) ?_ | refine br_f (by decide) ?_ | refine nm_e ?_ | refine And.intro (by assumption) ?_ | refine And.intro rfl ?_ | refine lx_isA (by assumption) ?_ | refine lx_nA (by assumption) ?_)
        exact J
      have a3 : v2 ≤ 1023 := Int32.not_lt.mp a2
      obtain ⟨x, hx, ex⟩ := nI_of2 (M := 1023) (n := 1023) (by decide) a1 a3
      by_cases hn : ns < 32
      · have n1 : nI ns < 32 := nI_lt (b := 32) hn (by omega)
        have n2 : vp_in (nI ns) 32 := vp_in_nI hn (by omega)
        repeat (first | refine br_t (by assumption) ?_ | refine br_f (by assumption) ?_ | refine br_t (by decide) ?_ | refine br_f (by decide) ?_ | refine nm_e ?_ | refine And.intro (by assumption) ?_ | refine And.intro rfl ?_ | refine lx_isA (by assumption) ?_ | refine lx_nA (by assumption) ?_)
        rw [nI_clamp (show ns < 2 ^ 31 by omega), nI_1 ns]
        refine K (lk_S_st (o2 := nI (no - 1)) (x := 5) hS hn (by decide) (by decide) rfl rfl rfl ?_)
        unfold lk_sc
        simp only [lk_is_u ns (Nat.le_refl ns), lk_ig_u ns (Nat.le_refl ns), lk_no_u ns (Nat.le_refl ns), lk_ng_u ns (Nat.le_refl ns), pk_us, ← c4, ← c5]
        exact Or.inr (Or.inr (Or.inl ⟨Or.inl (by trivial), ⟨x, by omega, ex, fun z => absurd z (by decide)⟩, Or.inl ⟨his, (by trivial), (by trivial)⟩⟩))
      · have n1 : ¬ nI ns < 32 := nI_nlt (b := 32) (by omega) (by omega)
        repeat (first | refine br_t (by assumption) ?_ | refine br_f (by assumption) ?_ | refine br_t (by decide) ?_ | refine br_f (by decide) ?_ | refine nm_e ?_ | refine And.intro (by assumption) ?_ | refine And.intro rfl ?_ | refine lx_isA (by assumption) ?_ | refine lx_nA (by assumption) ?_)
        exact J
    · rw [hig, if_neg (by decide)] at c7 c8
      subst c7
      subst c8
      by_cases a1 : v2 < 0
      · repeat (first | refine br_t (by assumption) ?_ | refine br_f (by assumption) ?_ | refine br_t (by decide) ?_ | refine br_f (by decide) ?_ | refine nm_e ?_ | refine And.intro (by assumption) ?_ | refine And.intro rfl ?_ | refine lx_isA (by assumption) ?_ | refine lx_nA (by assumption) ?_)
        exact J
      by_cases a2 : 1023 < v2
      · have a3 : ¬ v2 ≤ 1023 := Int32.not_le.mpr a2
        repeat (first | refine br_t (by assumption) ?_ | refine br_f (by assumption) ?_ | refine br_t (by decide) ?_ | refine br_f (by decide) ?_ | refine nm_e ?_ | refine And.intro (by assumption) ?_ | refine And.intro rfl ?_ | refine lx_isA (by assumption) ?_ | refine lx_nA (by assumption) ?_)
        exact J
      have a3 : v2 ≤ 1023 := Int32.not_lt.mp a2
      obtain ⟨x, hx, ex⟩ := nI_of2 (M := 1023) (n := 1023) (by decide) a1 a3
      by_cases hn : ns < 32
      · have n1 : nI ns < 32 := nI_lt (b := 32) hn (by omega)
        have n2 : vp_in (nI ns) 32 := vp_in_nI hn (by omega)
        repeat (first | refine br_t (by assumption) ?_ | refine br_f (by assumption) ?_ | refine br_t (by decide) ?_ | refine br_f (by decide) ?_ | refine nm_e ?_ | refine And.intro (by assumption) ?_ | refine And.intro rfl ?_ | refine lx_isA (by assumption) ?_ | refine lx_nA (by assumption) ?_)
        rw [nI_clamp (show ns < 2 ^ 31 by omega), nI_1 ns]
        refine K (lk_S_st (o2 := nI (no - 1)) (x := 5) hS hn (by decide) (by decide) rfl rfl rfl ?_)
        unfold lk_sc
        simp only [lk_is_u ns (Nat.le_refl ns), lk_ig_u ns (Nat.le_refl ns), lk_no_u ns (Nat.le_refl ns), lk_ng_u ns (Nat.le_refl ns), pk_us, ← c4, ← c5]
        exact Or.inr (Or.inr (Or.inl ⟨Or.inl (by trivial), ⟨x, by omega, ex, fun z => absurd z (by decide)⟩, Or.inl ⟨his, (by trivial), (by trivial)⟩⟩))
      · have n1 : ¬ nI ns < 32 := nI_nlt (b := 32) (by omega) (by omega)
        repeat (first | refine br_t (by assumption) ?_ | refine br_f (by assumption) ?_ | refine br_t (by decide) ?_ | refine br_f (by decide) ?_ | refine nm_e ?_ | refine And.intro (by assumption) ?_ | refine And.intro rfl ?_ | refine lx_isA (by assumption) ?_ | refine lx_nA (by assumption) ?_)
        exact J
  · rw [his, if_neg (by decide)] at c6
    subst c6
    rcases Bool.eq_false_or_eq_true (lk_ig xstmtOp ns) with hig | hig
    · have hng := lk_ig_p ns hig
      rw [← c5] at hng
      rw [hig, if_pos rfl] at c7 c8
      subst c7
      subst c8
      have g1 : ¬ nI (ng - 1) = -1 := lk_nn1 (by omega)
      repeat (first | refine br_t (by assumption) ?_ | refine br_f (by assumption) ?_ | refine br_t (by decide) ?_ | refine br_f (by decide) ?_ | refine nm_e ?_ | refine And.intro (by assumption) ?_ | refine And.intro rfl ?_ | refine lx_isA (by assumption) ?_ | refine lx_nA (by assumption) ?_)
      exact J
    · rw [hig, if_neg (by decide)] at c7 c8
      subst c7
      subst c8
      by_cases a1 : v2 < 0
      · repeat (first | refine br_t (by assumption) ?_ | refine br_f (by assumption) ?_ | refine br_t (by decide) ?_ | refine br_f (by decide) ?_ | refine nm_e ?_ | refine And.intro (by assumption) ?_ | refine And.intro rfl ?_ | refine lx_isA (by assumption) ?_ | refine lx_nA (by assumption) ?_)
        exact J
      by_cases a2 : 1023 < v2
      · have a3 : ¬ v2 ≤ 1023 := Int32.not_le.mpr a2
        repeat (first | refine br_t (by assumption) ?_ | refine br_f (by assumption) ?_ | refine br_t (by decide) ?_ | refine br_f (by decide) ?_ | refine nm_e ?_ | refine And.intro (by assumption) ?_ | refine And.intro rfl ?_ | refine lx_isA (by assumption) ?_ | refine lx_nA (by assumption) ?_)
        exact J
      have a3 : v2 ≤ 1023 := Int32.not_lt.mp a2
      obtain ⟨x, hx, ex⟩ := nI_of2 (M := 1023) (n := 1023) (by decide) a1 a3
      rcases lk_01 v3 with b0 | b0 | ⟨b1, b2, b3⟩ | ⟨b1, b2, b3, b4, b5⟩
      · have b1 : ¬ v3 < 0 := by rw [b0]; decide
        have b2 : v3 ≤ 1 := by rw [b0]; decide
        by_cases hn : ns < 32
        · have n1 : nI ns < 32 := nI_lt (b := 32) hn (by omega)
          have n2 : vp_in (nI ns) 32 := vp_in_nI hn (by omega)
          repeat (first | refine br_t (by assumption) ?_ | refine br_f (by assumption) ?_ | refine br_t (by decide) ?_ | refine br_f (by decide) ?_ | refine nm_e ?_ | refine And.intro (by assumption) ?_ | refine And.intro rfl ?_ | refine lx_isA (by assumption) ?_ | refine lx_nA (by assumption) ?_)
          rw [nI_clamp (show ns < 2 ^ 31 by omega), nI_1 ns]
          refine K (lk_S_st (o2 := -1) (x := 5) hS hn (by decide) (by decide) rfl rfl rfl ?_)
          unfold lk_sc
          simp only [lk_is_u ns (Nat.le_refl ns), lk_ig_u ns (Nat.le_refl ns), lk_no_u ns (Nat.le_refl ns), lk_ng_u ns (Nat.le_refl ns), pk_us, ← c4, ← c5]
          exact Or.inr (Or.inr (Or.inl ⟨Or.inl (by trivial), ⟨x, by omega, ex, fun z => absurd z (by decide)⟩, Or.inr ⟨his, hig, (by trivial), (by trivial), Or.inl b0⟩⟩))
        · have n1 : ¬ nI ns < 32 := nI_nlt (b := 32) (by omega) (by omega)
          repeat (first | refine br_t (by assumption) ?_ | refine br_f (by assumption) ?_ | refine br_t (by decide) ?_ | refine br_f (by decide) ?_ | refine nm_e ?_ | refine And.intro (by assumption) ?_ | refine And.intro rfl ?_ | refine lx_isA (by assumption) ?_ | refine lx_nA (by assumption) ?_)
          exact J
      · have b1 : ¬ v3 < 0 := by rw [b0]; decide
        have b2 : v3 ≤ 1 := by rw [b0]; decide
        have b3 : ¬ v3 = 0 := by rw [b0]; decide
        by_cases hn : ns < 32
        · have n1 : nI ns < 32 := nI_lt (b := 32) hn (by omega)
          have n2 : vp_in (nI ns) 32 := vp_in_nI hn (by omega)
          repeat (first | refine br_t (by assumption) ?_ | refine br_f (by assumption) ?_ | refine br_t (by decide) ?_ | refine br_f (by decide) ?_ | refine nm_e ?_ | refine And.intro (by assumption) ?_ | refine And.intro rfl ?_ | refine lx_isA (by assumption) ?_ | refine lx_nA (by assumption) ?_)
          rw [nI_clamp (show ns < 2 ^ 31 by omega), nI_1 ns]
          refine K (lk_S_st (o2 := -1) (x := 5) hS hn (by decide) (by decide) rfl rfl rfl ?_)
          unfold lk_sc
          simp only [lk_is_u ns (Nat.le_refl ns), lk_ig_u ns (Nat.le_refl ns), lk_no_u ns (Nat.le_refl ns), lk_ng_u ns (Nat.le_refl ns), pk_us, ← c4, ← c5]
          exact Or.inr (Or.inr (Or.inl ⟨Or.inl (by trivial), ⟨x, by omega, ex, fun z => absurd z (by decide)⟩, Or.inr ⟨his, hig, (by trivial), (by trivial), Or.inr b0⟩⟩))
        · have n1 : ¬ nI ns < 32 := nI_nlt (b := 32) (by omega) (by omega)
          repeat (first | refine br_t (by assumption) ?_ | refine br_f (by assumption) ?_ | refine br_t (by decide) ?_ | refine br_f (by decide) ?_ | refine nm_e ?_ | refine And.intro (by assumption) ?_ | refine And.intro rfl ?_ | refine lx_isA (by assumption) ?_ | refine lx_nA (by assumption) ?_)
          exact J
      · repeat (first | refine br_t (by assumption) ?_ | refine br_f (by assumption) ?_ | refine br_t (by decide) ?_ | refine br_f (by decide) ?_ | refine nm_e ?_ | refine And.intro (by assumption) ?_ | refine And.intro rfl ?_ | refine lx_isA (by assumption) ?_ | refine lx_nA (by assumption) ?_)
        exact J
      · repeat (first | refine br_t (by assumption) ?_ | refine br_f (by assumption) ?_ | refine br_t (by decide) ?_ | refine br_f (by decide) ?_ | refine nm_e ?_ | refine And.intro (by assumption) ?_ | refine And.intro rfl ?_ | refine lx_isA (by assumption) ?_ | refine lx_nA (by assumption) ?_)
        exact J
theorem lk_scr6 {P : St2 → Prop} {ns no ng ni nb nr : Nat} {xphase xopenOut xopenGroup : Int32} {xregionSize xcounter xmemory xstmtOp xstmtA xstmtB xstmtOwner xoutRegion xoutLoaded xoutGroup xoutAlign xoutVma xoutLma xoutDot xgroupStart xgroupEnd xgroupResident xinKind xinId xinAlign xinSize xinFirstByte xinStmt xinLive xinVma xfedBytes xrelocOwner xrelocOffset xrelocType xrelocTarget xrelocAddend : Nat → Int32} {ystOut : Nat → Int32} {yinGroup : Int32} {v2 v3 : Int32} (J : P (xphase, (nI ns), xopenOut, xopenGroup, (nI no), (nI ng), (nI ni), (nI nb), (nI nr), xregionSize, xcounter, xmemory, xstmtOp, xstmtA, xstmtB, xstmtOwner, xoutRegion, xoutLoaded, xoutGroup, xoutAlign, xoutVma, xoutLma, xoutDot, xgroupStart, xgroupEnd, xgroupResident, xinKind, xinId, xinAlign, xinSize, xinFirstByte, xinStmt, xinLive, xinVma, xfedBytes, xrelocOwner, xrelocOffset, xrelocType, xrelocTarget, xrelocAddend)) (hS : lk_S ns no ng xstmtOp xstmtA xstmtB xstmtOwner ystOut xoutRegion xoutLoaded xoutGroup xopenOut xopenGroup yinGroup) (K : ∀ {ns no ng : Nat} {xopenOut xopenGroup yinGroup : Int32} {xstmtOp xstmtA xstmtB xstmtOwner xoutRegion xoutLoaded xoutGroup ystOut : Nat → Int32}, lk_S ns no ng xstmtOp xstmtA xstmtB xstmtOwner ystOut xoutRegion xoutLoaded xoutGroup xopenOut xopenGroup yinGroup → P (xphase, (nI ns), xopenOut, xopenGroup, (nI no), (nI ng), (nI ni), (nI nb), (nI nr), xregionSize, xcounter, xmemory, xstmtOp, xstmtA, xstmtB, xstmtOwner, xoutRegion, xoutLoaded, xoutGroup, xoutAlign, xoutVma, xoutLma, xoutDot, xgroupStart, xgroupEnd, xgroupResident, xinKind, xinId, xinAlign, xinSize, xinFirstByte, xinStmt, xinLive, xinVma, xfedBytes, xrelocOwner, xrelocOffset, xrelocType, xrelocTarget, xrelocAddend)) (hp : xphase = 0) : wpX_script (fun _ u => P u) (xphase, (nI ns), xopenOut, xopenGroup, (nI no), (nI ng), (nI ni), (nI nb), (nI nr), xregionSize, xcounter, xmemory, xstmtOp, xstmtA, xstmtB, xstmtOwner, xoutRegion, xoutLoaded, xoutGroup, xoutAlign, xoutVma, xoutLma, xoutDot, xgroupStart, xgroupEnd, xgroupResident, xinKind, xinId, xinAlign, xinSize, xinFirstByte, xinStmt, xinLive, xinVma, xfedBytes, xrelocOwner, xrelocOffset, xrelocType, xrelocTarget, xrelocAddend) 6 v2 v3 := by
  obtain ⟨c1, c2, c3, c4, c5, c6, c7, c8, c9⟩ := id hS
  rcases Bool.eq_false_or_eq_true (lk_is xstmtOp ns) with his | his
  · have hno := lk_is_p ns his
    rw [← c4] at hno
    rw [his, if_pos rfl] at c6
    subst c6
    have o1 : ¬ nI (no - 1) = -1 := lk_nn1 (by omega)
    have o2 : ¬ nI (no - 1) < 0 := nI_pos (by omega)
    rcases Bool.eq_false_or_eq_true (lk_ig xstmtOp ns) with hig | hig
    · have hng := lk_ig_p ns hig
      rw [← c5] at hng
      rw [hig, if_pos rfl] at c7 c8
      subst c7
      subst c8
      have g1 : ¬ nI (ng - 1) = -1 := lk_nn1 (by omega)
      by_cases a1 : v2 < 0
      · repeat (first | refine br_t (by assumption) ?_ | refine br_f (by assumption) ?_ | refine br_t (by decide) ?_ | refine br_f (by decide) ?_ | refine nm_e ?_ | refine And.intro (by assumption) ?_ | refine And.intro rfl ?_ | refine lx_isA (by assumption) ?_ | refine lx_nA (by assumption) ?_)
        exact J
      by_cases a2 : 255 < v2
      · have a3 : ¬ v2 ≤ 255 := Int32.not_le.mpr a2
        repeat (first | refine br_t (by assumption) ?_ | refine br_f (by assumption) ?_ | refine br_t (by decide) ?_ | refine br_f (by decide) ?_ | refine nm_e ?_ | refine And.intro (by assumption) ?_ | refine And.intro rfl ?_ | refine lx_isA (by assumption) ?_ | refine lx_nA (by assumption) ?_)
        exact J
      have a3 : v2 ≤ 255 := Int32.not_lt.mp a2
      obtain ⟨x, hx, ex⟩ := nI_of2 (M := 255) (n := 255) (by decide) a1 a3
      by_cases hn : ns < 32
      · have n1 : nI ns < 32 := nI_lt (b := 32) hn (by omega)
        have n2 : vp_in (nI ns) 32 := vp_in_nI hn (by omega)
        repeat (first | refine br_t (by assumption) ?_ | refine br_f (by assumption) ?_ | refine br_t (by decide) ?_ | refine br_f (by decide) ?_ | refine nm_e ?_ | refine And.intro (by assumption) ?_ | refine And.intro rfl ?_ | refine lx_isA (by assumption) ?_ | refine lx_nA (by assumption) ?_)
        rw [nI_clamp (show ns < 2 ^ 31 by omega), nI_1 ns]
        refine K (lk_S_st (o2 := nI (no - 1)) (x := 6) hS hn (by decide) (by decide) rfl rfl rfl ?_)
        unfold lk_sc
        simp only [lk_is_u ns (Nat.le_refl ns), lk_ig_u ns (Nat.le_refl ns), lk_no_u ns (Nat.le_refl ns), lk_ng_u ns (Nat.le_refl ns), pk_us, ← c4, ← c5]
        exact Or.inr (Or.inr (Or.inl ⟨Or.inr (Or.inl (by trivial)), ⟨x, by omega, ex, fun z => absurd z (by decide)⟩, Or.inl ⟨his, (by trivial), (by trivial)⟩⟩))
      · have n1 : ¬ nI ns < 32 := nI_nlt (b := 32) (by omega) (by omega)
        repeat (first | refine br_t (by assumption) ?_ | refine br_f (by assumption) ?_ | refine br_t (by decide) ?_ | refine br_f (by decide) ?_ | refine nm_e ?_ | refine And.intro (by assumption) ?_ | refine And.intro rfl ?_ | refine lx_isA (by assumption) ?_ | refine lx_nA (by assumption) ?_)
        exact J
    · rw [hig, if_neg (by decide)] at c7 c8
      subst c7
      subst c8
      by_cases a1 : v2 < 0
      · repeat (first | refine br_t (by assumption) ?_ | refine br_f (by assumption) ?_ | refine br_t (by decide) ?_ | refine br_f (by decide) ?_ | refine nm_e ?_ | refine And.intro (by assumption) ?_ | refine And.intro rfl ?_ | refine lx_isA (by assumption) ?_ | refine lx_nA (by assumption) ?_)
        exact J
      by_cases a2 : 255 < v2
      · have a3 : ¬ v2 ≤ 255 := Int32.not_le.mpr a2
        repeat (first | refine br_t (by assumption) ?_ | refine br_f (by assumption) ?_ | refine br_t (by decide) ?_ | refine br_f (by decide) ?_ | refine nm_e ?_ | refine And.intro (by assumption) ?_ | refine And.intro rfl ?_ | refine lx_isA (by assumption) ?_ | refine lx_nA (by assumption) ?_)
        exact J
      have a3 : v2 ≤ 255 := Int32.not_lt.mp a2
      obtain ⟨x, hx, ex⟩ := nI_of2 (M := 255) (n := 255) (by decide) a1 a3
      by_cases hn : ns < 32
      · have n1 : nI ns < 32 := nI_lt (b := 32) hn (by omega)
        have n2 : vp_in (nI ns) 32 := vp_in_nI hn (by omega)
        repeat (first | refine br_t (by assumption) ?_ | refine br_f (by assumption) ?_ | refine br_t (by decide) ?_ | refine br_f (by decide) ?_ | refine nm_e ?_ | refine And.intro (by assumption) ?_ | refine And.intro rfl ?_ | refine lx_isA (by assumption) ?_ | refine lx_nA (by assumption) ?_)
        rw [nI_clamp (show ns < 2 ^ 31 by omega), nI_1 ns]
        refine K (lk_S_st (o2 := nI (no - 1)) (x := 6) hS hn (by decide) (by decide) rfl rfl rfl ?_)
        unfold lk_sc
        simp only [lk_is_u ns (Nat.le_refl ns), lk_ig_u ns (Nat.le_refl ns), lk_no_u ns (Nat.le_refl ns), lk_ng_u ns (Nat.le_refl ns), pk_us, ← c4, ← c5]
        exact Or.inr (Or.inr (Or.inl ⟨Or.inr (Or.inl (by trivial)), ⟨x, by omega, ex, fun z => absurd z (by decide)⟩, Or.inl ⟨his, (by trivial), (by trivial)⟩⟩))
      · have n1 : ¬ nI ns < 32 := nI_nlt (b := 32) (by omega) (by omega)
        repeat (first | refine br_t (by assumption) ?_ | refine br_f (by assumption) ?_ | refine br_t (by decide) ?_ | refine br_f (by decide) ?_ | refine nm_e ?_ | refine And.intro (by assumption) ?_ | refine And.intro rfl ?_ | refine lx_isA (by assumption) ?_ | refine lx_nA (by assumption) ?_)
        exact J
  · rw [his, if_neg (by decide)] at c6
    subst c6
    rcases Bool.eq_false_or_eq_true (lk_ig xstmtOp ns) with hig | hig
    · have hng := lk_ig_p ns hig
      rw [← c5] at hng
      rw [hig, if_pos rfl] at c7 c8
      subst c7
      subst c8
      have g1 : ¬ nI (ng - 1) = -1 := lk_nn1 (by omega)
      repeat (first | refine br_t (by assumption) ?_ | refine br_f (by assumption) ?_ | refine br_t (by decide) ?_ | refine br_f (by decide) ?_ | refine nm_e ?_ | refine And.intro (by assumption) ?_ | refine And.intro rfl ?_ | refine lx_isA (by assumption) ?_ | refine lx_nA (by assumption) ?_)
      exact J
    · rw [hig, if_neg (by decide)] at c7 c8
      subst c7
      subst c8
      by_cases a1 : v2 < 0
      · repeat (first | refine br_t (by assumption) ?_ | refine br_f (by assumption) ?_ | refine br_t (by decide) ?_ | refine br_f (by decide) ?_ | refine nm_e ?_ | refine And.intro (by assumption) ?_ | refine And.intro rfl ?_ | refine lx_isA (by assumption) ?_ | refine lx_nA (by assumption) ?_)
        exact J
      by_cases a2 : 255 < v2
      · have a3 : ¬ v2 ≤ 255 := Int32.not_le.mpr a2
        repeat (first | refine br_t (by assumption) ?_ | refine br_f (by assumption) ?_ | refine br_t (by decide) ?_ | refine br_f (by decide) ?_ | refine nm_e ?_ | refine And.intro (by assumption) ?_ | refine And.intro rfl ?_ | refine lx_isA (by assumption) ?_ | refine lx_nA (by assumption) ?_)
        exact J
      have a3 : v2 ≤ 255 := Int32.not_lt.mp a2
      obtain ⟨x, hx, ex⟩ := nI_of2 (M := 255) (n := 255) (by decide) a1 a3
      rcases lk_01 v3 with b0 | b0 | ⟨b1, b2, b3⟩ | ⟨b1, b2, b3, b4, b5⟩
      · have b1 : ¬ v3 < 0 := by rw [b0]; decide
        have b2 : v3 ≤ 1 := by rw [b0]; decide
        by_cases hn : ns < 32
        · have n1 : nI ns < 32 := nI_lt (b := 32) hn (by omega)
          have n2 : vp_in (nI ns) 32 := vp_in_nI hn (by omega)
          repeat (first | refine br_t (by assumption) ?_ | refine br_f (by assumption) ?_ | refine br_t (by decide) ?_ | refine br_f (by decide) ?_ | refine nm_e ?_ | refine And.intro (by assumption) ?_ | refine And.intro rfl ?_ | refine lx_isA (by assumption) ?_ | refine lx_nA (by assumption) ?_)
          rw [nI_clamp (show ns < 2 ^ 31 by omega), nI_1 ns]
          refine K (lk_S_st (o2 := -1) (x := 6) hS hn (by decide) (by decide) rfl rfl rfl ?_)
          unfold lk_sc
          simp only [lk_is_u ns (Nat.le_refl ns), lk_ig_u ns (Nat.le_refl ns), lk_no_u ns (Nat.le_refl ns), lk_ng_u ns (Nat.le_refl ns), pk_us, ← c4, ← c5]
          exact Or.inr (Or.inr (Or.inl ⟨Or.inr (Or.inl (by trivial)), ⟨x, by omega, ex, fun z => absurd z (by decide)⟩, Or.inr ⟨his, hig, (by trivial), (by trivial), Or.inl b0⟩⟩))
        · have n1 : ¬ nI ns < 32 := nI_nlt (b := 32) (by omega) (by omega)
          repeat (first | refine br_t (by assumption) ?_ | refine br_f (by assumption) ?_ | refine br_t (by decide) ?_ | refine br_f (by decide) ?_ | refine nm_e ?_ | refine And.intro (by assumption) ?_ | refine And.intro rfl ?_ | refine lx_isA (by assumption) ?_ | refine lx_nA (by assumption) ?_)
          exact J
      · have b1 : ¬ v3 < 0 := by rw [b0]; decide
        have b2 : v3 ≤ 1 := by rw [b0]; decide
        have b3 : ¬ v3 = 0 := by rw [b0]; decide
        by_cases hn : ns < 32
        · have n1 : nI ns < 32 := nI_lt (b := 32) hn (by omega)
          have n2 : vp_in (nI ns) 32 := vp_in_nI hn (by omega)
          repeat (first | refine br_t (by assumption) ?_ | refine br_f (by assumption) ?_ | refine br_t (by decide) ?_ | refine br_f (by decide) ?_ | refine nm_e ?_ | refine And.intro (by assumption) ?_ | refine And.intro rfl ?_ | refine lx_isA (by assumption) ?_ | refine lx_nA (by assumption) ?_)
          rw [nI_clamp (show ns < 2 ^ 31 by omega), nI_1 ns]
          refine K (lk_S_st (o2 := -1) (x := 6) hS hn (by decide) (by decide) rfl rfl rfl ?_)
          unfold lk_sc
          simp only [lk_is_u ns (Nat.le_refl ns), lk_ig_u ns (Nat.le_refl ns), lk_no_u ns (Nat.le_refl ns), lk_ng_u ns (Nat.le_refl ns), pk_us, ← c4, ← c5]
          exact Or.inr (Or.inr (Or.inl ⟨Or.inr (Or.inl (by trivial)), ⟨x, by omega, ex, fun z => absurd z (by decide)⟩, Or.inr ⟨his, hig, (by trivial), (by trivial), Or.inr b0⟩⟩))
        · have n1 : ¬ nI ns < 32 := nI_nlt (b := 32) (by omega) (by omega)
          repeat (first | refine br_t (by assumption) ?_ | refine br_f (by assumption) ?_ | refine br_t (by decide) ?_ | refine br_f (by decide) ?_ | refine nm_e ?_ | refine And.intro (by assumption) ?_ | refine And.intro rfl ?_ | refine lx_isA (by assumption) ?_ | refine lx_nA (by assumption) ?_)
          exact J
      · repeat (first | refine br_t (by assumption) ?_ | refine br_f (by assumption) ?_ | refine br_t (by decide) ?_ | refine br_f (by decide) ?_ | refine nm_e ?_ | refine And.intro (by assumption) ?_ | refine And.intro rfl ?_ | refine lx_isA (by assumption) ?_ | refine lx_nA (by assumption) ?_)
        exact J
      · repeat (first | refine br_t (by assumption) ?_ | refine br_f (by assumption) ?_ | refine br_t (by decide) ?_ | refine br_f (by decide) ?_ | refine nm_e ?_ | refine And.intro (by assumption) ?_ | refine And.intro rfl ?_ | refine lx_isA (by assumption) ?_ | refine lx_nA (by assumption) ?_)
        exact J
end
