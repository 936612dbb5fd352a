section
theorem lk_scr7 {k : Nat} {ns no ng ni nb nr R0 R1 : Nat} {xphase xopenOut xopenGroup yinGroup yfinalC0 yfinalC1 : Int32} {xregionSize xcounter xmemory xstmtOp xstmtA xstmtB xstmtOwner xoutRegion xoutLoaded xoutGroup xoutAlign xoutVma xoutLma xoutDot xgroupStart xgroupEnd xgroupResident xinKind xinId xinAlign xinSize xinFirstByte xinStmt xinLive xinVma xfedBytes xrelocOwner xrelocOffset xrelocType xrelocTarget xrelocAddend ystOut youtSize youtRes ygStart ygEnd yinBss yinLen yinVma yinLma yrom yram : Nat → Int32} {v2 v3 : Int32} (J : i_Rel (k + 5) (xphase, (nI ns), xopenOut, xopenGroup, (nI no), (nI ng), (nI ni), (nI nb), (nI nr), xregionSize, xcounter, xmemory, xstmtOp, xstmtA, xstmtB, xstmtOwner, xoutRegion, xoutLoaded, xoutGroup, xoutAlign, xoutVma, xoutLma, xoutDot, xgroupStart, xgroupEnd, xgroupResident, xinKind, xinId, xinAlign, xinSize, xinFirstByte, xinStmt, xinLive, xinVma, xfedBytes, xrelocOwner, xrelocOffset, xrelocType, xrelocTarget, xrelocAddend) ((nI R0), (nI R1), xphase, (nI ns), (nI no), (nI ng), (nI ni), (nI nb), (nI nr), xopenOut, yinGroup, (nI ni - 1), yfinalC0, yfinalC1, xstmtOp, xstmtA, xstmtB, ystOut, xoutRegion, xoutLoaded, xoutGroup, xoutVma, xoutLma, youtSize, xoutAlign, youtRes, ygStart, ygEnd, xinKind, xinId, xinAlign, yinBss, xinFirstByte, yinLen, xinStmt, xinLive, yinVma, yinLma, xfedBytes, xrelocOwner, xrelocOffset, xrelocType, xrelocTarget, xrelocAddend, yrom, yram)) (hS : lk_S ns no ng xstmtOp xstmtA xstmtB xstmtOwner ystOut xoutRegion xoutLoaded xoutGroup xopenOut xopenGroup yinGroup) (K : ∀ {ns no ng : Nat} {xopenOut xopenGroup yinGroup : Int32} {xstmtOp xstmtA xstmtB xstmtOwner xoutRegion xoutLoaded xoutGroup ystOut : Nat → Int32}, lk_S ns no ng xstmtOp xstmtA xstmtB xstmtOwner ystOut xoutRegion xoutLoaded xoutGroup xopenOut xopenGroup yinGroup → i_Rel (k + 5) (xphase, (nI ns), xopenOut, xopenGroup, (nI no), (nI ng), (nI ni), (nI nb), (nI nr), xregionSize, xcounter, xmemory, xstmtOp, xstmtA, xstmtB, xstmtOwner, xoutRegion, xoutLoaded, xoutGroup, xoutAlign, xoutVma, xoutLma, xoutDot, xgroupStart, xgroupEnd, xgroupResident, xinKind, xinId, xinAlign, xinSize, xinFirstByte, xinStmt, xinLive, xinVma, xfedBytes, xrelocOwner, xrelocOffset, xrelocType, xrelocTarget, xrelocAddend) ((nI R0), (nI R1), xphase, (nI ns), (nI no), (nI ng), (nI ni), (nI nb), (nI nr), xopenOut, yinGroup, (nI ni - 1), yfinalC0, yfinalC1, xstmtOp, xstmtA, xstmtB, ystOut, xoutRegion, xoutLoaded, xoutGroup, xoutVma, xoutLma, youtSize, xoutAlign, youtRes, ygStart, ygEnd, xinKind, xinId, xinAlign, yinBss, xinFirstByte, yinLen, xinStmt, xinLive, yinVma, yinLma, xfedBytes, xrelocOwner, xrelocOffset, xrelocType, xrelocTarget, xrelocAddend, yrom, yram)) (hp : xphase = 0) : wpX_script (fun r u' => wpY_script (fun r' v' => r' = r ∧ i_Rel (k + 5) u' v') ((nI R0), (nI R1), xphase, (nI ns), (nI no), (nI ng), (nI ni), (nI nb), (nI nr), xopenOut, yinGroup, (nI ni - 1), yfinalC0, yfinalC1, xstmtOp, xstmtA, xstmtB, ystOut, xoutRegion, xoutLoaded, xoutGroup, xoutVma, xoutLma, youtSize, xoutAlign, youtRes, ygStart, ygEnd, xinKind, xinId, xinAlign, yinBss, xinFirstByte, yinLen, xinStmt, xinLive, yinVma, yinLma, xfedBytes, xrelocOwner, xrelocOffset, xrelocType, xrelocTarget, xrelocAddend, yrom, yram) 7 v2 v3) (xphase, (nI ns), xopenOut, xopenGroup, (nI no), (nI ng), (nI ni), (nI nb), (nI nr), xregionSize, xcounter, xmemory, xstmtOp, xstmtA, xstmtB, xstmtOwner, xoutRegion, xoutLoaded, xoutGroup, xoutAlign, xoutVma, xoutLma, xoutDot, xgroupStart, xgroupEnd, xgroupResident, xinKind, xinId, xinAlign, xinSize, xinFirstByte, xinStmt, xinLive, xinVma, xfedBytes, xrelocOwner, xrelocOffset, xrelocType, xrelocTarget, xrelocAddend) 7 v2 v3 := by
  obtain ⟨c1, c2, c3, c4, c5, c6, c7, c8, c9⟩ := id hS
  rcases Bool.eq_false_or_eq_true (lk_is xstmtOp ns) with his | his
  · have hno := lk_is_p ns his
    rw [← c4] at hno
    rw [his, if_pos rfl] at c6
    subst c6
    have o1 : ¬ nI (no - 1) = -1 := lk_nn1 (by omega)
    have o2 : ¬ nI (no - 1) < 0 := nI_pos (by omega)
    rcases Bool.eq_false_or_eq_true (lk_ig xstmtOp ns) with hig | hig
    · have hng := lk_ig_p ns hig
      rw [← c5] at hng
      rw [hig, if_pos rfl] at c7 c8
      subst c7
      subst c8
      have g1 : ¬ nI (ng - 1) = -1 := lk_nn1 (by omega)
      rcases Classical.em (lk_Ai v2) with a1 | a1
      · obtain ⟨x, hx, ex⟩ := lk_Ai_A a1
        have hx2 := lk_A_b hx
        by_cases hn : ns < 32
        · have n1 : nI ns < 32 := nI_lt (b := 32) hn (by omega)
          have n2 : vp_in (nI ns) 32 := vp_in_nI hn (by omega)
          repeat (first | refine br_t (by assumption) ?_ | refine br_f (by assumption) ?_ | refine br_t (by decide) ?_ | refine br_f (by decide) ?_ | refine nm_e ?_ | refine And.intro (by assumption) ?_ | refine And.intro rfl ?_ | refine lx_isA (by assumption) ?_ | refine lx_nA (by assumption) ?_ | refine ly_isA (by assumption) ?_ | refine ly_nA (by assumption) ?_)
          rw [nI_clamp (show ns < 2 ^ 31 by omega), nI_1 ns]
          refine K (lk_S_st (x := 7) hS hn (by decide) (by decide) rfl rfl rfl ?_)
          unfold lk_sc
          simp only [lk_is_u ns (Nat.le_refl ns), lk_ig_u ns (Nat.le_refl ns), lk_no_u ns (Nat.le_refl ns), lk_ng_u ns (Nat.le_refl ns), pk_us, ← c4, ← c5]
          exact Or.inr (Or.inr (Or.inl ⟨Or.inr (Or.inr (by trivial)), ⟨x, by omega, ex, fun _ => hx⟩, Or.inl ⟨his, (by trivial), (by trivial)⟩⟩))
        · have n1 : ¬ nI ns < 32 := nI_nlt (b := 32) (by omega) (by omega)
          repeat (first | refine br_t (by assumption) ?_ | refine br_f (by assumption) ?_ | refine br_t (by decide) ?_ | refine br_f (by decide) ?_ | refine nm_e ?_ | refine And.intro (by assumption) ?_ | refine And.intro rfl ?_ | refine lx_isA (by assumption) ?_ | refine lx_nA (by assumption) ?_ | refine ly_isA (by assumption) ?_ | refine ly_nA (by assumption) ?_)
          exact J
      · repeat (first | refine br_t (by assumption) ?_ | refine br_f (by assumption) ?_ | refine br_t (by decide) ?_ | refine br_f (by decide) ?_ | refine nm_e ?_ | refine And.intro (by assumption) ?_ | refine And.intro rfl ?_ | refine lx_isA (by assumption) ?_ | refine lx_nA (by assumption) ?_ | refine ly_isA (by assumption) ?_ | refine ly_nA (by assumption) ?_)
        exact J
    · rw [hig, if_neg (by decide)] at c7 c8
      subst c7
      subst c8
      rcases Classical.em (lk_Ai v2) with a1 | a1
      · obtain ⟨x, hx, ex⟩ := lk_Ai_A a1
        have hx2 := lk_A_b hx
        by_cases hn : ns < 32
        · have n1 : nI ns < 32 := nI_lt (b := 32) hn (by omega)
          have n2 : vp_in (nI ns) 32 := vp_in_nI hn (by omega)
          repeat (first | refine br_t (by assumption) ?_ | refine br_f (by assumption) ?_ | refine br_t (by decide) ?_ | refine br_f (by decide) ?_ | refine nm_e ?_ | refine And.intro (by assumption) ?_ | refine And.intro rfl ?_ | refine lx_isA (by assumption) ?_ | refine lx_nA (by assumption) ?_ | refine ly_isA (by assumption) ?_ | refine ly_nA (by assumption) ?_)
          rw [nI_clamp (show ns < 2 ^ 31 by omega), nI_1 ns]
          refine K (lk_S_st (x := 7) hS hn (by decide) (by decide) rfl rfl rfl ?_)
          unfold lk_sc
          simp only [lk_is_u ns (Nat.le_refl ns), lk_ig_u ns (Nat.le_refl ns), lk_no_u ns (Nat.le_refl ns), lk_ng_u ns (Nat.le_refl ns), pk_us, ← c4, ← c5]
          exact Or.inr (Or.inr (Or.inl ⟨Or.inr (Or.inr (by trivial)), ⟨x, by omega, ex, fun _ => hx⟩, Or.inl ⟨his, (by trivial), (by trivial)⟩⟩))
        · have n1 : ¬ nI ns < 32 := nI_nlt (b := 32) (by omega) (by omega)
          repeat (first | refine br_t (by assumption) ?_ | refine br_f (by assumption) ?_ | refine br_t (by decide) ?_ | refine br_f (by decide) ?_ | refine nm_e ?_ | refine And.intro (by assumption) ?_ | refine And.intro rfl ?_ | refine lx_isA (by assumption) ?_ | refine lx_nA (by assumption) ?_ | refine ly_isA (by assumption) ?_ | refine ly_nA (by assumption) ?_)
          exact J
      · repeat (first | refine br_t (by assumption) ?_ | refine br_f (by assumption) ?_ | refine br_t (by decide) ?_ | refine br_f (by decide) ?_ | refine nm_e ?_ | refine And.intro (by assumption) ?_ | refine And.intro rfl ?_ | refine lx_isA (by assumption) ?_ | refine lx_nA (by assumption) ?_ | refine ly_isA (by assumption) ?_ | refine ly_nA (by assumption) ?_)
        exact J
  · rw [his, if_neg (by decide)] at c6
    subst c6
    rcases Bool.eq_false_or_eq_true (lk_ig xstmtOp ns) with hig | hig
    · have hng := lk_ig_p ns hig
      rw [← c5] at hng
      rw [hig, if_pos rfl] at c7 c8
      subst c7
      subst c8
      have g1 : ¬ nI (ng - 1) = -1 := lk_nn1 (by omega)
      repeat (first | refine br_t (by assumption) ?_ | refine br_f (by assumption) ?_ | refine br_t (by decide) ?_ | refine br_f (by decide) ?_ | refine nm_e ?_ | refine And.intro (by assumption) ?_ | refine And.intro rfl ?_ | refine lx_isA (by assumption) ?_ | refine lx_nA (by assumption) ?_ | refine ly_isA (by assumption) ?_ | refine ly_nA (by assumption) ?_)
      exact J
    · rw [hig, if_neg (by decide)] at c7 c8
      subst c7
      subst c8
      rcases Classical.em (lk_Ai v2) with a1 | a1
      · obtain ⟨x, hx, ex⟩ := lk_Ai_A a1
        have hx2 := lk_A_b hx
        rcases lk_01 v3 with b0 | b0 | ⟨b1, b2, b3⟩ | ⟨b1, b2, b3, b4, b5⟩
        · have b1 : ¬ v3 < 0 := by rw [b0]; decide
          have b2 : v3 ≤ 1 := by rw [b0]; decide
          by_cases hn : ns < 32
          · have n1 : nI ns < 32 := nI_lt (b := 32) hn (by omega)
            have n2 : vp_in (nI ns) 32 := vp_in_nI hn (by omega)
            repeat (first | refine br_t (by assumption) ?_ | refine br_f (by assumption) ?_ | refine br_t (by decide) ?_ | refine br_f (by decide) ?_ | refine nm_e ?_ | refine And.intro (by assumption) ?_ | refine And.intro rfl ?_ | refine lx_isA (by assumption) ?_ | refine lx_nA (by assumption) ?_ | refine ly_isA (by assumption) ?_ | refine ly_nA (by assumption) ?_)
            rw [nI_clamp (show ns < 2 ^ 31 by omega), nI_1 ns]
            refine K (lk_S_st (x := 7) hS hn (by decide) (by decide) rfl rfl rfl ?_)
            unfold lk_sc
            simp only [lk_is_u ns (Nat.le_refl ns), lk_ig_u ns (Nat.le_refl ns), lk_no_u ns (Nat.le_refl ns), lk_ng_u ns (Nat.le_refl ns), pk_us, ← c4, ← c5]
            exact Or.inr (Or.inr (Or.inl ⟨Or.inr (Or.inr (by trivial)), ⟨x, by omega, ex, fun _ => hx⟩, Or.inr ⟨his, hig, (by trivial), (by trivial), Or.inl b0⟩⟩))
          · have n1 : ¬ nI ns < 32 := nI_nlt (b := 32) (by omega) (by omega)
            repeat (first | refine br_t (by assumption) ?_ | refine br_f (by assumption) ?_ | refine br_t (by decide) ?_ | refine br_f (by decide) ?_ | refine nm_e ?_ | refine And.intro (by assumption) ?_ | refine And.intro rfl ?_ | refine lx_isA (by assumption) ?_ | refine lx_nA (by assumption) ?_ | refine ly_isA (by assumption) ?_ | refine ly_nA (by assumption) ?_)
            exact J
        · have b1 : ¬ v3 < 0 := by rw [b0]; decide
          have b2 : v3 ≤ 1 := by rw [b0]; decide
          have b3 : ¬ v3 = 0 := by rw [b0]; decide
          by_cases hn : ns < 32
          · have n1 : nI ns < 32 := nI_lt (b := 32) hn (by omega)
            have n2 : vp_in (nI ns) 32 := vp_in_nI hn (by omega)
            repeat (first | refine br_t (by assumption) ?_ | refine br_f (by assumption) ?_ | refine br_t (by decide) ?_ | refine br_f (by decide) ?_ | refine nm_e ?_ | refine And.intro (by assumption) ?_ | refine And.intro rfl ?_ | refine lx_isA (by assumption) ?_ | refine lx_nA (by assumption) ?_ | refine ly_isA (by assumption) ?_ | refine ly_nA (by assumption) ?_)
            rw [nI_clamp (show ns < 2 ^ 31 by omega), nI_1 ns]
            refine K (lk_S_st (x := 7) hS hn (by decide) (by decide) rfl rfl rfl ?_)
            unfold lk_sc
            simp only [lk_is_u ns (Nat.le_refl ns), lk_ig_u ns (Nat.le_refl ns), lk_no_u ns (Nat.le_refl ns), lk_ng_u ns (Nat.le_refl ns), pk_us, ← c4, ← c5]
            exact Or.inr (Or.inr (Or.inl ⟨Or.inr (Or.inr (by trivial)), ⟨x, by omega, ex, fun _ => hx⟩, Or.inr ⟨his, hig, (by trivial), (by trivial), Or.inr b0⟩⟩))
          · have n1 : ¬ nI ns < 32 := nI_nlt (b := 32) (by omega) (by omega)
            repeat (first | refine br_t (by assumption) ?_ | refine br_f (by assumption) ?_ | refine br_t (by decide) ?_ | refine br_f (by decide) ?_ | refine nm_e ?_ | refine And.intro (by assumption) ?_ | refine And.intro rfl ?_ | refine lx_isA (by assumption) ?_ | refine lx_nA (by assumption) ?_ | refine ly_isA (by assumption) ?_ | refine ly_nA (by assumption) ?_)
            exact J
        · repeat (first | refine br_t (by assumption) ?_ | refine br_f (by assumption) ?_ | refine br_t (by decide) ?_ | refine br_f (by decide) ?_ | refine nm_e ?_ | refine And.intro (by assumption) ?_ | refine And.intro rfl ?_ | refine lx_isA (by assumption) ?_ | refine lx_nA (by assumption) ?_ | refine ly_isA (by assumption) ?_ | refine ly_nA (by assumption) ?_)
          exact J
        · repeat (first | refine br_t (by assumption) ?_ | refine br_f (by assumption) ?_ | refine br_t (by decide) ?_ | refine br_f (by decide) ?_ | refine nm_e ?_ | refine And.intro (by assumption) ?_ | refine And.intro rfl ?_ | refine lx_isA (by assumption) ?_ | refine lx_nA (by assumption) ?_ | refine ly_isA (by assumption) ?_ | refine ly_nA (by assumption) ?_)
          exact J
      · repeat (first | refine br_t (by assumption) ?_ | refine br_f (by assumption) ?_ | refine br_t (by decide) ?_ | refine br_f (by decide) ?_ | refine nm_e ?_ | refine And.intro (by assumption) ?_ | refine And.intro rfl ?_ | refine lx_isA (by assumption) ?_ | refine lx_nA (by assumption) ?_ | refine ly_isA (by assumption) ?_ | refine ly_nA (by assumption) ?_)
        exact J
theorem lk_scr8 {k : Nat} {ns no ng ni nb nr R0 R1 : Nat} {xphase xopenOut xopenGroup yinGroup yfinalC0 yfinalC1 : Int32} {xregionSize xcounter xmemory xstmtOp xstmtA xstmtB xstmtOwner xoutRegion xoutLoaded xoutGroup xoutAlign xoutVma xoutLma xoutDot xgroupStart xgroupEnd xgroupResident xinKind xinId xinAlign xinSize xinFirstByte xinStmt xinLive xinVma xfedBytes xrelocOwner xrelocOffset xrelocType xrelocTarget xrelocAddend ystOut youtSize youtRes ygStart ygEnd yinBss yinLen yinVma yinLma yrom yram : Nat → Int32} {v2 v3 : Int32} (J : i_Rel (k + 5) (xphase, (nI ns), xopenOut, xopenGroup, (nI no), (nI ng), (nI ni), (nI nb), (nI nr), xregionSize, xcounter, xmemory, xstmtOp, xstmtA, xstmtB, xstmtOwner, xoutRegion, xoutLoaded, xoutGroup, xoutAlign, xoutVma, xoutLma, xoutDot, xgroupStart, xgroupEnd, xgroupResident, xinKind, xinId, xinAlign, xinSize, xinFirstByte, xinStmt, xinLive, xinVma, xfedBytes, xrelocOwner, xrelocOffset, xrelocType, xrelocTarget, xrelocAddend) ((nI R0), (nI R1), xphase, (nI ns), (nI no), (nI ng), (nI ni), (nI nb), (nI nr), xopenOut, yinGroup, (nI ni - 1), yfinalC0, yfinalC1, xstmtOp, xstmtA, xstmtB, ystOut, xoutRegion, xoutLoaded, xoutGroup, xoutVma, xoutLma, youtSize, xoutAlign, youtRes, ygStart, ygEnd, xinKind, xinId, xinAlign, yinBss, xinFirstByte, yinLen, xinStmt, xinLive, yinVma, yinLma, xfedBytes, xrelocOwner, xrelocOffset, xrelocType, xrelocTarget, xrelocAddend, yrom, yram)) (hS : lk_S ns no ng xstmtOp xstmtA xstmtB xstmtOwner ystOut xoutRegion xoutLoaded xoutGroup xopenOut xopenGroup yinGroup) (K : ∀ {ns no ng : Nat} {xopenOut xopenGroup yinGroup : Int32} {xstmtOp xstmtA xstmtB xstmtOwner xoutRegion xoutLoaded xoutGroup ystOut : Nat → Int32}, lk_S ns no ng xstmtOp xstmtA xstmtB xstmtOwner ystOut xoutRegion xoutLoaded xoutGroup xopenOut xopenGroup yinGroup → i_Rel (k + 5) (xphase, (nI ns), xopenOut, xopenGroup, (nI no), (nI ng), (nI ni), (nI nb), (nI nr), xregionSize, xcounter, xmemory, xstmtOp, xstmtA, xstmtB, xstmtOwner, xoutRegion, xoutLoaded, xoutGroup, xoutAlign, xoutVma, xoutLma, xoutDot, xgroupStart, xgroupEnd, xgroupResident, xinKind, xinId, xinAlign, xinSize, xinFirstByte, xinStmt, xinLive, xinVma, xfedBytes, xrelocOwner, xrelocOffset, xrelocType, xrelocTarget, xrelocAddend) ((nI R0), (nI R1), xphase, (nI ns), (nI no), (nI ng), (nI ni), (nI nb), (nI nr), xopenOut, yinGroup, (nI ni - 1), yfinalC0, yfinalC1, xstmtOp, xstmtA, xstmtB, ystOut, xoutRegion, xoutLoaded, xoutGroup, xoutVma, xoutLma, youtSize, xoutAlign, youtRes, ygStart, ygEnd, xinKind, xinId, xinAlign, yinBss, xinFirstByte, yinLen, xinStmt, xinLive, yinVma, yinLma, xfedBytes, xrelocOwner, xrelocOffset, xrelocType, xrelocTarget, xrelocAddend, yrom, yram)) (hp : xphase = 0) : wpX_script (fun r u' => wpY_script (fun r' v' => r' = r ∧ i_Rel (k + 5) u' v') ((nI R0), (nI R1), xphase, (nI ns), (nI no), (nI ng), (nI ni), (nI nb), (nI nr), xopenOut, yinGroup, (nI ni - 1), yfinalC0, yfinalC1, xstmtOp, xstmtA, xstmtB, ystOut, xoutRegion, xoutLoaded, xoutGroup, xoutVma, xoutLma, youtSize, xoutAlign, youtRes, ygStart, ygEnd, xinKind, xinId, xinAlign, yinBss, xinFirstByte, yinLen, xinStmt, xinLive, yinVma, yinLma, xfedBytes, xrelocOwner, xrelocOffset, xrelocType, xrelocTarget, xrelocAddend, yrom, yram) 8 v2 v3) (xphase, (nI ns), xopenOut, xopenGroup, (nI no), (nI ng), (nI ni), (nI nb), (nI nr), xregionSize, xcounter, xmemory, xstmtOp, xstmtA, xstmtB, xstmtOwner, xoutRegion, xoutLoaded, xoutGroup, xoutAlign, xoutVma, xoutLma, xoutDot, xgroupStart, xgroupEnd, xgroupResident, xinKind, xinId, xinAlign, xinSize, xinFirstByte, xinStmt, xinLive, xinVma, xfedBytes, xrelocOwner, xrelocOffset, xrelocType, xrelocTarget, xrelocAddend) 8 v2 v3 := by
  obtain ⟨c1, c2, c3, c4, c5, c6, c7, c8, c9⟩ := id hS
  rcases Bool.eq_false_or_eq_true (lk_is xstmtOp ns) with his | his
  · have hno := lk_is_p ns his
    rw [← c4] at hno
    rw [his, if_pos rfl] at c6
    subst c6
    have o1 : ¬ nI (no - 1) = -1 := lk_nn1 (by omega)
    have o2 : ¬ nI (no - 1) < 0 := nI_pos (by omega)
    rcases Bool.eq_false_or_eq_true (lk_ig xstmtOp ns) with hig | hig
    · have hng := lk_ig_p ns hig
      rw [← c5] at hng
      rw [hig, if_pos rfl] at c7 c8
      subst c7
      subst c8
      have g1 : ¬ nI (ng - 1) = -1 := lk_nn1 (by omega)
      repeat (first | refine br_t (by assumption) ?_ | refine br_f (by assumption) ?_ | refine br_t (by decide) ?_ | refine br_f (by decide) ?_ | refine nm_e ?_ | refine And.intro (by assumption) ?_ | refine And.intro rfl ?_ | refine lx_isA (by assumption) ?_ | refine lx_nA (by assumption) ?_ | refine ly_isA (by assumption) ?_ | refine ly_nA (by assumption) ?_)
      exact J
    · rw [hig, if_neg (by decide)] at c7 c8
      subst c7
      subst c8
      repeat (first | refine br_t (by assumption) ?_ | refine br_f (by assumption) ?_ | refine br_t (by decide) ?_ | refine br_f (by decide) ?_ | refine nm_e ?_ | refine And.intro (by assumption) ?_ | refine And.intro rfl ?_ | refine lx_isA (by assumption) ?_ | refine lx_nA (by assumption) ?_ | refine ly_isA (by assumption) ?_ | refine ly_nA (by assumption) ?_)
      exact J
  · rw [his, if_neg (by decide)] at c6
    subst c6
    rcases Bool.eq_false_or_eq_true (lk_ig xstmtOp ns) with hig | hig
    · have hng := lk_ig_p ns hig
      rw [← c5] at hng
      rw [hig, if_pos rfl] at c7 c8
      subst c7
      subst c8
      have g1 : ¬ nI (ng - 1) = -1 := lk_nn1 (by omega)
      repeat (first | refine br_t (by assumption) ?_ | refine br_f (by assumption) ?_ | refine br_t (by decide) ?_ | refine br_f (by decide) ?_ | refine nm_e ?_ | refine And.intro (by assumption) ?_ | refine And.intro rfl ?_ | refine lx_isA (by assumption) ?_ | refine lx_nA (by assumption) ?_ | refine ly_isA (by assumption) ?_ | refine ly_nA (by assumption) ?_)
      exact J
    · rw [hig, if_neg (by decide)] at c7 c8
      subst c7
      subst c8
      by_cases hn : ns < 32
      · have n1 : nI ns < 32 := nI_lt (b := 32) hn (by omega)
        have n2 : vp_in (nI ns) 32 := vp_in_nI hn (by omega)
        by_cases hg : ng < 4
        · have n3 : nI ng < 4 := nI_lt (b := 4) hg (by omega)
          have n4 : ¬ 4 ≤ nI ng := nI_ge (b := 4) hg (by omega)
          repeat (first | refine br_t (by assumption) ?_ | refine br_f (by assumption) ?_ | refine br_t (by decide) ?_ | refine br_f (by decide) ?_ | refine nm_e ?_ | refine And.intro (by assumption) ?_ | refine And.intro rfl ?_ | refine lx_isA (by assumption) ?_ | refine lx_nA (by assumption) ?_ | refine ly_isA (by assumption) ?_ | refine ly_nA (by assumption) ?_)
          rw [nI_clamp (show ns < 2 ^ 31 by omega), nI_1 ns, nI_1 ng]
          exact K (lk_S_ovl hS hn hg his hig)
        · have n3 : ¬ nI ng < 4 := nI_nlt (b := 4) (by omega) (by omega)
          have n4 : 4 ≤ nI ng := nI_le (a := 4) (by omega) (by omega)
          repeat (first | refine br_t (by assumption) ?_ | refine br_f (by assumption) ?_ | refine br_t (by decide) ?_ | refine br_f (by decide) ?_ | refine nm_e ?_ | refine And.intro (by assumption) ?_ | refine And.intro rfl ?_ | refine lx_isA (by assumption) ?_ | refine lx_nA (by assumption) ?_ | refine ly_isA (by assumption) ?_ | refine ly_nA (by assumption) ?_)
          exact J
      · have n1 : ¬ nI ns < 32 := nI_nlt (b := 32) (by omega) (by omega)
        repeat (first | refine br_t (by assumption) ?_ | refine br_f (by assumption) ?_ | refine br_t (by decide) ?_ | refine br_f (by decide) ?_ | refine nm_e ?_ | refine And.intro (by assumption) ?_ | refine And.intro rfl ?_ | refine lx_isA (by assumption) ?_ | refine lx_nA (by assumption) ?_ | refine ly_isA (by assumption) ?_ | refine ly_nA (by assumption) ?_)
        exact J
theorem lk_scr9 {k : Nat} {ns no ng ni nb nr R0 R1 : Nat} {xphase xopenOut xopenGroup yinGroup yfinalC0 yfinalC1 : Int32} {xregionSize xcounter xmemory xstmtOp xstmtA xstmtB xstmtOwner xoutRegion xoutLoaded xoutGroup xoutAlign xoutVma xoutLma xoutDot xgroupStart xgroupEnd xgroupResident xinKind xinId xinAlign xinSize xinFirstByte xinStmt xinLive xinVma xfedBytes xrelocOwner xrelocOffset xrelocType xrelocTarget xrelocAddend ystOut youtSize youtRes ygStart ygEnd yinBss yinLen yinVma yinLma yrom yram : Nat → Int32} {v2 v3 : Int32} (J : i_Rel (k + 5) (xphase, (nI ns), xopenOut, xopenGroup, (nI no), (nI ng), (nI ni), (nI nb), (nI nr), xregionSize, xcounter, xmemory, xstmtOp, xstmtA, xstmtB, xstmtOwner, xoutRegion, xoutLoaded, xoutGroup, xoutAlign, xoutVma, xoutLma, xoutDot, xgroupStart, xgroupEnd, xgroupResident, xinKind, xinId, xinAlign, xinSize, xinFirstByte, xinStmt, xinLive, xinVma, xfedBytes, xrelocOwner, xrelocOffset, xrelocType, xrelocTarget, xrelocAddend) ((nI R0), (nI R1), xphase, (nI ns), (nI no), (nI ng), (nI ni), (nI nb), (nI nr), xopenOut, yinGroup, (nI ni - 1), yfinalC0, yfinalC1, xstmtOp, xstmtA, xstmtB, ystOut, xoutRegion, xoutLoaded, xoutGroup, xoutVma, xoutLma, youtSize, xoutAlign, youtRes, ygStart, ygEnd, xinKind, xinId, xinAlign, yinBss, xinFirstByte, yinLen, xinStmt, xinLive, yinVma, yinLma, xfedBytes, xrelocOwner, xrelocOffset, xrelocType, xrelocTarget, xrelocAddend, yrom, yram)) (hS : lk_S ns no ng xstmtOp xstmtA xstmtB xstmtOwner ystOut xoutRegion xoutLoaded xoutGroup xopenOut xopenGroup yinGroup) (K : ∀ {ns no ng : Nat} {xopenOut xopenGroup yinGroup : Int32} {xstmtOp xstmtA xstmtB xstmtOwner xoutRegion xoutLoaded xoutGroup ystOut : Nat → Int32}, lk_S ns no ng xstmtOp xstmtA xstmtB xstmtOwner ystOut xoutRegion xoutLoaded xoutGroup xopenOut xopenGroup yinGroup → i_Rel (k + 5) (xphase, (nI ns), xopenOut, xopenGroup, (nI no), (nI ng), (nI ni), (nI nb), (nI nr), xregionSize, xcounter, xmemory, xstmtOp, xstmtA, xstmtB, xstmtOwner, xoutRegion, xoutLoaded, xoutGroup, xoutAlign, xoutVma, xoutLma, xoutDot, xgroupStart, xgroupEnd, xgroupResident, xinKind, xinId, xinAlign, xinSize, xinFirstByte, xinStmt, xinLive, xinVma, xfedBytes, xrelocOwner, xrelocOffset, xrelocType, xrelocTarget, xrelocAddend) ((nI R0), (nI R1), xphase, (nI ns), (nI no), (nI ng), (nI ni), (nI nb), (nI nr), xopenOut, yinGroup, (nI ni - 1), yfinalC0, yfinalC1, xstmtOp, xstmtA, xstmtB, ystOut, xoutRegion, xoutLoaded, xoutGroup, xoutVma, xoutLma, youtSize, xoutAlign, youtRes, ygStart, ygEnd, xinKind, xinId, xinAlign, yinBss, xinFirstByte, yinLen, xinStmt, xinLive, yinVma, yinLma, xfedBytes, xrelocOwner, xrelocOffset, xrelocType, xrelocTarget, xrelocAddend, yrom, yram)) (hp : xphase = 0) : wpX_script (fun r u' => wpY_script (fun r' v' => r' = r ∧ i_Rel (k + 5) u' v') ((nI R0), (nI R1), xphase, (nI ns), (nI no), (nI ng), (nI ni), (nI nb), (nI nr), xopenOut, yinGroup, (nI ni - 1), yfinalC0, yfinalC1, xstmtOp, xstmtA, xstmtB, ystOut, xoutRegion, xoutLoaded, xoutGroup, xoutVma, xoutLma, youtSize, xoutAlign, youtRes, ygStart, ygEnd, xinKind, xinId, xinAlign, yinBss, xinFirstByte, yinLen, xinStmt, xinLive, yinVma, yinLma, xfedBytes, xrelocOwner, xrelocOffset, xrelocType, xrelocTarget, xrelocAddend, yrom, yram) 9 v2 v3) (xphase, (nI ns), xopenOut, xopenGroup, (nI no), (nI ng), (nI ni), (nI nb), (nI nr), xregionSize, xcounter, xmemory, xstmtOp, xstmtA, xstmtB, xstmtOwner, xoutRegion, xoutLoaded, xoutGroup, xoutAlign, xoutVma, xoutLma, xoutDot, xgroupStart, xgroupEnd, xgroupResident, xinKind, xinId, xinAlign, xinSize, xinFirstByte, xinStmt, xinLive, xinVma, xfedBytes, xrelocOwner, xrelocOffset, xrelocType, xrelocTarget, xrelocAddend) 9 v2 v3 := by
  obtain ⟨c1, c2, c3, c4, c5, c6, c7, c8, c9⟩ := id hS
  rcases Bool.eq_false_or_eq_true (lk_is xstmtOp ns) with his | his
  · have hno := lk_is_p ns his
    rw [← c4] at hno
    rw [his, if_pos rfl] at c6
    subst c6
    have o1 : ¬ nI (no - 1) = -1 := lk_nn1 (by omega)
    have o2 : ¬ nI (no - 1) < 0 := nI_pos (by omega)
    rcases Bool.eq_false_or_eq_true (lk_ig xstmtOp ns) with hig | hig
    · have hng := lk_ig_p ns hig
      rw [← c5] at hng
      rw [hig, if_pos rfl] at c7 c8
      subst c7
      subst c8
      have g1 : ¬ nI (ng - 1) = -1 := lk_nn1 (by omega)
      repeat (first | refine br_t (by assumption) ?_ | refine br_f (by assumption) ?_ | refine br_t (by decide) ?_ | refine br_f (by decide) ?_ | refine nm_e ?_ | refine And.intro (by assumption) ?_ | refine And.intro rfl ?_ | refine lx_isA (by assumption) ?_ | refine lx_nA (by assumption) ?_ | refine ly_isA (by assumption) ?_ | refine ly_nA (by assumption) ?_)
      exact J
    · rw [hig, if_neg (by decide)] at c7 c8
      subst c7
      subst c8
      repeat (first | refine br_t (by assumption) ?_ | refine br_f (by assumption) ?_ | refine br_t (by decide) ?_ | refine br_f (by decide) ?_ | refine nm_e ?_ | refine And.intro (by assumption) ?_ | refine And.intro rfl ?_ | refine lx_isA (by assumption) ?_ | refine lx_nA (by assumption) ?_ | refine ly_isA (by assumption) ?_ | refine ly_nA (by assumption) ?_)
      exact J
  · rw [his, if_neg (by decide)] at c6
    subst c6
    rcases Bool.eq_false_or_eq_true (lk_ig xstmtOp ns) with hig | hig
    · have hng := lk_ig_p ns hig
      rw [← c5] at hng
      rw [hig, if_pos rfl] at c7 c8
      subst c7
      subst c8
      have g1 : ¬ nI (ng - 1) = -1 := lk_nn1 (by omega)
      by_cases hn : ns < 32
      · have n1 : nI ns < 32 := nI_lt (b := 32) hn (by omega)
        have n2 : vp_in (nI ns) 32 := vp_in_nI hn (by omega)
        repeat (first | refine br_t (by assumption) ?_ | refine br_f (by assumption) ?_ | refine br_t (by decide) ?_ | refine br_f (by decide) ?_ | refine nm_e ?_ | refine And.intro (by assumption) ?_ | refine And.intro rfl ?_ | refine lx_isA (by assumption) ?_ | refine lx_nA (by assumption) ?_ | refine ly_isA (by assumption) ?_ | refine ly_nA (by assumption) ?_)
        rw [nI_clamp (show ns < 2 ^ 31 by omega), nI_1 ns]
        refine K (lk_S_st (x := 9) hS hn (by decide) (by decide) rfl rfl rfl ?_)
        unfold lk_sc
        simp only [lk_is_u ns (Nat.le_refl ns), lk_ig_u ns (Nat.le_refl ns), lk_no_u ns (Nat.le_refl ns), lk_ng_u ns (Nat.le_refl ns), pk_us, ← c4, ← c5]
        exact Or.inr (Or.inr (Or.inr (Or.inr ⟨(by trivial), his, hig, (by trivial)⟩)))
      · have n1 : ¬ nI ns < 32 := nI_nlt (b := 32) (by omega) (by omega)
        repeat (first | refine br_t (by assumption) ?_ | refine br_f (by assumption) ?_ | refine br_t (by decide) ?_ | refine br_f (by decide) ?_ | refine nm_e ?_ | refine And.intro (by assumption) ?_ | refine And.intro rfl ?_ | refine lx_isA (by assumption) ?_ | refine lx_nA (by assumption) ?_ | refine ly_isA (by assumption) ?_ | refine ly_nA (by assumption) ?_)
        exact J
    · rw [hig, if_neg (by decide)] at c7 c8
      subst c7
      subst c8
      repeat (first | refine br_t (by assumption) ?_ | refine br_f (by assumption) ?_ | refine br_t (by decide) ?_ | refine br_f (by decide) ?_ | refine nm_e ?_ | refine And.intro (by assumption) ?_ | refine And.intro rfl ?_ | refine lx_isA (by assumption) ?_ | refine lx_nA (by assumption) ?_ | refine ly_isA (by assumption) ?_ | refine ly_nA (by assumption) ?_)
      exact J
theorem lk_19 {x : Int32} (h1 : ¬ x < 1) (h9 : x ≤ 9) : x = 1 ∨ x = 2 ∨ x = 3 ∨ x = 4 ∨ x = 5 ∨ x = 6 ∨ x = 7 ∨ x = 8 ∨ x = 9 := by
  have h0 : ¬ x < 0 := fun h => h1 (Int32.lt_trans h (by decide))
  obtain ⟨j, hj, e⟩ := nI_of2 (M := 9) (n := 9) (by decide) h0 h9
  have hj0 : j ≠ 0 := by
    intro z
    rw [e, z] at h1
    exact h1 (by decide)
  have hc : j = 1 ∨ j = 2 ∨ j = 3 ∨ j = 4 ∨ j = 5 ∨ j = 6 ∨ j = 7 ∨ j = 8 ∨ j = 9 := by omega
  rcases hc with z | z | z | z | z | z | z | z | z <;> subst z
  · exact Or.inl e
  · exact Or.inr (Or.inl e)
  · exact Or.inr (Or.inr (Or.inl e))
  · exact Or.inr (Or.inr (Or.inr (Or.inl e)))
  · exact Or.inr (Or.inr (Or.inr (Or.inr (Or.inl e))))
  · exact Or.inr (Or.inr (Or.inr (Or.inr (Or.inr (Or.inl e)))))
  · exact Or.inr (Or.inr (Or.inr (Or.inr (Or.inr (Or.inr (Or.inl e))))))
  · exact Or.inr (Or.inr (Or.inr (Or.inr (Or.inr (Or.inr (Or.inr (Or.inl e)))))))
  · exact Or.inr (Or.inr (Or.inr (Or.inr (Or.inr (Or.inr (Or.inr (Or.inr e)))))))
theorem i_vc_script {k : Nat} {u : SX} {v : SY} (I : i_Rel k u v) (hk : k + 5 ≤ 2562) (v1 : Int32) (v2 : Int32) (v3 : Int32) : wpX_script (fun r u' => wpY_script (fun r' v' => r' = r ∧ i_Rel (k + 5) u' v') v v1 v2 v3) u v1 v2 v3 := by
  have J := i_up I
  obtain ⟨ns, no, ng, ni, nb, nr, R0, R1, xphase, xopenOut, xopenGroup, yinGroup, yfinalC0, yfinalC1, xregionSize, xcounter, xmemory, xstmtOp, xstmtA, xstmtB, xstmtOwner, xoutRegion, xoutLoaded, xoutGroup, xoutAlign, xoutVma, xoutLma, xoutDot, xgroupStart, xgroupEnd, xgroupResident, xinKind, xinId, xinAlign, xinSize, xinFirstByte, xinStmt, xinLive, xinVma, xfedBytes, xrelocOwner, xrelocOffset, xrelocType, xrelocTarget, xrelocAddend, ystOut, youtSize, youtRes, ygStart, ygEnd, yinBss, yinLen, yinVma, yinLma, yrom, yram, rfl, rfl, hS, hN, hQ, hZ, hM, hP⟩ := I
  rcases Decidable.em (xphase = 0) with hp | hp
  · have hP0 : ∀ j, j < 128 → yrom j = 255 := by
      rcases hP with ⟨_, h⟩ | ⟨h, _⟩
      · exact h
      · rw [hp] at h; exact absurd h (by decide)
    by_cases b1 : v1 < 1
    · repeat (first | refine br_t (by assumption) ?_ | refine br_f (by assumption) ?_ | refine br_t (by decide) ?_ | refine br_f (by decide) ?_ | refine nm_e ?_ | refine And.intro (by assumption) ?_ | refine And.intro rfl ?_ | refine lx_isA (by assumption) ?_ | refine lx_nA (by assumption) ?_ | refine ly_isA (by assumption) ?_ | refine ly_nA (by assumption) ?_)
      exact J
    by_cases b2 : v1 ≤ 9
    · have K : ∀ {ns no ng : Nat} {xopenOut xopenGroup yinGroup : Int32} {xstmtOp xstmtA xstmtB xstmtOwner xoutRegion xoutLoaded xoutGroup ystOut : Nat → Int32}, lk_S ns no ng xstmtOp xstmtA xstmtB xstmtOwner ystOut xoutRegion xoutLoaded xoutGroup xopenOut xopenGroup yinGroup → i_Rel (k + 5) (xphase, (nI ns), xopenOut, xopenGroup, (nI no), (nI ng), (nI ni), (nI nb), (nI nr), xregionSize, xcounter, xmemory, xstmtOp, xstmtA, xstmtB, xstmtOwner, xoutRegion, xoutLoaded, xoutGroup, xoutAlign, xoutVma, xoutLma, xoutDot, xgroupStart, xgroupEnd, xgroupResident, xinKind, xinId, xinAlign, xinSize, xinFirstByte, xinStmt, xinLive, xinVma, xfedBytes, xrelocOwner, xrelocOffset, xrelocType, xrelocTarget, xrelocAddend) ((nI R0), (nI R1), xphase, (nI ns), (nI no), (nI ng), (nI ni), (nI nb), (nI nr), xopenOut, yinGroup, (nI ni - 1), yfinalC0, yfinalC1, xstmtOp, xstmtA, xstmtB, ystOut, xoutRegion, xoutLoaded, xoutGroup, xoutVma, xoutLma, youtSize, xoutAlign, youtRes, ygStart, ygEnd, xinKind, xinId, xinAlign, yinBss, xinFirstByte, yinLen, xinStmt, xinLive, yinVma, yinLma, xfedBytes, xrelocOwner, xrelocOffset, xrelocType, xrelocTarget, xrelocAddend, yrom, yram) := by
        intro ns no ng xopenOut xopenGroup yinGroup xstmtOp xstmtA xstmtB xstmtOwner xoutRegion xoutLoaded xoutGroup ystOut hS
        exact ⟨ns, no, ng, ni, nb, nr, R0, R1, xphase, xopenOut, xopenGroup, yinGroup, yfinalC0, yfinalC1, xregionSize, xcounter, xmemory, xstmtOp, xstmtA, xstmtB, xstmtOwner, xoutRegion, xoutLoaded, xoutGroup, xoutAlign, xoutVma, xoutLma, xoutDot, xgroupStart, xgroupEnd, xgroupResident, xinKind, xinId, xinAlign, xinSize, xinFirstByte, xinStmt, xinLive, xinVma, xfedBytes, xrelocOwner, xrelocOffset, xrelocType, xrelocTarget, xrelocAddend, ystOut, youtSize, youtRes, ygStart, ygEnd, yinBss, yinLen, yinVma, yinLma, yrom, yram, rfl, rfl, hS, hN, hQ, hZ, hM, Or.inl ⟨hp, hP0⟩⟩
      rcases lk_19 b1 b2 with rfl | rfl | rfl | rfl | rfl | rfl | rfl | rfl | rfl
      · exact lk_scr1 J hS K hp
      · exact lk_scr2 J hS K hp
      · exact lk_scr3 J hS K hp
      · exact lk_scr4 J hS K hp
      · exact lk_scr5 J hS K hp
      · exact lk_scr6 J hS K hp
      · exact lk_scr7 J hS K hp
      · exact lk_scr8 J hS K hp
      · exact lk_scr9 J hS K hp
    · repeat (first | refine br_t (by assumption) ?_ | refine br_f (by assumption) ?_ | refine br_t (by decide) ?_ | refine br_f (by decide) ?_ | refine nm_e ?_ | refine And.intro (by assumption) ?_ | refine And.intro rfl ?_ | refine lx_isA (by assumption) ?_ | refine lx_nA (by assumption) ?_ | refine ly_isA (by assumption) ?_ | refine ly_nA (by assumption) ?_)
      exact J
  · repeat (first | refine br_t (by assumption) ?_ | refine br_f (by assumption) ?_ | refine br_t (by decide) ?_ | refine br_f (by decide) ?_ | refine nm_e ?_ | refine And.intro (by assumption) ?_ | refine And.intro rfl ?_ | refine lx_isA (by assumption) ?_ | refine lx_nA (by assumption) ?_ | refine ly_isA (by assumption) ?_ | refine ly_nA (by assumption) ?_)
    exact J
end
