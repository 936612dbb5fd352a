section
theorem lk_scr1 {P : St2 → Prop} {ns no ng ni nb nr : Nat} {xphase xopenOut xopenGroup : Int32} {xregionSize xcounter xmemory xstmtOp xstmtA xstmtB xstmtOwner xoutRegion xoutLoaded xoutGroup xoutAlign xoutVma xoutLma xoutDot xgroupStart xgroupEnd xgroupResident xinKind xinId xinAlign xinSize xinFirstByte xinStmt xinLive xinVma xfedBytes xrelocOwner xrelocOffset xrelocType xrelocTarget xrelocAddend : Nat → Int32} {ystOut : Nat → Int32} {yinGroup : Int32} {v2 v3 : Int32} (J : P (xphase, (nI ns), xopenOut, xopenGroup, (nI no), (nI ng), (nI ni), (nI nb), (nI nr), xregionSize, xcounter, xmemory, xstmtOp, xstmtA, xstmtB, xstmtOwner, xoutRegion, xoutLoaded, xoutGroup, xoutAlign, xoutVma, xoutLma, xoutDot, xgroupStart, xgroupEnd, xgroupResident, xinKind, xinId, xinAlign, xinSize, xinFirstByte, xinStmt, xinLive, xinVma, xfedBytes, xrelocOwner, xrelocOffset, xrelocType, xrelocTarget, xrelocAddend)) (hS : lk_S ns no ng xstmtOp xstmtA xstmtB xstmtOwner ystOut xoutRegion xoutLoaded xoutGroup xopenOut xopenGroup yinGroup) (K : ∀ {ns no ng : Nat} {xopenOut xopenGroup yinGroup : Int32} {xstmtOp xstmtA xstmtB xstmtOwner xoutRegion xoutLoaded xoutGroup ystOut : Nat → Int32}, lk_S ns no ng xstmtOp xstmtA xstmtB xstmtOwner ystOut xoutRegion xoutLoaded xoutGroup xopenOut xopenGroup yinGroup → P (xphase, (nI ns), xopenOut, xopenGroup, (nI no), (nI ng), (nI ni), (nI nb), (nI nr), xregionSize, xcounter, xmemory, xstmtOp, xstmtA, xstmtB, xstmtOwner, xoutRegion, xoutLoaded, xoutGroup, xoutAlign, xoutVma, xoutLma, xoutDot, xgroupStart, xgroupEnd, xgroupResident, xinKind, xinId, xinAlign, xinSize, xinFirstByte, xinStmt, xinLive, xinVma, xfedBytes, xrelocOwner, xrelocOffset, xrelocType, xrelocTarget, xrelocAddend)) (hp : xphase = 0) : wpX_script (fun _ u => P u) (xphase, (nI ns), xopenOut, xopenGroup, (nI no), (nI ng), (nI ni), (nI nb), (nI nr), xregionSize, xcounter, xmemory, xstmtOp, xstmtA, xstmtB, xstmtOwner, xoutRegion, xoutLoaded, xoutGroup, xoutAlign, xoutVma, xoutLma, xoutDot, xgroupStart, xgroupEnd, xgroupResident, xinKind, xinId, xinAlign, xinSize, xinFirstByte, xinStmt, xinLive, xinVma, xfedBytes, xrelocOwner, xrelocOffset, xrelocType, xrelocTarget, xrelocAddend) 1 v2 v3 := by
  obtain ⟨c1, c2, c3, c4, c5, c6, c7, c8, c9⟩ := id hS
  rcases Bool.eq_false_or_eq_true (lk_is xstmtOp ns) with his | his
  · have hno := lk_is_p ns his
    rw [← c4] at hno
    rw [his, if_pos rfl] at c6
    subst c6
    have o1 : ¬ nI (no - 1) = -1 := lk_nn1 (by omega)
    have o2 : ¬ nI (no - 1) < 0 := nI_pos (by omega)
    rcases Bool.eq_false_or_eq_true (lk_ig xstmtOp ns) with hig | hig
    · have hng := lk_ig_p ns hig
      rw [← c5] at hng
      rw [hig, if_pos rfl] at c7 c8
      subst c7
      subst c8
      have g1 : ¬ nI (ng - 1) = -1 := lk_nn1 (by omega)
      repeat (first | refine br_t (by assumption) ?_ | refine br_f (by assumption) ?_ | refine br_t (by decide) ?_ | refine br_f (by decide) ?_ | refine nm_e ?_ | refine And.intro (by assumption) ?_ | refine And.intro rfl ?_ | refine lx_isA (by assumption) ?_ | refine lx_nA (by assumption) ?_)
      exact J
    · rw [hig, if_neg (by decide)] at c7 c8
      subst c7
      subst c8
      repeat (first | refine br_t (by assumption) ?_ | refine br_f (by assumption) ?_ | refine br_t (by decide) ?_ | refine br_f (by decide) ?_ | refine nm_e ?_ | refine And.intro (by assumption) ?_ | refine And.intro rfl ?_ | refine lx_isA (by assumption) ?_ | refine lx_nA (by assumption) ?_)
      exact J
  · rw [his, if_neg (by decide)] at c6
    subst c6
    rcases Bool.eq_false_or_eq_true (lk_ig xstmtOp ns) with hig | hig
    · have hng := lk_ig_p ns hig
      rw [← c5] at hng
      rw [hig, if_pos rfl] at c7 c8
      subst c7
      subst c8
      have g1 : ¬ nI (ng - 1) = -1 := lk_nn1 (by omega)
      rcases lk_01 v2 with rfl | rfl | ⟨a1, a2, a3⟩ | ⟨a1, a2, a3, a4, a5⟩
      · rcases lk_01 v3 with rfl | rfl | ⟨b1, b2, b3⟩ | ⟨b1, b2, b3, b4, b5⟩
        · repeat (first | refine br_t (by assumption) ?_ | refine br_f (by assumption) ?_ | refine br_t (by decide) ?_ | refine br_f (by decide) ?_ | refine nm_e ?_ | refine And.intro (by assumption) ?_ | refine And.intro rfl ?_ | refine lx_isA (by assumption) ?_ | refine lx_nA (by assumption) ?_)
          exact J
        · repeat (first | refine br_t (by assumption) ?_ | refine br_f (by assumption) ?_ | refine br_t (by decide) ?_ | refine br_f (by decide) ?_ | refine nm_e ?_ | refine And.intro (by assumption) ?_ | refine And.intro rfl ?_ | refine lx_isA (by assumption) ?_ | refine lx_nA (by assumption) ?_)
          exact J
        · repeat (first | refine br_t (by assumption) ?_ | refine br_f (by assumption) ?_ | refine br_t (by decide) ?_ | refine br_f (by decide) ?_ | refine nm_e ?_ | refine And.intro (by assumption) ?_ | refine And.intro rfl ?_ | refine lx_isA (by assumption) ?_ | refine lx_nA (by assumption) ?_)
          exact J
        · repeat (first | refine br_t (by assumption) ?_ | refine br_f (by assumption) ?_ | refine br_t (by decide) ?_ | refine br_f (by decide) ?_ | refine nm_e ?_ | refine And.intro (by assumption) ?_ | refine And.intro rfl ?_ | refine lx_isA (by assumption) ?_ | refine lx_nA (by assumption) ?_)
          exact J
      · rcases lk_01 v3 with rfl | rfl | ⟨b1, b2, b3⟩ | ⟨b1, b2, b3, b4, b5⟩
        · by_cases hn : ns < 32
          · have n1 : nI ns < 32 := nI_lt (b := 32) hn (by omega)
            have n2 : vp_in (nI ns) 32 := vp_in_nI hn (by omega)
            by_cases ho : no < 8
            · have n3 : nI no < 8 := nI_lt (b := 8) ho (by omega)
              have n4 : ¬ 8 ≤ nI no := nI_ge (b := 8) ho (by omega)
              have n5 : vp_in (nI no) 8 := vp_in_nI ho (by omega)
              repeat (first | refine br_t (by assumption) ?_ | refine br_f (by assumption) ?_ | refine br_t (by decide) ?_ | refine br_f (by decide) ?_ | refine nm_e ?_ | refine And.intro (by assumption) ?_ | refine And.intro rfl ?_ | refine lx_isA (by assumption) ?_ | refine lx_nA (by assumption) ?_)
              have eg : nI ng - 1 = nI (ng - 1) := pk_sub (b := 1) hng
              rw [nI_clamp (show ns < 2 ^ 31 by omega), nI_1 ns, nI_clamp (show no < 2 ^ 31 by omega), nI_1 no]
              exact K (lk_S_sec hS hn ho his (Or.inr ⟨rfl, Or.inl rfl⟩))
            · have n3 : ¬ nI no < 8 := nI_nlt (b := 8) (by omega) (by omega)
              have n4 : 8 ≤ nI no := nI_le (a := 8) (by omega) (by omega)
              repeat (first | refine br_t (by assumption) ?_ | refine br_f (by assumption) ?_ | refine br_t (by decide) ?_ | refine br_f (by decide) ?_ | refine nm_e ?_ | refine And.intro (by assumption) ?_ | refine And.intro rfl ?_ | refine lx_isA (by assumption) ?_ | refine lx_nA (by assumption) ?_)
              exact J
          · have n1 : ¬ nI ns < 32 := nI_nlt (b := 32) (by omega) (by omega)
            repeat (first | refine br_t (by assumption) ?_ | refine br_f (by assumption) ?_ | refine br_t (by decide) ?_ | refine br_f (by decide) ?_ | refine nm_e ?_ | refine And.intro (by assumption) ?_ | refine And.intro rfl ?_ | refine lx_isA (by assumption) ?_ | refine lx_nA (by assumption) ?_)
            exact J
        · by_cases hn : ns < 32
          · have n1 : nI ns < 32 := nI_lt (b := 32) hn (by omega)
            have n2 : vp_in (nI ns) 32 := vp_in_nI hn (by omega)
            by_cases ho : no < 8
            · have n3 : nI no < 8 := nI_lt (b := 8) ho (by omega)
              have n4 : ¬ 8 ≤ nI no := nI_ge (b := 8) ho (by omega)
              have n5 : vp_in (nI no) 8 := vp_in_nI ho (by omega)
              repeat (first | refine br_t (by assumption) ?_ | refine br_f (by assumption) ?_ | refine br_t (by decide) ?_ | refine br_f (by decide) ?_ | refine nm_e ?_ | refine And.intro (by assumption) ?_ | refine And.intro rfl ?_ | refine lx_isA (by assumption) ?_ | refine lx_nA (by assumption) ?_)
              have eg : nI ng - 1 = nI (ng - 1) := pk_sub (b := 1) hng
              rw [nI_clamp (show ns < 2 ^ 31 by omega), nI_1 ns, nI_clamp (show no < 2 ^ 31 by omega), nI_1 no]
              exact K (lk_S_sec hS hn ho his (Or.inr ⟨rfl, Or.inr rfl⟩))
            · have n3 : ¬ nI no < 8 := nI_nlt (b := 8) (by omega) (by omega)
              have n4 : 8 ≤ nI no := nI_le (a := 8) (by omega) (by omega)
              repeat (first | refine br_t (by assumption) ?_ | refine br_f (by assumption) ?_ | refine br_t (by decide) ?_ | refine br_f (by decide) ?_ | refine nm_e ?_ | refine And.intro (by assumption) ?_ | refine And.intro rfl ?_ | refine lx_isA (by assumption) ?_ | refine lx_nA (by assumption) ?_)
              exact J
          · have n1 : ¬ nI ns < 32 := nI_nlt (b := 32) (by omega) (by omega)
            repeat (first | refine br_t (by assumption) ?_ | refine br_f (by assumption) ?_ | refine br_t (by decide) ?_ | refine br_f (by decide) ?_ | refine nm_e ?_ | refine And.intro (by assumption) ?_ | refine And.intro rfl ?_ | refine lx_isA (by assumption) ?_ | refine lx_nA (by assumption) ?_)
            exact J
        · repeat (first | refine br_t (by assumption) ?_ | refine br_f (by assumption) ?_ | refine br_t (by decide) ?_ | refine br_f (by decide) ?_ | refine nm_e ?_ | refine And.intro (by assumption) ?_ | refine And.intro rfl ?_ | refine lx_isA (by assumption) ?_ | refine lx_nA (by assumption) ?_)
          exact J
        · repeat (first | refine br_t (by assumption) ?_ | refine br_f (by assumption) ?_ | refine br_t (by decide) ?_ | refine br_f (by decide) ?_ | refine nm_e ?_ | refine And.intro (by assumption) ?_ | refine And.intro rfl ?_ | refine lx_isA (by assumption) ?_ | refine lx_nA (by assumption) ?_)
          exact J
      · repeat (first | refine br_t (by assumption) ?_ | refine br_f (by assumption) ?_ | refine br_t (by decide) ?_ | refine br_f (by decide) ?_ | refine nm_e ?_ | refine And.intro (by assumption) ?_ | refine And.intro rfl ?_ | refine lx_isA (by assumption) ?_ | refine lx_nA (by assumption) ?_)
        exact J
      · repeat (first | refine br_t (by assumption) ?_ | refine br_f (by assumption) ?_ | refine br_t (by decide) ?_ | refine br_f (by decide) ?_ | refine nm_e ?_ | refine And.intro (by assumption) ?_ | refine And.intro rfl ?_ | refine lx_isA (by assumption) ?_ | refine lx_nA (by assumption) ?_)
        exact J
    · rw [hig, if_neg (by decide)] at c7 c8
      subst c7
      subst c8
      rcases lk_01 v2 with rfl | rfl | ⟨a1, a2, a3⟩ | ⟨a1, a2, a3, a4, a5⟩
      · rcases lk_01 v3 with rfl | rfl | ⟨b1, b2, b3⟩ | ⟨b1, b2, b3, b4, b5⟩
        · repeat (first | refine br_t (by assumption) ?_ | refine br_f (by assumption) ?_ | refine br_t (by decide) ?_ | refine br_f (by decide) ?_ | refine nm_e ?_ | refine And.intro (by assumption) ?_ | refine And.intro rfl ?_ | refine lx_isA (by assumption) ?_ | refine lx_nA (by assumption) ?_)
          exact J
        · by_cases hn : ns < 32
          · have n1 : nI ns < 32 := nI_lt (b := 32) hn (by omega)
            have n2 : vp_in (nI ns) 32 := vp_in_nI hn (by omega)
            by_cases ho : no < 8
            · have n3 : nI no < 8 := nI_lt (b := 8) ho (by omega)
              have n4 : ¬ 8 ≤ nI no := nI_ge (b := 8) ho (by omega)
              have n5 : vp_in (nI no) 8 := vp_in_nI ho (by omega)
              repeat (first | refine br_t (by assumption) ?_ | refine br_f (by assumption) ?_ | refine br_t (by decide) ?_ | refine br_f (by decide) ?_ | refine nm_e ?_ | refine And.intro (by assumption) ?_ | refine And.intro rfl ?_ | refine lx_isA (by assumption) ?_ | refine lx_nA (by assumption) ?_)
              rw [nI_clamp (show ns < 2 ^ 31 by omega), nI_1 ns, nI_clamp (show no < 2 ^ 31 by omega), nI_1 no]
              exact K (lk_S_sec hS hn ho his (Or.inl ⟨rfl, rfl, hig⟩))
            · have n3 : ¬ nI no < 8 := nI_nlt (b := 8) (by omega) (by omega)
              have n4 : 8 ≤ nI no := nI_le (a := 8) (by omega) (by omega)
              repeat (first | refine br_t (by assumption) ?_ | refine br_f (by assumption) ?_ | refine br_t (by decide) ?_ | refine br_f (by decide) ?_ | refine nm_e ?_ | refine And.intro (by assumption) ?_ | refine And.intro rfl ?_ | refine lx_isA (by assumption) ?_ | refine lx_nA (by assumption) ?_)
              exact J
          · have n1 : ¬ nI ns < 32 := nI_nlt (b := 32) (by omega) (by omega)
            repeat (first | refine br_t (by assumption) ?_ | refine br_f (by assumption) ?_ | refine br_t (by decide) ?_ | refine br_f (by decide) ?_ | refine nm_e ?_ | refine And.intro (by assumption) ?_ | refine And.intro rfl ?_ | refine lx_isA (by assumption) ?_ | refine lx_nA (by assumption) ?_)
            exact J
        · repeat (first | refine br_t (by assumption) ?_ | refine br_f (by assumption) ?_ | refine br_t (by decide) ?_ | refine br_f (by decide) ?_ | refine nm_e ?_ | refine And.intro (by assumption) ?_ | refine And.intro rfl ?_ | refine lx_isA (by assumption) ?_ | refine lx_nA (by assumption) ?_)
          exact J
        · repeat (first | refine br_t (by assumption) ?_ | refine br_f (by assumption) ?_ | refine br_t (by decide) ?_ | refine br_f (by decide) ?_ | refine nm_e ?_ | refine And.intro (by assumption) ?_ | refine And.intro rfl ?_ | refine lx_isA (by assumption) ?_ | refine lx_nA (by assumption) ?_)
          exact J
      · rcases lk_01 v3 with rfl | rfl | ⟨b1, b2, b3⟩ | ⟨b1, b2, b3, b4, b5⟩
        · by_cases hn : ns < 32
          · have n1 : nI ns < 32 := nI_lt (b := 32) hn (by omega)
            have n2 : vp_in (nI ns) 32 := vp_in_nI hn (by omega)
            by_cases ho : no < 8
            · have n3 : nI no < 8 := nI_lt (b := 8) ho (by omega)
              have n4 : ¬ 8 ≤ nI no := nI_ge (b := 8) ho (by omega)
              have n5 : vp_in (nI no) 8 := vp_in_nI ho (by omega)
              repeat (first | refine br_t (by assumption) ?_ | refine br_f (by assumption) ?_ | refine br_t (by decide) ?_ | refine br_f (by decide) ?_ | refine nm_e ?_ | refine And.intro (by assumption) ?_ | refine And.intro rfl ?_ | refine lx_isA (by assumption) ?_ | refine lx_nA (by assumption) ?_)
              rw [nI_clamp (show ns < 2 ^ 31 by omega), nI_1 ns, nI_clamp (show no < 2 ^ 31 by omega), nI_1 no]
              exact K (lk_S_sec hS hn ho his (Or.inr ⟨rfl, Or.inl rfl⟩))
            · have n3 : ¬ nI no < 8 := nI_nlt (b := 8) (by omega) (by omega)
              have n4 : 8 ≤ nI no := nI_le (a := 8) (by omega) (by omega)
              repeat (first | refine br_t (by assumption) ?_ | refine br_f (by assumption) ?_ | refine br_t (by decide) ?_ | refine br_f (by decide) ?_ | refine nm_e ?_ | refine And.intro (by assumption) ?_ | refine And.intro rfl ?_ | refine lx_isA (by assumption) ?_ | refine lx_nA (by assumption) ?_)
              exact J
          · have n1 : ¬ nI ns < 32 := nI_nlt (b := 32) (by omega) (by omega)
            repeat (first | refine br_t (by assumption) ?_ | refine br_f (by assumption) ?_ | refine br_t (by decide) ?_ | refine br_f (by decide) ?_ | refine nm_e ?_ | refine And.intro (by assumption) ?_ | refine And.intro rfl ?_ | refine lx_isA (by assumption) ?_ | refine lx_nA (by assumption) ?_)
            exact J
        · by_cases hn : ns < 32
          · have n1 : nI ns < 32 := nI_lt (b := 32) hn (by omega)
            have n2 : vp_in (nI ns) 32 := vp_in_nI hn (by omega)
            by_cases ho : no < 8
            · have n3 : nI no < 8 := nI_lt (b := 8) ho (by omega)
              have n4 : ¬ 8 ≤ nI no := nI_ge (b := 8) ho (by omega)
              have n5 : vp_in (nI no) 8 := vp_in_nI ho (by omega)
              repeat (first | refine br_t (by assumption) ?_ | refine br_f (by assumption) ?_ | refine br_t (by decide) ?_ | refine br_f (by decide) ?_ | refine nm_e ?_ | refine And.intro (by assumption) ?_ | refine And.intro rfl ?_ | refine lx_isA (by assumption) ?_ | refine lx_nA (by assumption) ?_)
              rw [nI_clamp (show ns < 2 ^ 31 by omega), nI_1 ns, nI_clamp (show no < 2 ^ 31 by omega), nI_1 no]
              exact K (lk_S_sec hS hn ho his (Or.inr ⟨rfl, Or.inr rfl⟩))
            · have n3 : ¬ nI no < 8 := nI_nlt (b := 8) (by omega) (by omega)
              have n4 : 8 ≤ nI no := nI_le (a := 8) (by omega) (by omega)
              repeat (first | refine br_t (by assumption) ?_ | refine br_f (by assumption) ?_ | refine br_t (by decide) ?_ | refine br_f (by decide) ?_ | refine nm_e ?_ | refine And.intro (by assumption) ?_ | refine And.intro rfl ?_ | refine lx_isA (by assumption) ?_ | refine lx_nA (by assumption) ?_)
              exact J
          · have n1 : ¬ nI ns < 32 := nI_nlt (b := 32) (by omega) (by omega)
            repeat (first | refine br_t (by assumption) ?_ | refine br_f (by assumption) ?_ | refine br_t (by decide) ?_ | refine br_f (by decide) ?_ | refine nm_e ?_ | refine And.intro (by assumption) ?_ | refine And.intro rfl ?_ | refine lx_isA (by assumption) ?_ | refine lx_nA (by assumption) ?_)
            exact J
        · repeat (first | refine br_t (by assumption) ?_ | refine br_f (by assumption) ?_ | refine br_t (by decide) ?_ | refine br_f (by decide) ?_ | refine nm_e ?_ | refine And.intro (by assumption) ?_ | refine And.intro rfl ?_ | refine lx_isA (by assumption) ?_ | refine lx_nA (by assumption) ?_)
          exact J
        · repeat (first | refine br_t (by assumption) ?_ | refine br_f (by assumption) ?_ | refine br_t (by decide) ?_ | refine br_f (by decide) ?_ | refine nm_e ?_ | refine And.intro (by assumption) ?_ | refine And.intro rfl ?_ | refine lx_isA (by assumption) ?_ | refine lx_nA (by assumption) ?_)
          exact J
      · repeat (first | refine br_t (by assumption) ?_ | refine br_f (by assumption) ?_ | refine br_t (by decide) ?_ | refine br_f (by decide) ?_ | refine nm_e ?_ | refine And.intro (by assumption) ?_ | refine And.intro rfl ?_ | refine lx_isA (by assumption) ?_ | refine lx_nA (by assumption) ?_)
        exact J
      · repeat (first | refine br_t (by assumption) ?_ | refine br_f (by assumption) ?_ | refine br_t (by decide) ?_ | refine br_f (by decide) ?_ | refine nm_e ?_ | refine And.intro (by assumption) ?_ | refine And.intro rfl ?_ | refine lx_isA (by assumption) ?_ | refine lx_nA (by assumption) ?_)
        exact J
end
