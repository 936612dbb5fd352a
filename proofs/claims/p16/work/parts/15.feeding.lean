section
/-! feeding over any P -/
theorem lk_fbyte {P : St2 → Prop} {ns no ng ni nb nr : Nat} {xphase xopenOut xopenGroup : Int32} {xregionSize xcounter xmemory xstmtOp xstmtA xstmtB xstmtOwner xoutRegion xoutLoaded xoutGroup xoutAlign xoutVma xoutLma xoutDot xgroupStart xgroupEnd xgroupResident xinKind xinId xinAlign xinSize xinFirstByte xinStmt xinLive xinVma xfedBytes xrelocOwner xrelocOffset xrelocType xrelocTarget xrelocAddend : Nat → Int32} {yinBss yinLen : Nat → Int32} {v1 : Int32} (J : P (xphase, (nI ns), xopenOut, xopenGroup, (nI no), (nI ng), (nI ni), (nI nb), (nI nr), xregionSize, xcounter, xmemory, xstmtOp, xstmtA, xstmtB, xstmtOwner, xoutRegion, xoutLoaded, xoutGroup, xoutAlign, xoutVma, xoutLma, xoutDot, xgroupStart, xgroupEnd, xgroupResident, xinKind, xinId, xinAlign, xinSize, xinFirstByte, xinStmt, xinLive, xinVma, xfedBytes, xrelocOwner, xrelocOffset, xrelocType, xrelocTarget, xrelocAddend)) (hN : lk_N ni nb xinKind xinAlign xinSize xinFirstByte yinBss yinLen) (hQ : lk_Q nr ni xinKind yinLen xrelocOwner xrelocOffset xrelocTarget) (K : ∀ {nb : Nat} {xinSize xfedBytes yinLen : Nat → Int32}, lk_N ni nb xinKind xinAlign xinSize xinFirstByte yinBss yinLen → lk_Q nr ni xinKind yinLen xrelocOwner xrelocOffset xrelocTarget → P (xphase, (nI ns), xopenOut, xopenGroup, (nI no), (nI ng), (nI ni), (nI nb), (nI nr), xregionSize, xcounter, xmemory, xstmtOp, xstmtA, xstmtB, xstmtOwner, xoutRegion, xoutLoaded, xoutGroup, xoutAlign, xoutVma, xoutLma, xoutDot, xgroupStart, xgroupEnd, xgroupResident, xinKind, xinId, xinAlign, xinSize, xinFirstByte, xinStmt, xinLive, xinVma, xfedBytes, xrelocOwner, xrelocOffset, xrelocType, xrelocTarget, xrelocAddend)) (hp : xphase = 0) : wpX_addByte (fun _ u => P u) (xphase, (nI ns), xopenOut, xopenGroup, (nI no), (nI ng), (nI ni), (nI nb), (nI nr), xregionSize, xcounter, xmemory, xstmtOp, xstmtA, xstmtB, xstmtOwner, xoutRegion, xoutLoaded, xoutGroup, xoutAlign, xoutVma, xoutLma, xoutDot, xgroupStart, xgroupEnd, xgroupResident, xinKind, xinId, xinAlign, xinSize, xinFirstByte, xinStmt, xinLive, xinVma, xfedBytes, xrelocOwner, xrelocOffset, xrelocType, xrelocTarget, xrelocAddend) v1 := by
  rcases Nat.eq_zero_or_pos ni with h0 | h0
  · subst h0
    have a1 : nI 0 ≤ 0 := by decide
    repeat (first | refine br_t (by assumption) ?_ | refine br_f (by assumption) ?_ | refine br_t (by decide) ?_ | refine br_f (by decide) ?_ | refine nm_e ?_ | refine And.intro (by assumption) ?_ | refine And.intro rfl ?_ | refine lx_isA (by assumption) ?_ | refine lx_nA (by assumption) ?_)
    exact J
  · obtain ⟨m, rfl⟩ : ∃ m, ni = m + 1 := ⟨ni - 1, by omega⟩
    have n16 := hN.1
    have e : (nI (m + 1) - 1).toNatClampNeg = m := by rw [nI_pred, nI_clamp (by omega)]
    have a1 : ¬ nI (m + 1) ≤ 0 := nI_nle (by omega) (by omega)
    have a3 : vp_in (nI (m + 1) - 1) 16 := by rw [nI_pred]; exact vp_in_nI (by omega) (by omega)
    by_cases hk3 : xinKind (nI (m + 1) - 1).toNatClampNeg = 3
    · repeat (first | refine br_t (by assumption) ?_ | refine br_f (by assumption) ?_ | refine br_t (by decide) ?_ | refine br_f (by decide) ?_ | refine nm_e ?_ | refine And.intro (by assumption) ?_ | refine And.intro rfl ?_ | refine lx_isA (by assumption) ?_ | refine lx_nA (by assumption) ?_)
      exact J
    · by_cases hb : nb < 256
      · have b1 : nI nb < 256 := nI_lt (b := 256) hb (by omega)
        have b2 : vp_in (nI nb) 256 := vp_in_nI hb (by omega)
        repeat (first | refine br_t (by assumption) ?_ | refine br_f (by assumption) ?_ | refine br_t (by decide) ?_ | refine br_f (by decide) ?_ | refine nm_e ?_ | refine And.intro (by assumption) ?_ | refine And.intro rfl ?_ | refine lx_isA (by assumption) ?_ | refine lx_nA (by assumption) ?_)
        rw [e, nI_clamp (show nb < 2 ^ 31 by omega), nI_1 nb]
        rw [e] at hk3
        refine K (lk_N_byte hN hb hk3) (lk_Q_byte hQ ?_)
        intro Z hz hz2
        obtain ⟨A, T, Z', Q', d1, d2, d3, d4, d5, d6, d7⟩ := hN.2.2 m (by omega)
        have : Z = Z' := (nI_eq (by omega) (by omega)).mp (hz.symm.trans d4)
        omega
      · have b1 : ¬ nI nb < 256 := nI_nlt (b := 256) (by omega) (by have := hN.2.1; omega)
        repeat (first | refine br_t (by assumption) ?_ | refine br_f (by assumption) ?_ | refine br_t (by decide) ?_ | refine br_f (by decide) ?_ | refine nm_e ?_ | refine And.intro (by assumption) ?_ | refine And.intro rfl ?_ | refine lx_isA (by assumption) ?_ | refine lx_nA (by assumption) ?_)
        exact J
theorem lk_freloc {P : St2 → Prop} {ns no ng ni nb nr : Nat} {xphase xopenOut xopenGroup : Int32} {xregionSize xcounter xmemory xstmtOp xstmtA xstmtB xstmtOwner xoutRegion xoutLoaded xoutGroup xoutAlign xoutVma xoutLma xoutDot xgroupStart xgroupEnd xgroupResident xinKind xinId xinAlign xinSize xinFirstByte xinStmt xinLive xinVma xfedBytes xrelocOwner xrelocOffset xrelocType xrelocTarget xrelocAddend : Nat → Int32} {yinBss yinLen : Nat → Int32} {v1 v2 v3 v4 : Int32} (J : P (xphase, (nI ns), xopenOut, xopenGroup, (nI no), (nI ng), (nI ni), (nI nb), (nI nr), xregionSize, xcounter, xmemory, xstmtOp, xstmtA, xstmtB, xstmtOwner, xoutRegion, xoutLoaded, xoutGroup, xoutAlign, xoutVma, xoutLma, xoutDot, xgroupStart, xgroupEnd, xgroupResident, xinKind, xinId, xinAlign, xinSize, xinFirstByte, xinStmt, xinLive, xinVma, xfedBytes, xrelocOwner, xrelocOffset, xrelocType, xrelocTarget, xrelocAddend)) (hN : lk_N ni nb xinKind xinAlign xinSize xinFirstByte yinBss yinLen) (hQ : lk_Q nr ni xinKind yinLen xrelocOwner xrelocOffset xrelocTarget) (K : ∀ {nr : Nat} {xrelocOwner xrelocOffset xrelocType xrelocTarget xrelocAddend : Nat → Int32}, lk_Q nr ni xinKind yinLen xrelocOwner xrelocOffset xrelocTarget → P (xphase, (nI ns), xopenOut, xopenGroup, (nI no), (nI ng), (nI ni), (nI nb), (nI nr), xregionSize, xcounter, xmemory, xstmtOp, xstmtA, xstmtB, xstmtOwner, xoutRegion, xoutLoaded, xoutGroup, xoutAlign, xoutVma, xoutLma, xoutDot, xgroupStart, xgroupEnd, xgroupResident, xinKind, xinId, xinAlign, xinSize, xinFirstByte, xinStmt, xinLive, xinVma, xfedBytes, xrelocOwner, xrelocOffset, xrelocType, xrelocTarget, xrelocAddend)) (hp : xphase = 0) : wpX_addReloc (fun _ u => P u) (xphase, (nI ns), xopenOut, xopenGroup, (nI no), (nI ng), (nI ni), (nI nb), (nI nr), xregionSize, xcounter, xmemory, xstmtOp, xstmtA, xstmtB, xstmtOwner, xoutRegion, xoutLoaded, xoutGroup, xoutAlign, xoutVma, xoutLma, xoutDot, xgroupStart, xgroupEnd, xgroupResident, xinKind, xinId, xinAlign, xinSize, xinFirstByte, xinStmt, xinLive, xinVma, xfedBytes, xrelocOwner, xrelocOffset, xrelocType, xrelocTarget, xrelocAddend) v1 v2 v3 v4 := by
  rcases Nat.eq_zero_or_pos ni with h0 | h0
  · subst h0
    have a1 : nI 0 ≤ 0 := by decide
    repeat (first | refine br_t (by assumption) ?_ | refine br_f (by assumption) ?_ | refine br_t (by decide) ?_ | refine br_f (by decide) ?_ | refine nm_e ?_ | refine And.intro (by assumption) ?_ | refine And.intro rfl ?_ | refine lx_isA (by assumption) ?_ | refine lx_nA (by assumption) ?_)
    exact J
  · obtain ⟨m, rfl⟩ : ∃ m, ni = m + 1 := ⟨ni - 1, by omega⟩
    have n16 := hN.1
    have r32 := hQ.1
    have e : (nI (m + 1) - 1).toNatClampNeg = m := by rw [nI_pred, nI_clamp (by omega)]
    have a1 : ¬ nI (m + 1) ≤ 0 := nI_nle (by omega) (by omega)
    have a3 : vp_in (nI (m + 1) - 1) 16 := by rw [nI_pred]; exact vp_in_nI (by omega) (by omega)
    by_cases hk3 : xinKind (nI (m + 1) - 1).toNatClampNeg = 3
    · repeat (first | refine br_t (by assumption) ?_ | refine br_f (by assumption) ?_ | refine br_t (by decide) ?_ | refine br_f (by decide) ?_ | refine nm_e ?_ | refine And.intro (by assumption) ?_ | refine And.intro rfl ?_ | refine lx_isA (by assumption) ?_ | refine lx_nA (by assumption) ?_)
      exact J
    obtain ⟨A, T, Z, Q', d1, d2, d3, d4, d5, d6, d7⟩ := hN.2.2 m (by omega)
    have hb := hN.2.1
    have hZQ : Q' = Z := by
      rw [e] at hk3
      rcases d7 with ⟨z, _⟩ | ⟨_, z⟩
      · exact absurd z hk3
      · exact z
    by_cases b1 : v2 < 1
    · repeat (first | refine br_t (by assumption) ?_ | refine br_f (by assumption) ?_ | refine br_t (by decide) ?_ | refine br_f (by decide) ?_ | refine nm_e ?_ | refine And.intro (by assumption) ?_ | refine And.intro rfl ?_ | refine lx_isA (by assumption) ?_ | refine lx_nA (by assumption) ?_)
      exact J
    by_cases b2 : 3 < v2
    · repeat (first | refine br_t (by assumption) ?_ | refine br_f (by assumption) ?_ | refine br_t (by decide) ?_ | refine br_f (by decide) ?_ | refine nm_e ?_ | refine And.intro (by assumption) ?_ | refine And.intro rfl ?_ | refine lx_isA (by assumption) ?_ | refine lx_nA (by assumption) ?_)
      exact J
    by_cases b3 : v1 < 0
    · repeat (first | refine br_t (by assumption) ?_ | refine br_f (by assumption) ?_ | refine br_t (by decide) ?_ | refine br_f (by decide) ?_ | refine nm_e ?_ | refine And.intro (by assumption) ?_ | refine And.intro rfl ?_ | refine lx_isA (by assumption) ?_ | refine lx_nA (by assumption) ?_)
      exact J
    by_cases b4 : v1 ≤ xinSize (nI (m + 1) - 1).toNatClampNeg - 2
    · by_cases b6 : v3 < 0
      · repeat (first | refine br_t (by assumption) ?_ | refine br_f (by assumption) ?_ | refine br_t (by decide) ?_ | refine br_f (by decide) ?_ | refine nm_e ?_ | refine And.intro (by assumption) ?_ | refine And.intro rfl ?_ | refine lx_isA (by assumption) ?_ | refine lx_nA (by assumption) ?_)
        exact J
      by_cases b7 : 15 < v3
      · repeat (first | refine br_t (by assumption) ?_ | refine br_f (by assumption) ?_ | refine br_t (by decide) ?_ | refine br_f (by decide) ?_ | refine nm_e ?_ | refine And.intro (by assumption) ?_ | refine And.intro rfl ?_ | refine lx_isA (by assumption) ?_ | refine lx_nA (by assumption) ?_)
        exact J
      by_cases b8 : v4 < -256
      · repeat (first | refine br_t (by assumption) ?_ | refine br_f (by assumption) ?_ | refine br_t (by decide) ?_ | refine br_f (by decide) ?_ | refine nm_e ?_ | refine And.intro (by assumption) ?_ | refine And.intro rfl ?_ | refine lx_isA (by assumption) ?_ | refine lx_nA (by assumption) ?_)
        exact J
      by_cases b9 : v4 ≤ 255
      · by_cases hr : nr < 32
        · have r1 : nI nr < 32 := nI_lt (b := 32) hr (by omega)
          have r2 : vp_in (nI nr) 32 := vp_in_nI hr (by omega)
          repeat (first | refine br_t (by assumption) ?_ | refine br_f (by assumption) ?_ | refine br_t (by decide) ?_ | refine br_f (by decide) ?_ | refine nm_e ?_ | refine And.intro (by assumption) ?_ | refine And.intro rfl ?_ | refine lx_isA (by assumption) ?_ | refine lx_nA (by assumption) ?_)
          rw [nI_clamp (show nr < 2 ^ 31 by omega), nI_1 nr]
          rw [e] at hk3
          rw [e, d6, hZQ] at b4
          obtain ⟨f, hf, ef⟩ := lk_le2 (by omega) rfl b3 b4
          obtain ⟨t, ht, et⟩ := nI_of2 (M := 15) (n := 15) (by decide) b6 (Int32.not_lt.mp b7)
          have hQ' : lk_Q (nr + 1) (m + 1) xinKind yinLen (upd xrelocOwner nr (nI (m + 1) - 1)) (upd xrelocOffset nr v1) (upd xrelocTarget nr v3) := by
            rw [nI_pred, ef, et]
            exact lk_Q_rel hQ hr (by omega) hk3 d4 (by omega) hf (by omega)
          exact K hQ'
        · have r1 : ¬ nI nr < 32 := nI_nlt (b := 32) (by omega) (by omega)
          repeat (first | refine br_t (by assumption) ?_ | refine br_f (by assumption) ?_ | refine br_t (by decide) ?_ | refine br_f (by decide) ?_ | refine nm_e ?_ | refine And.intro (by assumption) ?_ | refine And.intro rfl ?_ | refine lx_isA (by assumption) ?_ | refine lx_nA (by assumption) ?_)
          exact J
      · repeat (first | refine br_t (by assumption) ?_ | refine br_f (by assumption) ?_ | refine br_t (by decide) ?_ | refine br_f (by decide) ?_ | refine nm_e ?_ | refine And.intro (by assumption) ?_ | refine And.intro rfl ?_ | refine lx_isA (by assumption) ?_ | refine lx_nA (by assumption) ?_)
        exact J
    · repeat (first | refine br_t (by assumption) ?_ | refine br_f (by assumption) ?_ | refine br_t (by decide) ?_ | refine br_f (by decide) ?_ | refine nm_e ?_ | refine And.intro (by assumption) ?_ | refine And.intro rfl ?_ | refine lx_isA (by assumption) ?_ | refine lx_nA (by assumption) ?_)
      exact J
theorem lk_fbegin {P : St2 → Prop} {ns no ng ni nb nr : Nat} {xphase xopenOut xopenGroup : Int32} {xregionSize xcounter xmemory xstmtOp xstmtA xstmtB xstmtOwner xoutRegion xoutLoaded xoutGroup xoutAlign xoutVma xoutLma xoutDot xgroupStart xgroupEnd xgroupResident xinKind xinId xinAlign xinSize xinFirstByte xinStmt xinLive xinVma xfedBytes xrelocOwner xrelocOffset xrelocType xrelocTarget xrelocAddend : Nat → Int32} {yinBss yinLen : Nat → Int32} {v1 v2 v3 v4 : Int32} (J : P (xphase, (nI ns), xopenOut, xopenGroup, (nI no), (nI ng), (nI ni), (nI nb), (nI nr), xregionSize, xcounter, xmemory, xstmtOp, xstmtA, xstmtB, xstmtOwner, xoutRegion, xoutLoaded, xoutGroup, xoutAlign, xoutVma, xoutLma, xoutDot, xgroupStart, xgroupEnd, xgroupResident, xinKind, xinId, xinAlign, xinSize, xinFirstByte, xinStmt, xinLive, xinVma, xfedBytes, xrelocOwner, xrelocOffset, xrelocType, xrelocTarget, xrelocAddend)) (hN : lk_N ni nb xinKind xinAlign xinSize xinFirstByte yinBss yinLen) (hQ : lk_Q nr ni xinKind yinLen xrelocOwner xrelocOffset xrelocTarget) (K : ∀ {ni : Nat} {xinKind xinId xinAlign xinSize xinFirstByte yinBss yinLen : Nat → Int32}, lk_N ni nb xinKind xinAlign xinSize xinFirstByte yinBss yinLen → lk_Q nr ni xinKind yinLen xrelocOwner xrelocOffset xrelocTarget → P (xphase, (nI ns), xopenOut, xopenGroup, (nI no), (nI ng), (nI ni), (nI nb), (nI nr), xregionSize, xcounter, xmemory, xstmtOp, xstmtA, xstmtB, xstmtOwner, xoutRegion, xoutLoaded, xoutGroup, xoutAlign, xoutVma, xoutLma, xoutDot, xgroupStart, xgroupEnd, xgroupResident, xinKind, xinId, xinAlign, xinSize, xinFirstByte, xinStmt, xinLive, xinVma, xfedBytes, xrelocOwner, xrelocOffset, xrelocType, xrelocTarget, xrelocAddend)) (hp : xphase = 0) : wpX_beginSection (fun _ u => P u) (xphase, (nI ns), xopenOut, xopenGroup, (nI no), (nI ng), (nI ni), (nI nb), (nI nr), xregionSize, xcounter, xmemory, xstmtOp, xstmtA, xstmtB, xstmtOwner, xoutRegion, xoutLoaded, xoutGroup, xoutAlign, xoutVma, xoutLma, xoutDot, xgroupStart, xgroupEnd, xgroupResident, xinKind, xinId, xinAlign, xinSize, xinFirstByte, xinStmt, xinLive, xinVma, xfedBytes, xrelocOwner, xrelocOffset, xrelocType, xrelocTarget, xrelocAddend) v1 v2 v3 v4 := by
  have n16 := hN.1
  by_cases b1 : v1 < 1
  · repeat (first | refine br_t (by assumption) ?_ | refine br_f (by assumption) ?_ | refine br_t (by decide) ?_ | refine br_f (by decide) ?_ | refine nm_e ?_ | refine And.intro (by assumption) ?_ | refine And.intro rfl ?_ | refine lx_isA (by assumption) ?_ | refine lx_nA (by assumption) ?_)
    exact J
  by_cases b2 : 3 < v1
  · repeat (first | refine br_t (by assumption) ?_ | refine br_f (by assumption) ?_ | refine br_t (by decide) ?_ | refine br_f (by decide) ?_ | refine nm_e ?_ | refine And.intro (by assumption) ?_ | refine And.intro rfl ?_ | refine lx_isA (by assumption) ?_ | refine lx_nA (by assumption) ?_)
    exact J
  by_cases b3 : v2 < 0
  · repeat (first | refine br_t (by assumption) ?_ | refine br_f (by assumption) ?_ | refine br_t (by decide) ?_ | refine br_f (by decide) ?_ | refine nm_e ?_ | refine And.intro (by assumption) ?_ | refine And.intro rfl ?_ | refine lx_isA (by assumption) ?_ | refine lx_nA (by assumption) ?_)
    exact J
  by_cases b4 : 15 < v2
  · repeat (first | refine br_t (by assumption) ?_ | refine br_f (by assumption) ?_ | refine br_t (by decide) ?_ | refine br_f (by decide) ?_ | refine nm_e ?_ | refine And.intro (by assumption) ?_ | refine And.intro rfl ?_ | refine lx_isA (by assumption) ?_ | refine lx_nA (by assumption) ?_)
    exact J
  rcases Classical.em (lk_Ai v3) with b5 | b5
  · by_cases hn : ni < 16
    · have r1 : nI ni < 16 := nI_lt (b := 16) hn (by omega)
      have r2 : vp_in (nI ni) 16 := vp_in_nI hn (by omega)
      obtain ⟨A, hA, eA⟩ := lk_Ai_A b5
      by_cases b6 : v1 = 3
      · by_cases b7 : v4 < 0
        · repeat (first | refine br_t (by assumption) ?_ | refine br_f (by assumption) ?_ | refine br_t (by decide) ?_ | refine br_f (by decide) ?_ | refine nm_e ?_ | refine And.intro (by assumption) ?_ | refine And.intro rfl ?_ | refine lx_isA (by assumption) ?_ | refine lx_nA (by assumption) ?_)
          exact J
        by_cases b8 : v4 ≤ 128
        · repeat (first | refine br_t (by assumption) ?_ | refine br_f (by assumption) ?_ | refine br_t (by decide) ?_ | refine br_f (by decide) ?_ | refine nm_e ?_ | refine And.intro (by assumption) ?_ | refine And.intro rfl ?_ | refine lx_isA (by assumption) ?_ | refine lx_nA (by assumption) ?_)
          obtain ⟨Qn, hq, eq⟩ := nI_of2 (M := 128) (n := 128) (by decide) b7 b8
          rw [nI_clamp (show ni < 2 ^ 31 by omega), nI_1 ni]
          exact K (yinBss := upd yinBss ni v4) (yinLen := upd yinLen ni 0) (by rw [eA, eq]; exact lk_N_sec hN hn hA (Or.inl ⟨b6, hq⟩)) (lk_Q_sec hQ)
        · repeat (first | refine br_t (by assumption) ?_ | refine br_f (by assumption) ?_ | refine br_t (by decide) ?_ | refine br_f (by decide) ?_ | refine nm_e ?_ | refine And.intro (by assumption) ?_ | refine And.intro rfl ?_ | refine lx_isA (by assumption) ?_ | refine lx_nA (by assumption) ?_)
          exact J
      · repeat (first | refine br_t (by assumption) ?_ | refine br_f (by assumption) ?_ | refine br_t (by decide) ?_ | refine br_f (by decide) ?_ | refine nm_e ?_ | refine And.intro (by assumption) ?_ | refine And.intro rfl ?_ | refine lx_isA (by assumption) ?_ | refine lx_nA (by assumption) ?_)
        rw [nI_clamp (show ni < 2 ^ 31 by omega), nI_1 ni]
        exact K (yinBss := upd yinBss ni 0) (yinLen := upd yinLen ni 0) (by rw [eA]; exact lk_N_sec (Q := 0) hN hn hA (Or.inr ⟨b6, rfl⟩)) (lk_Q_sec hQ)
    · have r1 : ¬ nI ni < 16 := nI_nlt (b := 16) (by omega) (by omega)
      by_cases b6 : v1 = 3
      · by_cases b7 : v4 < 0
        · repeat (first | refine br_t (by assumption) ?_ | refine br_f (by assumption) ?_ | refine br_t (by decide) ?_ | refine br_f (by decide) ?_ | refine nm_e ?_ | refine And.intro (by assumption) ?_ | refine And.intro rfl ?_ | refine lx_isA (by assumption) ?_ | refine lx_nA (by assumption) ?_)
          exact J
        by_cases b8 : v4 ≤ 128
        · repeat (first | refine br_t (by assumption) ?_ | refine br_f (by assumption) ?_ | refine br_t (by decide) ?_ | refine br_f (by decide) ?_ | refine nm_e ?_ | refine And.intro (by assumption) ?_ | refine And.intro rfl ?_ | refine lx_isA (by assumption) ?_ | refine lx_nA (by assumption) ?_)
          exact J
        · repeat (first | refine br_t (by assumption) ?_ | refine br_f (by assumption) ?_ | refine br_t (by decide) ?_ | refine br_f (by decide) ?_ | refine nm_e ?_ | refine And.intro (by assumption) ?_ | refine And.intro rfl ?_ | refine lx_isA (by assumption) ?_ | refine lx_nA (by assumption) ?_)
          exact J
      · repeat (first | refine br_t (by assumption) ?_ | refine br_f (by assumption) ?_ | refine br_t (by decide) ?_ | refine br_f (by decide) ?_ | refine nm_e ?_ | refine And.intro (by assumption) ?_ | refine And.intro rfl ?_ | refine lx_isA (by assumption) ?_ | refine lx_nA (by assumption) ?_)
        exact J
  · repeat (first | refine br_t (by assumption) ?_ | refine br_f (by assumption) ?_ | refine br_t (by decide) ?_ | refine br_f (by decide) ?_ | refine nm_e ?_ | refine And.intro (by assumption) ?_ | refine And.intro rfl ?_ | refine lx_isA (by assumption) ?_ | refine lx_nA (by assumption) ?_)
    exact J
end
