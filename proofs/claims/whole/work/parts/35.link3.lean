
section
/-! AI: link joined -/
theorem lk_link {ns no ng ni nb nr R0 R1 : Nat} {xphase xopenOut xopenGroup yinGroup yfinalC0 yfinalC1 : Int32} {xregionSize xcounter xmemory xstmtOp xstmtA xstmtB xstmtOwner xoutRegion xoutLoaded xoutGroup xoutAlign xoutVma xoutLma xoutDot xgroupStart xgroupEnd xgroupResident xinKind xinId xinAlign xinSize xinFirstByte xinStmt xinLive xinVma xfedBytes xrelocOwner xrelocOffset xrelocType xrelocTarget xrelocAddend ystOut youtSize youtRes ygStart ygEnd yinBss yinLen yinVma yinLma yrom yram : Nat → Int32} {k : Nat} {gc : Int32}
    (hS : lk_S ns no ng xstmtOp xstmtA xstmtB xstmtOwner ystOut xoutRegion xoutLoaded xoutGroup xopenOut xopenGroup yinGroup)
    (hN : lk_N ni nb xinKind xinAlign xinSize xinFirstByte yinBss yinLen) (hQ : lk_Q nr ni xinKind yinLen xrelocOwner xrelocOffset xrelocTarget) (hZ : lk_Z xregionSize R0 R1) (hM : lk_M xmemory yrom yram) (hp : xphase = 0) (hrom : ∀ j, j < 128 → yrom j = 255) (his : lk_is xstmtOp ns = false) (hig : lk_ig xstmtOp ns = false) :
    ∃ (r : Int32) (u' : SX) (v' : SY), i_Rel (k + 5) u' v' ∧ (∀ post : Int32 → SX → Prop, post r u' → wpX_link post (xphase, (nI ns), xopenOut, xopenGroup, (nI no), (nI ng), (nI ni), (nI nb), (nI nr), xregionSize, xcounter, xmemory, xstmtOp, xstmtA, xstmtB, xstmtOwner, xoutRegion, xoutLoaded, xoutGroup, xoutAlign, xoutVma, xoutLma, xoutDot, xgroupStart, xgroupEnd, xgroupResident, xinKind, xinId, xinAlign, xinSize, xinFirstByte, xinStmt, xinLive, xinVma, xfedBytes, xrelocOwner, xrelocOffset, xrelocType, xrelocTarget, xrelocAddend) gc) ∧ (∀ post : Int32 → SY → Prop, post r v' → wpY_link post ((nI R0), (nI R1), xphase, (nI ns), (nI no), (nI ng), (nI ni), (nI nb), (nI nr), xopenOut, yinGroup, (nI ni - 1), yfinalC0, yfinalC1, xstmtOp, xstmtA, xstmtB, ystOut, xoutRegion, xoutLoaded, xoutGroup, xoutVma, xoutLma, youtSize, xoutAlign, youtRes, ygStart, ygEnd, xinKind, xinId, xinAlign, yinBss, xinFirstByte, yinLen, xinStmt, xinLive, yinVma, yinLma, xfedBytes, xrelocOwner, xrelocOffset, xrelocType, xrelocTarget, xrelocAddend, yrom, yram) gc) := by
  have hof := lk_S_of hS
  obtain ⟨c1, c2, c3, c4, c5, c6, c7, c8, c9⟩ := id hS
  rw [his, if_neg (by decide)] at c6
  rw [hig, if_neg (by decide)] at c7 c8
  have h16 := hN.1
  have hq : lk_hq ni nr xrelocOwner xrelocTarget := ⟨hN.1, hQ.1, fun r hr => by
    obtain ⟨o, f, t, Z, a1, a2, _, _, _, _, _, a8, a9⟩ := hQ.2 r hr
    exact ⟨o, t, a1, a2, a8, a9⟩⟩
  obtain ⟨st, est⟩ : ∃ st, st = lk_as xinStmt ni (lk_fm xstmtOp xstmtA xstmtB xinKind xinId ns) := ⟨_, rfl⟩
  have hst : ∀ s, s < ni → st s = lk_fm xstmtOp xstmtA xstmtB xinKind xinId ns s := fun s hs => by rw [est]; exact lk_as_t hs
  have ht : lk_ht ni st := by
    intro s hs
    rw [hst s hs]
    rcases lk_fm_or (op := xstmtOp) (sa := xstmtA) (sb := xstmtB) (kd := xinKind) (id := xinId) (ns := ns) (s := s) with z | ⟨q, hq2, _, z⟩
    · exact Or.inl z
    · exact Or.inr ⟨q, by omega, z⟩
  obtain ⟨l1, el1⟩ : ∃ l1, l1 = lk_as xinLive ni (lk_l0 xstmtOp (lk_fm xstmtOp xstmtA xstmtB xinKind xinId ns) gc) := ⟨_, rfl⟩
  obtain ⟨lv, elv⟩ : ∃ lv, lv = lk_lv xstmtOp st xrelocOwner xrelocTarget gc ni nr xinLive := ⟨_, rfl⟩
  have e1 : lk_as xinLive ni (lk_l0 xstmtOp st gc) = l1 := by
    rw [el1]
    funext s
    by_cases hs : s < ni
    · rw [lk_as_t hs, lk_as_t hs]
      unfold lk_l0
      rw [hst s hs]
    · rw [lk_as_f hs, lk_as_f hs]
  have elv2 : lv = lk_it (lk_sp xrelocOwner xrelocTarget st ni) nr ni l1 := by
    rw [elv]
    unfold lk_lv
    rw [e1]
  have hT : ∀ r, r < nr → ∃ t, t < 16 ∧ xrelocTarget r = nI t := fun r hr => by
    obtain ⟨o, t, _, _, ht2, et⟩ := hq.2.2 r hr
    exact ⟨t, ht2, et⟩
  have HH : lk_H (lk_sp xrelocOwner xrelocTarget st ni) nr ni := lk_sp_H (by omega) hT
  have eY : lv = lk_it (lk_sp xrelocOwner xrelocTarget st ni) nr 17 l1 := by
    have := lk_it_eq HH l1 (17 - ni)
    rw [show ni + (17 - ni) = 17 by omega] at this
    rw [elv2, this]
  have fx : lk_ps (lk_sp xrelocOwner xrelocTarget st ni) nr lv = lv := by
    rw [elv2]
    exact lk_it_fx HH l1
  have la : lk_la st lv ni := by
    rw [elv2]
    refine lk_it_la (by omega) hT (fun s hs h => ?_) ni
    rw [← e1, lk_as_t hs] at h
    exact lk_l0_a h
  have hA : lk_hA ni ns xstmtOp st lv := by
    refine ⟨c1, fun s hs h => ?_⟩
    have nz := la s hs h
    rcases lk_fm_or (op := xstmtOp) (sa := xstmtA) (sb := xstmtB) (kd := xinKind) (id := xinId) (ns := ns) (s := s) with z | ⟨q, hq2, ho, z⟩
    · exact absurd ((hst s hs).trans z) nz
    · exact ⟨q, hq2, ho, (hst s hs).trans z⟩
  have hl : lk_hl ni no ns st lv xstmtOwner ystOut := by
    refine ⟨c2, c1, fun s hs h => ?_⟩
    obtain ⟨q, hq2, ho, e⟩ := hA.2 s hs h
    obtain ⟨_, p1, p2, p3, p4⟩ := lk_S_i c9 hq2 ho
    exact ⟨q, _, hq2, e, by omega, p3, p4⟩
  obtain ⟨yv0, eyv⟩ : ∃ yv, yv = lk_as yinVma ni (fun _ => -1) := ⟨_, rfl⟩
  obtain ⟨yl0, eyl⟩ : ∃ yl, yl = lk_as yinLma ni (fun _ => -1) := ⟨_, rfl⟩
  have n0 : ¬ 0 ≤ xopenOut := by rw [c6]; decide
  rcases Bool.eq_false_or_eq_true (lk_ex (lk_ud xrelocOwner xrelocTarget st lv ni) nr 0) with hU | hU
  · refine ⟨-6, (xphase, (nI ns), xopenOut, xopenGroup, (nI no), (nI ng), (nI ni), (nI nb), (nI nr), xregionSize, xcounter, xmemory, xstmtOp, xstmtA, xstmtB, xstmtOwner, xoutRegion, xoutLoaded, xoutGroup, xoutAlign, xoutVma, xoutLma, xoutDot, xgroupStart, xgroupEnd, xgroupResident, xinKind, xinId, xinAlign, xinSize, xinFirstByte, st, lv, xinVma, xfedBytes, xrelocOwner, xrelocOffset, xrelocType, xrelocTarget, xrelocAddend), ((nI R0), (nI R1), xphase, (nI ns), (nI no), (nI ng), (nI ni), (nI nb), (nI nr), xopenOut, yinGroup, (nI ni - 1), yfinalC0, yfinalC1, xstmtOp, xstmtA, xstmtB, ystOut, xoutRegion, xoutLoaded, xoutGroup, xoutVma, xoutLma, youtSize, xoutAlign, youtRes, ygStart, ygEnd, xinKind, xinId, xinAlign, yinBss, xinFirstByte, yinLen, st, lv, yv0, yl0, xfedBytes, xrelocOwner, xrelocOffset, xrelocType, xrelocTarget, xrelocAddend, yrom, yram), ⟨ns, no, ng, ni, nb, nr, R0, R1, xphase, xopenOut, xopenGroup, yinGroup, yfinalC0, yfinalC1, xregionSize, xcounter, xmemory, xstmtOp, xstmtA, xstmtB, xstmtOwner, xoutRegion, xoutLoaded, xoutGroup, xoutAlign, xoutVma, xoutLma, xoutDot, xgroupStart, xgroupEnd, xgroupResident, xinKind, xinId, xinAlign, xinSize, xinFirstByte, st, lv, xinVma, xfedBytes, xrelocOwner, xrelocOffset, xrelocType, xrelocTarget, xrelocAddend, ystOut, youtSize, youtRes, ygStart, ygEnd, yinBss, yinLen, yv0, yl0, yrom, yram, rfl, rfl, hS, hN, hQ, hZ, hM, Or.inl ⟨hp, hrom⟩⟩, fun post hpost => ?_, fun post hpost => ?_⟩
    · exact br_t hp (br_t c6 (br_t c7 (lx_as2 h16 c1 est (lx_live2 hq ht elv (lx_ud hq (fun _ => br_f (by decide) hpost) (fun z => Bool.noConfusion (hU.symm.trans z)))))))
    · exact br_t hp (br_f n0 (br_t c8 (ly_as2 h16 c1 est el1 eyv eyl (ly_close2 hq ht eY (ly_ud hq ht (fun _ => hpost) (fun z => Bool.noConfusion (hU.symm.trans z)))))))
  have nu := fun z : lk_ex (lk_ud xrelocOwner xrelocTarget st lv ni) nr 0 = true => Bool.noConfusion (P := False) (z.symm.trans hU)
  have hcl : ∀ r, r < nr → lv (xrelocOwner r).toNatClampNeg = 1 → ∃ t, t < ni ∧ xrelocTarget r = nI t ∧ lv t = 1 := by
    intro r hr hlv
    obtain ⟨o, t, ho, eo, ht2, et⟩ := hq.2.2 r hr
    have hn := lk_ex_no nr 0 hU r (Nat.zero_le r) (by omega)
    have on : lk_on xrelocTarget st ni r = true := Decidable.byContradiction (fun z => hn (decide_eq_true ⟨hlv, z⟩))
    obtain ⟨p1, p2⟩ := (lk_on_t (st := st) (ni := ni) (by omega) (by omega) et).mp on
    rw [eo, nI_clamp (by omega)] at hlv
    exact ⟨t, p1, et, lk_sp_cl (by omega) (lk_fx_st HH fx hr) (by omega) eo (by omega) et hlv p1 p2⟩
  have enl : lk_ex (lk_nl xinKind st lv xoutLoaded ystOut) ni 0 = lk_ex (lk_nl xinKind st lv xoutLoaded xstmtOwner) ni 0 := by
    refine lk_ex_cg ni 0 (fun s _ hs => ?_)
    unfold lk_nl
    by_cases a : lv s = 1
    · obtain ⟨q, kk, hq2, eq, _, ek, ek2⟩ := hl.2.2 s (by omega) a
      rw [eq, nI_clamp (show q < 2 ^ 31 by omega), ek, ek2]
    · rw [decide_eq_false (fun y => a y.1), decide_eq_false (fun y => a y.1)]
  rcases Bool.eq_false_or_eq_true (lk_ex (lk_nl xinKind st lv xoutLoaded xstmtOwner) ni 0) with hL | hL
  · refine ⟨-7, (xphase, (nI ns), xopenOut, xopenGroup, (nI no), (nI ng), (nI ni), (nI nb), (nI nr), xregionSize, xcounter, xmemory, xstmtOp, xstmtA, xstmtB, xstmtOwner, xoutRegion, xoutLoaded, xoutGroup, xoutAlign, xoutVma, xoutLma, xoutDot, xgroupStart, xgroupEnd, xgroupResident, xinKind, xinId, xinAlign, xinSize, xinFirstByte, st, lv, xinVma, xfedBytes, xrelocOwner, xrelocOffset, xrelocType, xrelocTarget, xrelocAddend), ((nI R0), (nI R1), xphase, (nI ns), (nI no), (nI ng), (nI ni), (nI nb), (nI nr), xopenOut, yinGroup, (nI ni - 1), yfinalC0, yfinalC1, xstmtOp, xstmtA, xstmtB, ystOut, xoutRegion, xoutLoaded, xoutGroup, xoutVma, xoutLma, youtSize, xoutAlign, youtRes, ygStart, ygEnd, xinKind, xinId, xinAlign, yinBss, xinFirstByte, yinLen, st, lv, yv0, yl0, xfedBytes, xrelocOwner, xrelocOffset, xrelocType, xrelocTarget, xrelocAddend, yrom, yram), ⟨ns, no, ng, ni, nb, nr, R0, R1, xphase, xopenOut, xopenGroup, yinGroup, yfinalC0, yfinalC1, xregionSize, xcounter, xmemory, xstmtOp, xstmtA, xstmtB, xstmtOwner, xoutRegion, xoutLoaded, xoutGroup, xoutAlign, xoutVma, xoutLma, xoutDot, xgroupStart, xgroupEnd, xgroupResident, xinKind, xinId, xinAlign, xinSize, xinFirstByte, st, lv, xinVma, xfedBytes, xrelocOwner, xrelocOffset, xrelocType, xrelocTarget, xrelocAddend, ystOut, youtSize, youtRes, ygStart, ygEnd, yinBss, yinLen, yv0, yl0, yrom, yram, rfl, rfl, hS, hN, hQ, hZ, hM, Or.inl ⟨hp, hrom⟩⟩, fun post hpost => ?_, fun post hpost => ?_⟩
    · exact br_t hp (br_t c6 (br_t c7 (lx_as2 h16 c1 est (lx_live2 hq ht elv (lx_ud hq (fun z => (nu z).elim) (fun _ => br_t rfl (lx_nl h16 hl (fun _ => br_f (by decide) hpost) (fun z => Bool.noConfusion (hL.symm.trans z)))))))))
    · exact br_t hp (br_f n0 (br_t c8 (ly_as2 h16 c1 est el1 eyv eyl (ly_close2 hq ht eY (ly_ud hq ht (fun z => (nu z).elim) (fun _ => ly_nl h16 hl (fun _ => hpost) (fun z => Bool.noConfusion ((enl.trans hL).symm.trans z))))))))
  have nn := fun z : lk_ex (lk_nl xinKind st lv xoutLoaded xstmtOwner) ni 0 = true => Bool.noConfusion (P := False) (z.symm.trans hL)
  have nn2 := fun z : lk_ex (lk_nl xinKind st lv xoutLoaded ystOut) ni 0 = true => Bool.noConfusion (P := False) (z.symm.trans (enl.trans hL))
  have hLd : ∀ s, s < ni → lv s = 1 → ¬ xinKind s = 3 → xoutLoaded (xstmtOwner (st s).toNatClampNeg).toNatClampNeg = 1 := by
    intro s hs hlv hk3
    obtain ⟨q, o, hq2, eq, ho, ek, _⟩ := hl.2.2 s hs hlv
    have hn := lk_ex_no ni 0 hL s (Nat.zero_le s) (by omega)
    have h0 : ¬ xoutLoaded (xstmtOwner (st s).toNatClampNeg).toNatClampNeg = 0 := fun z => hn (decide_eq_true ⟨hlv, hk3, z⟩)
    have own : (xstmtOwner (st s).toNatClampNeg).toNatClampNeg = o := by rw [eq, nI_clamp (by omega), ek, nI_clamp (by omega)]
    rw [own] at h0 ⊢
    rcases hof o ho with ⟨_, z, _⟩ | ⟨_, z, _⟩
    · exact z
    · exact z.resolve_left h0
  obtain ⟨b, C0n, C1n, Vn, Ln, Dn, G0n, GEn, IVn, ct, oa, vm, lm, dt, gs, ge, xv, os, yg0, yg1, yv, yl, d0, d1, d2, d3, d4, d5, d6, d7, d8, d9, hW, jX, jY⟩ := lk_pa (ns := ns) (no := no) (ng := ng) (ni := ni) (nb := nb) (nr := nr) (R0 := R0) (R1 := R1) (xphase := xphase) (xopenOut := xopenOut) (xopenGroup := xopenGroup) (yinGroup := yinGroup) (yfinalC0 := yfinalC0) (yfinalC1 := yfinalC1) (xregionSize := xregionSize) (xcounter := xcounter) (xmemory := xmemory) (xstmtOp := xstmtOp) (xstmtA := xstmtA) (xstmtB := xstmtB) (xstmtOwner := xstmtOwner) (xoutRegion := xoutRegion) (xoutLoaded := xoutLoaded) (xoutGroup := xoutGroup) (xoutAlign := xoutAlign) (xoutVma := xoutVma) (xoutLma := xoutLma) (xoutDot := xoutDot) (xgroupStart := xgroupStart) (xgroupEnd := xgroupEnd) (xgroupResident := xgroupResident) (xinKind := xinKind) (xinId := xinId) (xinAlign := xinAlign) (xinSize := xinSize) (xinFirstByte := xinFirstByte) (xinStmt := st) (xinLive := lv) (xinVma := xinVma) (xfedBytes := xfedBytes) (xrelocOwner := xrelocOwner) (xrelocOffset := xrelocOffset) (xrelocType := xrelocType) (xrelocTarget := xrelocTarget) (xrelocAddend := xrelocAddend) (ystOut := ystOut) (youtSize := youtSize) (youtRes := youtRes) (ygStart := ygStart) (ygEnd := ygEnd) (yinBss := yinBss) (yinLen := yinLen) (yinVma := yv0) (yinLma := yl0) (yrom := yrom) (yram := yram) c9 c4 c5 c2 c3 hN hA hl
  cases b with
  | false =>
    refine ⟨-8, (xphase, (nI ns), xopenOut, xopenGroup, (nI no), (nI ng), (nI ni), (nI nb), (nI nr), xregionSize, ct, xmemory, xstmtOp, xstmtA, xstmtB, xstmtOwner, xoutRegion, xoutLoaded, xoutGroup, oa, vm, lm, dt, gs, ge, xgroupResident, xinKind, xinId, xinAlign, xinSize, xinFirstByte, st, lv, xv, xfedBytes, xrelocOwner, xrelocOffset, xrelocType, xrelocTarget, xrelocAddend), ((nI R0), (nI R1), xphase, (nI ns), (nI no), (nI ng), (nI ni), (nI nb), (nI nr), xopenOut, yinGroup, (nI ni - 1), yfinalC0, yfinalC1, xstmtOp, xstmtA, xstmtB, ystOut, xoutRegion, xoutLoaded, xoutGroup, vm, lm, os, oa, youtRes, yg0, yg1, xinKind, xinId, xinAlign, yinBss, xinFirstByte, yinLen, st, lv, yv, yl, xfedBytes, xrelocOwner, xrelocOffset, xrelocType, xrelocTarget, xrelocAddend, yrom, yram), ⟨ns, no, ng, ni, nb, nr, R0, R1, xphase, xopenOut, xopenGroup, yinGroup, yfinalC0, yfinalC1, xregionSize, ct, xmemory, xstmtOp, xstmtA, xstmtB, xstmtOwner, xoutRegion, xoutLoaded, xoutGroup, oa, vm, lm, dt, gs, ge, xgroupResident, xinKind, xinId, xinAlign, xinSize, xinFirstByte, st, lv, xv, xfedBytes, xrelocOwner, xrelocOffset, xrelocType, xrelocTarget, xrelocAddend, ystOut, os, youtRes, yg0, yg1, yinBss, yinLen, yv, yl, yrom, yram, rfl, rfl, hS, hN, hQ, hZ, hM, Or.inl ⟨hp, hrom⟩⟩, fun post hpost => ?_, fun post hpost => ?_⟩
    · exact br_t hp (br_t c6 (br_t c7 (lx_as2 h16 c1 est (lx_live2 hq ht elv (lx_ud hq (fun z => (nu z).elim) (fun _ => br_t rfl (lx_nl h16 hl (fun z => (nn z).elim) (fun _ => br_t rfl (jX _ (br_t rfl hpost))))))))))
    · refine br_t hp (br_f n0 (br_t c8 (ly_as2 h16 c1 est el1 eyv eyl (ly_close2 hq ht eY (ly_ud hq ht (fun z => (nu z).elim) (fun _ => ly_nl h16 hl (fun z => (nn2 z).elim) (fun _ => ?_)))))))
      unfold wY_link_167
      exact jY _ (fun z => Bool.noConfusion z) (fun _ => br_t rfl hpost)
  | true =>
    have hW := hW rfl
    obtain ⟨hk, hd, hos, hF, hG, hct⟩ := lk_asm1 (oy := ystOut) (gp := xoutGroup) hW his c4 c2 c1 hof hl
    have hR : R0 ≤ 128 ∧ R1 ≤ 128 := ⟨hZ.2.2.2.1, hZ.2.2.2.2.2⟩
    rcases Bool.eq_false_or_eq_true (lk_ex (lk_ov R0 R1 xoutRegion xoutLoaded Vn Ln Dn) no 0) with hO | hO
    · refine ⟨-9, (xphase, (nI ns), xopenOut, xopenGroup, (nI no), (nI ng), (nI ni), (nI nb), (nI nr), xregionSize, ct, xmemory, xstmtOp, xstmtA, xstmtB, xstmtOwner, xoutRegion, xoutLoaded, xoutGroup, oa, vm, lm, dt, gs, ge, xgroupResident, xinKind, xinId, xinAlign, xinSize, xinFirstByte, st, lv, xv, xfedBytes, xrelocOwner, xrelocOffset, xrelocType, xrelocTarget, xrelocAddend), ((nI R0), (nI R1), xphase, (nI ns), (nI no), (nI ng), (nI ni), (nI nb), (nI nr), xopenOut, yinGroup, (nI ni - 1), d0, d1, xstmtOp, xstmtA, xstmtB, ystOut, xoutRegion, xoutLoaded, xoutGroup, vm, lm, os, oa, youtRes, yg0, yg1, xinKind, xinId, xinAlign, yinBss, xinFirstByte, yinLen, st, lv, yv, yl, xfedBytes, xrelocOwner, xrelocOffset, xrelocType, xrelocTarget, xrelocAddend, yrom, yram), ⟨ns, no, ng, ni, nb, nr, R0, R1, xphase, xopenOut, xopenGroup, yinGroup, d0, d1, xregionSize, ct, xmemory, xstmtOp, xstmtA, xstmtB, xstmtOwner, xoutRegion, xoutLoaded, xoutGroup, oa, vm, lm, dt, gs, ge, xgroupResident, xinKind, xinId, xinAlign, xinSize, xinFirstByte, st, lv, xv, xfedBytes, xrelocOwner, xrelocOffset, xrelocType, xrelocTarget, xrelocAddend, ystOut, os, youtRes, yg0, yg1, yinBss, yinLen, yv, yl, yrom, yram, rfl, rfl, hS, hN, hQ, hZ, hM, Or.inl ⟨hp, hrom⟩⟩, fun post hpost => ?_, fun post hpost => ?_⟩
      · exact br_t hp (br_t c6 (br_t c7 (lx_as2 h16 c1 est (lx_live2 hq ht elv (lx_ud hq (fun z => (nu z).elim) (fun _ => br_t rfl (lx_nl h16 hl (fun z => (nn z).elim) (fun _ => br_t rfl (jX _ (br_f (by decide) (lx_ov hZ hk hd (fun _ => br_f (by decide) hpost) (fun z => Bool.noConfusion (hO.symm.trans z)))))))))))))
      · refine br_t hp (br_f n0 (br_t c8 (ly_as2 h16 c1 est el1 eyv eyl (ly_close2 hq ht eY (ly_ud hq ht (fun z => (nu z).elim) (fun _ => ly_nl h16 hl (fun z => (nn2 z).elim) (fun _ => ?_)))))))
        unfold wY_link_167
        exact jY _ (fun _ => br_f (by decide) (ly_ov hR hk hos (fun _ => hpost) (fun z => Bool.noConfusion (hO.symm.trans z)))) (fun z => Bool.noConfusion z)
    · have no1 := fun z : lk_ex (lk_ov R0 R1 xoutRegion xoutLoaded Vn Ln Dn) no 0 = true => Bool.noConfusion (P := False) (z.symm.trans hO)
      have hfin : (∀ k, k < no → vm k = nI (Vn k) ∧ lm k = nI (Ln k) ∧ dt k = nI (Dn k) ∧ os k = nI (Dn k - Vn k) ∧ Vn k ≤ Dn k ∧ (xoutRegion k = 1 → 256 ≤ Vn k ∧ Dn k ≤ 256 + R1) ∧ (xoutRegion k = 0 → Dn k ≤ R0) ∧ (xoutLoaded k = 1 → Ln k + (Dn k - Vn k) ≤ R0)) ∧ (∀ g, g < ng → ∃ a b, gs g = nI a ∧ yg0 g = nI a ∧ ge g = nI b ∧ yg1 g = nI b ∧ 256 ≤ a ∧ a ≤ b ∧ b < 2 ^ 30 ∧ (b = a ∨ b ≤ 256 + R1)) := by
        have hW3 := hW
        unfold lk_WI at hW3
        rw [lk_nc_f his, ← c4, ← c5, hig] at hW3
        exact lk_W_fin hW3 (by omega) hof hO
      have h128 : ∀ k, k < no → xoutLoaded k = 1 → Ln k + (Dn k - Vn k) ≤ 128 := fun k hkn hl1 => by
        have := (hfin.1 k hkn).2.2.2.2.2.2.2 hl1
        omega
      have dj := lk_dj2 (kd := xinKind) (oy := ystOut) hW his hl hLd
      obtain ⟨m1, mf, hI1, hI3, xrom⟩ := lx_rom (ns := ns) (no := no) (ng := ng) (ni := ni) (nb := nb) (nr := nr) (xphase := xphase) (xopenOut := xopenOut) (xopenGroup := xopenGroup) (xregionSize := xregionSize) (xcounter := ct) (xmemory := xmemory) (xstmtOp := xstmtOp) (xstmtA := xstmtA) (xstmtB := xstmtB) (xstmtOwner := xstmtOwner) (xoutRegion := xoutRegion) (xoutLoaded := xoutLoaded) (xoutGroup := xoutGroup) (xoutAlign := oa) (xoutVma := vm) (xoutLma := lm) (xoutDot := dt) (xgroupStart := gs) (xgroupEnd := ge) (xgroupResident := xgroupResident) (xinKind := xinKind) (xinId := xinId) (xinAlign := xinAlign) (xinSize := xinSize) (xinFirstByte := xinFirstByte) (xinStmt := st) (xinLive := lv) (xinVma := xv) (xfedBytes := xfedBytes) (xrelocOwner := xrelocOwner) (xrelocOffset := xrelocOffset) (xrelocType := xrelocType) (xrelocTarget := xrelocTarget) (xrelocAddend := xrelocAddend) (yv := yv) (yl := yl) (oy := ystOut) hk hd h128 c1 hF hG hLd hN hQ hcl dj
      have himg := lk_img2 hW his c4 hl hLd hN c1 hk hI1 hI3
      have hv : ∀ s, s < ni → lv s = 1 → ∃ q, q < 32 ∧ st s = nI q ∧ yv s = nI (IVn s) ∧ IVn s < 2 ^ 30 := fun s hs hlv => by
        obtain ⟨q, o, hq2, eq, _, _, _, _, ey, hI, _⟩ := hF s hs hlv
        exact ⟨q, by omega, eq, ey, hI⟩
      have hb : ∀ s, s < ni → ∃ T Z, xinFirstByte s = nI T ∧ yinLen s = nI Z ∧ T + Z ≤ 256 := fun s hs => by
        obtain ⟨A, T, Z, Q, _, _, a3, a4, a5, _, _⟩ := hN.2.2 s hs
        have := hN.2.1
        exact ⟨T, Z, a3, a4, by omega⟩
      have hg : ∀ k, k < no → xoutGroup k = -1 ∨ ∃ g, g < ng ∧ xoutGroup k = nI g := fun k hkn => by
        rcases hof k hkn with ⟨_, _, z⟩ | ⟨_, _, z⟩
        · exact Or.inl z
        · exact z
      have hg4 : ∀ k, k < no → xoutGroup k = -1 ∨ ∃ g, g < 4 ∧ xoutGroup k = nI g := fun k hkn => by
        rcases hg k hkn with z | ⟨g, hgn, z⟩
        · exact Or.inl z
        · exact Or.inr ⟨g, by omega, z⟩
      obtain ⟨romf, hJ, yromp⟩ := ly_rom (V := Vn) (L := Ln) (D := Dn) (mf := mf) (R0 := R0) (R1 := R1) (ns := ns) (no := no) (ng := ng) (ni := ni) (nb := nb) (nr := nr) (yphase := 1) (yopenOut := xopenOut) (yinGroup := yinGroup) (ycur := (nI ni - 1)) (yfinalC0 := d0) (yfinalC1 := d1) (ystOp := xstmtOp) (ystA := xstmtA) (ystB := xstmtB) (ystOut := ystOut) (youtReg := xoutRegion) (youtLoaded := xoutLoaded) (youtGroup := xoutGroup) (youtVma := vm) (youtLma := lm) (youtSize := os) (youtAlign := oa) (youtRes := (lk_as youtRes no (lk_r1 xoutGroup no))) (ygStart := yg0) (ygEnd := yg1) (yinKind := xinKind) (yinId := xinId) (yinAlign := xinAlign) (yinBss := yinBss) (yinStart := xinFirstByte) (yinLen := yinLen) (yinStmt := st) (yinLive := lv) (yinVma := yv) (yinLma := yl) (ybytes := xfedBytes) (yrSec := xrelocOwner) (yrOff := xrelocOffset) (yrType := xrelocType) (yrTgt := xrelocTarget) (yrAdd := xrelocAddend) (yrom := yrom) (yram := yram) hq hv hb hk hos hR.1 (fun k hkn hl1 => (hfin.1 k hkn).2.2.2.2.2.2.2 hl1) (fun k hkn hl1 o ho => ((himg k o hkn ho).1 hl1).symm)
      obtain ⟨mm1, mm2⟩ := lk_mem2 hW his c4 hl hLd h128 hI1 (fun j hj => by rw [hM.1 j hj]; exact hrom j hj) hI3 hJ
      refine ⟨0, (1, (nI ns), xopenOut, xopenGroup, (nI no), (nI ng), (nI ni), (nI nb), (nI nr), xregionSize, ct, mf, xstmtOp, xstmtA, xstmtB, xstmtOwner, xoutRegion, xoutLoaded, xoutGroup, oa, vm, lm, dt, gs, ge, (lk_as xgroupResident ng (fun g => lk_f1 xoutGroup no (nI g))), xinKind, xinId, xinAlign, xinSize, xinFirstByte, st, lv, xv, xfedBytes, xrelocOwner, xrelocOffset, xrelocType, xrelocTarget, xrelocAddend), ((nI R0), (nI R1), 1, (nI ns), (nI no), (nI ng), (nI ni), (nI nb), (nI nr), xopenOut, yinGroup, (nI ni - 1), d0, d1, xstmtOp, xstmtA, xstmtB, ystOut, xoutRegion, xoutLoaded, xoutGroup, vm, lm, os, oa, (lk_as youtRes no (lk_r1 xoutGroup no)), yg0, yg1, xinKind, xinId, xinAlign, yinBss, xinFirstByte, yinLen, st, lv, yv, yl, xfedBytes, xrelocOwner, xrelocOffset, xrelocType, xrelocTarget, xrelocAddend, romf, yram), ⟨ns, no, ng, ni, nb, nr, R0, R1, 1, xopenOut, xopenGroup, yinGroup, d0, d1, xregionSize, ct, mf, xstmtOp, xstmtA, xstmtB, xstmtOwner, xoutRegion, xoutLoaded, xoutGroup, oa, vm, lm, dt, gs, ge, _, xinKind, xinId, xinAlign, xinSize, xinFirstByte, st, lv, xv, xfedBytes, xrelocOwner, xrelocOffset, xrelocType, xrelocTarget, xrelocAddend, ystOut, os, _, yg0, yg1, yinBss, yinLen, yv, yl, romf, yram, rfl, rfl, hS, hN, hQ, hZ, ⟨mm1, fun j hj => ?_⟩, Or.inr ⟨Or.inl rfl, Vn, Ln, Dn, IVn, hct, hfin.1, hfin.2, hF, himg, fun g hgn => ?_, fun k hkn => ?_, fun _ g hgn => lk_as_t hgn⟩⟩, fun post hpost => ?_, fun post hpost => ?_⟩
      · rw [mm2 (256 + j) (by omega)]
        exact hM.2 j hj
      · rw [lk_as_t hgn]
        rcases lk_ff_or (fun k => decide (xoutGroup k = nI g)) no 0 with z | ⟨k2, _, h2, h3, z⟩
        · exact Or.inl z
        · exact Or.inr ⟨k2, by omega, z, of_decide_eq_true h3⟩
      · rw [lk_as_t hkn]
        unfold lk_r1
        rcases hg k hkn with z | ⟨g, hgn, z⟩
        · rw [if_neg (fun y => y.1 z), if_neg (fun y => y.1 z)]
        · rw [z, nI_clamp (show g < 2 ^ 31 by omega), lk_as_t hgn]
      · exact br_t hp (br_t c6 (br_t c7 (lx_as2 h16 c1 est (lx_live2 hq ht elv (lx_ud hq (fun z => (nu z).elim) (fun _ => br_t rfl (lx_nl h16 hl (fun z => (nn z).elim) (fun _ => br_t rfl (jX _ (br_f (by decide) (lx_ov hZ hk hd (fun z => (no1 z).elim) (fun _ => br_t rfl (xrom _ (lx_res c2 c3 hpost))))))))))))))
      · refine br_t hp (br_f n0 (br_t c8 (ly_as2 h16 c1 est el1 eyv eyl (ly_close2 hq ht eY (ly_ud hq ht (fun z => (nu z).elim) (fun _ => ly_nl h16 hl (fun z => (nn2 z).elim) (fun _ => ?_)))))))
        unfold wY_link_167
        exact jY _ (fun _ => br_f (by decide) (ly_ov hR hk hos (fun z => (no1 z).elim) (fun _ => ly_res c2 hg4 (yromp _ hpost)))) (fun z => Bool.noConfusion z)
theorem i_vc_link {k : Nat} {u : SX} {v : SY} (I : i_Rel k u v) (hk : k + 5 ≤ 2562) (v1 : Int32) : wpX_link (fun r u' => wpY_link (fun r' v' => r' = r ∧ i_Rel (k + 5) u' v') v (lw_bz v1)) u (lw_bz v1) := by
  have J := i_up I
  obtain ⟨ns, no, ng, ni, nb, nr, R0, R1, xphase, xopenOut, xopenGroup, yinGroup, yfinalC0, yfinalC1, xregionSize, xcounter, xmemory, xstmtOp, xstmtA, xstmtB, xstmtOwner, xoutRegion, xoutLoaded, xoutGroup, xoutAlign, xoutVma, xoutLma, xoutDot, xgroupStart, xgroupEnd, xgroupResident, xinKind, xinId, xinAlign, xinSize, xinFirstByte, xinStmt, xinLive, xinVma, xfedBytes, xrelocOwner, xrelocOffset, xrelocType, xrelocTarget, xrelocAddend, ystOut, youtSize, youtRes, ygStart, ygEnd, yinBss, yinLen, yinVma, yinLma, yrom, yram, rfl, rfl, hS, hN, hQ, hZ, hM, hP⟩ := I
  rcases Decidable.em (xphase = 0) with hp | hp
  · have hP0 : ∀ j, j < 128 → yrom j = 255 := by
      rcases hP with ⟨_, h⟩ | ⟨h, _⟩
      · exact h
      · rw [hp] at h; exact absurd h (by decide)
    obtain ⟨c1, c2, c3, c4, c5, c6, c7, c8, c9⟩ := id hS
    rcases Bool.eq_false_or_eq_true (lk_is xstmtOp ns) with his | his
    · have hno := lk_is_p ns his
      rw [← c4] at hno
      rw [his, if_pos rfl] at c6
      have o1 : ¬ xopenOut = -1 := by rw [c6]; exact lk_nn1 (by omega)
      have o2 : 0 ≤ xopenOut := by rw [c6]; exact nI_pos' (by omega)
      exact br_t hp (br_f o1 (br_t hp (br_t o2 ⟨rfl, J⟩)))
    · rcases Bool.eq_false_or_eq_true (lk_ig xstmtOp ns) with hig | hig
      · have hng := lk_ig_p ns hig
        rw [← c5] at hng
        rw [his, if_neg (by decide)] at c6
        rw [hig, if_pos rfl] at c7 c8
        have g1 : ¬ xopenGroup = -1 := by rw [c7]; exact lk_nn1 (by omega)
        have g2 : ¬ yinGroup = 0 := by rw [c8]; decide
        have o2 : ¬ 0 ≤ xopenOut := by rw [c6]; decide
        exact br_t hp (br_t c6 (br_f g1 (br_t hp (br_f o2 (br_f g2 ⟨rfl, J⟩)))))
      · obtain ⟨r, u', v', hR, hX, hY⟩ := lk_link (k := k) (gc := lw_bz v1) (xoutAlign := xoutAlign) (xoutVma := xoutVma) (xoutLma := xoutLma) (xoutDot := xoutDot) (xgroupStart := xgroupStart) (xgroupEnd := xgroupEnd) (xgroupResident := xgroupResident) (xcounter := xcounter) (xinId := xinId) (xinStmt := xinStmt) (xinLive := xinLive) (xinVma := xinVma) (xfedBytes := xfedBytes) (xrelocType := xrelocType) (xrelocAddend := xrelocAddend) (yfinalC0 := yfinalC0) (yfinalC1 := yfinalC1) (youtSize := youtSize) (youtRes := youtRes) (ygStart := ygStart) (ygEnd := ygEnd) (yinVma := yinVma) (yinLma := yinLma) hS hN hQ hZ hM hp hP0 his hig
        exact hX _ (hY _ ⟨rfl, hR⟩)
  · exact br_f hp (br_f hp ⟨rfl, J⟩)
end
