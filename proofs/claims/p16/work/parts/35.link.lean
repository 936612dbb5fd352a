
section
/-! link -/
theorem lq_link {P : Int32 → St2 → Prop} {no R0 R1 : Nat} {u : St2} {gc : Int32} (I : lq_F no R0 R1 u) (hok : ∀ u, lq_L 1 no R0 R1 u → P 0 u) (hbad : ∀ r u, ¬ r = 0 → lq_F no R0 R1 u → P r u) : wpX_link P u gc := by
  obtain ⟨ns, ng, ni, nb, nr, xopenOut, xopenGroup, xregionSize, xcounter, xmemory, xstmtOp, xstmtA, xstmtB, xstmtOwner, xoutRegion, xoutLoaded, xoutGroup, xoutAlign, xoutVma, xoutLma, xoutDot, xgroupStart, xgroupEnd, xgroupResident, xinKind, xinId, xinAlign, xinSize, xinFirstByte, xinStmt, xinLive, xinVma, xfedBytes, xrelocOwner, xrelocOffset, xrelocType, xrelocTarget, xrelocAddend, yinGroup, ystOut, yinBss, yinLen, rfl, hS, hN, hQ, hZ, hM⟩ := id I
  have hof := lk_S_of hS
  obtain ⟨c1, c2, c3, c4, c5, c6, c7, c8, c9⟩ := id hS
  rcases Bool.eq_false_or_eq_true (lk_is xstmtOp ns) with his | his
  · rw [his, if_pos rfl] at c6
    exact br_t rfl (br_f (by rw [c6]; exact lk_nn1 (by omega)) (hbad _ _ (by decide) I))
  rw [his, if_neg (by decide)] at c6
  rcases Bool.eq_false_or_eq_true (lk_ig xstmtOp ns) with hig | hig
  · rw [hig, if_pos rfl] at c7
    exact br_t rfl (br_t c6 (br_f (by rw [c7]; exact lk_nn1 (by omega)) (hbad _ _ (by decide) I)))
  rw [hig, if_neg (by decide)] at c7 c8
  have h16 := hN.1
  have hq : lk_hq ni nr xrelocOwner xrelocTarget := ⟨hN.1, hQ.1, fun r hr => by
    obtain ⟨o, f, t, Z, a1, a2, _, _, _, _, _, a8, a9⟩ := hQ.2 r hr
    exact ⟨o, t, a1, a2, a8, a9⟩⟩
  obtain ⟨st, est⟩ : ∃ st, st = lk_as xinStmt ni (lk_fm xstmtOp xstmtA xstmtB xinKind xinId ns) := ⟨_, rfl⟩
  have hst : ∀ s, s < ni → st s = lk_fm xstmtOp xstmtA xstmtB xinKind xinId ns s := fun s hs => by rw [est]; exact lk_as_t hs
  have ht : lk_ht ni st := by
    intro s hs
    rw [hst s hs]
    rcases lk_fm_or (op := xstmtOp) (sa := xstmtA) (sb := xstmtB) (kd := xinKind) (id := xinId) (ns := ns) (s := s) with z | ⟨q, hq2, _, z⟩
    · exact Or.inl z
    · exact Or.inr ⟨q, by omega, z⟩
  obtain ⟨l1, el1⟩ : ∃ l1, l1 = lk_as xinLive ni (lk_l0 xstmtOp st gc) := ⟨_, rfl⟩
  obtain ⟨lv, elv⟩ : ∃ lv, lv = lk_lv xstmtOp st xrelocOwner xrelocTarget gc ni nr xinLive := ⟨_, rfl⟩
  have elv2 : lv = lk_it (lk_sp xrelocOwner xrelocTarget st ni) nr ni l1 := by
    rw [elv, el1]
    rfl
  have hT : ∀ r, r < nr → ∃ t, t < 16 ∧ xrelocTarget r = nI t := fun r hr => by
    obtain ⟨o, t, _, _, ht2, et⟩ := hq.2.2 r hr
    exact ⟨t, ht2, et⟩
  have HH : lk_H (lk_sp xrelocOwner xrelocTarget st ni) nr ni := lk_sp_H (by omega) hT
  have fx : lk_ps (lk_sp xrelocOwner xrelocTarget st ni) nr lv = lv := by
    rw [elv2]
    exact lk_it_fx HH l1
  have la : lk_la st lv ni := by
    rw [elv2]
    refine lk_it_la (by omega) hT (fun s hs h => ?_) ni
    rw [el1, lk_as_t hs] at h
    exact lk_l0_a h
  have hA : lk_hA ni ns xstmtOp st lv := by
    refine ⟨c1, fun s hs h => ?_⟩
    have nz := la s hs h
    rcases lk_fm_or (op := xstmtOp) (sa := xstmtA) (sb := xstmtB) (kd := xinKind) (id := xinId) (ns := ns) (s := s) with z | ⟨q, hq2, ho, z⟩
    · exact absurd ((hst s hs).trans z) nz
    · exact ⟨q, hq2, ho, (hst s hs).trans z⟩
  have hl : lk_hl ni no ns st lv xstmtOwner ystOut := by
    refine ⟨c2, c1, fun s hs h => ?_⟩
    obtain ⟨q, hq2, ho, e⟩ := hA.2 s hs h
    obtain ⟨_, p1, p2, p3, p4⟩ := lk_S_i c9 hq2 ho
    exact ⟨q, _, hq2, e, by omega, p3, p4⟩
  rcases Bool.eq_false_or_eq_true (lk_ex (lk_ud xrelocOwner xrelocTarget st lv ni) nr 0) with hU | hU
  · exact br_t rfl (br_t c6 (br_t c7 (lx_as2 h16 c1 est (lx_live2 hq ht elv (lx_ud hq (fun _ => br_f (by decide) (hbad _ (0, (nI ns), xopenOut, xopenGroup, (nI no), (nI ng), (nI ni), (nI nb), (nI nr), xregionSize, xcounter, xmemory, xstmtOp, xstmtA, xstmtB, xstmtOwner, xoutRegion, xoutLoaded, xoutGroup, xoutAlign, xoutVma, xoutLma, xoutDot, xgroupStart, xgroupEnd, xgroupResident, xinKind, xinId, xinAlign, xinSize, xinFirstByte, st, lv, xinVma, xfedBytes, xrelocOwner, xrelocOffset, xrelocType, xrelocTarget, xrelocAddend) (by decide) ⟨ns, ng, ni, nb, nr, xopenOut, xopenGroup, xregionSize, xcounter, xmemory, xstmtOp, xstmtA, xstmtB, xstmtOwner, xoutRegion, xoutLoaded, xoutGroup, xoutAlign, xoutVma, xoutLma, xoutDot, xgroupStart, xgroupEnd, xgroupResident, xinKind, xinId, xinAlign, xinSize, xinFirstByte, st, lv, xinVma, xfedBytes, xrelocOwner, xrelocOffset, xrelocType, xrelocTarget, xrelocAddend, yinGroup, ystOut, yinBss, yinLen, rfl, hS, hN, hQ, hZ, hM⟩)) (fun z => Bool.noConfusion (hU.symm.trans z)))))))
  have nu := fun z : lk_ex (lk_ud xrelocOwner xrelocTarget st lv ni) nr 0 = true => Bool.noConfusion (P := False) (z.symm.trans hU)
  have hcl : ∀ r, r < nr → lv (xrelocOwner r).toNatClampNeg = 1 → ∃ t, t < ni ∧ xrelocTarget r = nI t ∧ lv t = 1 := by
    intro r hr hlv
    obtain ⟨o, t, ho, eo, ht2, et⟩ := hq.2.2 r hr
    have hn := lk_ex_no nr 0 hU r (Nat.zero_le r) (by omega)
    have on : lk_on xrelocTarget st ni r = true := Decidable.byContradiction (fun z => hn (decide_eq_true ⟨hlv, z⟩))
    obtain ⟨p1, p2⟩ := (lk_on_t (st := st) (ni := ni) (by omega) (by omega) et).mp on
    rw [eo, nI_clamp (by omega)] at hlv
    exact ⟨t, p1, et, lk_sp_cl (by omega) (lk_fx_st HH fx hr) (by omega) eo (by omega) et hlv p1 p2⟩
  rcases Bool.eq_false_or_eq_true (lk_ex (lk_nl xinKind st lv xoutLoaded xstmtOwner) ni 0) with hL | hL
  · exact br_t rfl (br_t c6 (br_t c7 (lx_as2 h16 c1 est (lx_live2 hq ht elv (lx_ud hq (fun z => (nu z).elim) (fun _ => br_t rfl (lx_nl h16 hl (fun _ => br_f (by decide) (hbad _ (0, (nI ns), xopenOut, xopenGroup, (nI no), (nI ng), (nI ni), (nI nb), (nI nr), xregionSize, xcounter, xmemory, xstmtOp, xstmtA, xstmtB, xstmtOwner, xoutRegion, xoutLoaded, xoutGroup, xoutAlign, xoutVma, xoutLma, xoutDot, xgroupStart, xgroupEnd, xgroupResident, xinKind, xinId, xinAlign, xinSize, xinFirstByte, st, lv, xinVma, xfedBytes, xrelocOwner, xrelocOffset, xrelocType, xrelocTarget, xrelocAddend) (by decide) ⟨ns, ng, ni, nb, nr, xopenOut, xopenGroup, xregionSize, xcounter, xmemory, xstmtOp, xstmtA, xstmtB, xstmtOwner, xoutRegion, xoutLoaded, xoutGroup, xoutAlign, xoutVma, xoutLma, xoutDot, xgroupStart, xgroupEnd, xgroupResident, xinKind, xinId, xinAlign, xinSize, xinFirstByte, st, lv, xinVma, xfedBytes, xrelocOwner, xrelocOffset, xrelocType, xrelocTarget, xrelocAddend, yinGroup, ystOut, yinBss, yinLen, rfl, hS, hN, hQ, hZ, hM⟩)) (fun z => Bool.noConfusion (hL.symm.trans z)))))))))
  have nn := fun z : lk_ex (lk_nl xinKind st lv xoutLoaded xstmtOwner) ni 0 = true => Bool.noConfusion (P := False) (z.symm.trans hL)
  have hLd : ∀ s, s < ni → lv s = 1 → ¬ xinKind s = 3 → xoutLoaded (xstmtOwner (st s).toNatClampNeg).toNatClampNeg = 1 := by
    intro s hs hlv hk3
    obtain ⟨q, o, hq2, eq, ho, ek, _⟩ := hl.2.2 s hs hlv
    have hn := lk_ex_no ni 0 hL s (Nat.zero_le s) (by omega)
    have h0 : ¬ xoutLoaded (xstmtOwner (st s).toNatClampNeg).toNatClampNeg = 0 := fun z => hn (decide_eq_true ⟨hlv, hk3, z⟩)
    have own : (xstmtOwner (st s).toNatClampNeg).toNatClampNeg = o := by rw [eq, nI_clamp (by omega), ek, nI_clamp (by omega)]
    rw [own] at h0 ⊢
    rcases hof o ho with ⟨_, z, _⟩ | ⟨_, z, _⟩
    · exact z
    · exact z.resolve_left h0
  obtain ⟨b, C0n, C1n, Vn, Ln, Dn, G0n, GEn, IVn, ct, oa, vm, lm, dt, gs, ge, xv, os, yg0, yg1, yv, yl, d0, d1, d2, d3, d4, d5, d6, d7, d8, d9, hW, jX⟩ := lk_pa (ns := ns) (no := no) (ng := ng) (ni := ni) (nb := nb) (nr := nr) (xphase := 0) (xopenOut := xopenOut) (xopenGroup := xopenGroup) (xregionSize := xregionSize) (xcounter := xcounter) (xmemory := xmemory) (xstmtOp := xstmtOp) (xstmtA := xstmtA) (xstmtB := xstmtB) (xstmtOwner := xstmtOwner) (xoutRegion := xoutRegion) (xoutLoaded := xoutLoaded) (xoutGroup := xoutGroup) (xoutAlign := xoutAlign) (xoutVma := xoutVma) (xoutLma := xoutLma) (xoutDot := xoutDot) (xgroupStart := xgroupStart) (xgroupEnd := xgroupEnd) (xgroupResident := xgroupResident) (xinKind := xinKind) (xinId := xinId) (xinAlign := xinAlign) (xinSize := xinSize) (xinFirstByte := xinFirstByte) (xinStmt := st) (xinLive := lv) (xinVma := xinVma) (xfedBytes := xfedBytes) (xrelocOwner := xrelocOwner) (xrelocOffset := xrelocOffset) (xrelocType := xrelocType) (xrelocTarget := xrelocTarget) (xrelocAddend := xrelocAddend) (ystOut := ystOut) (youtSize := (fun _ => 0)) (ygStart := (fun _ => 0)) (ygEnd := (fun _ => 0)) (yinBss := yinBss) (yinLen := yinLen) (yinVma := (fun _ => 0)) (yinLma := (fun _ => 0)) c9 c4 c5 c2 c3 hN hA hl
  cases b with
  | false =>
    exact br_t rfl (br_t c6 (br_t c7 (lx_as2 h16 c1 est (lx_live2 hq ht elv (lx_ud hq (fun z => (nu z).elim) (fun _ => br_t rfl (lx_nl h16 hl (fun z => (nn z).elim) (fun _ => br_t rfl (jX _ (br_t rfl (hbad _ (0, (nI ns), xopenOut, xopenGroup, (nI no), (nI ng), (nI ni), (nI nb), (nI nr), xregionSize, ct, xmemory, xstmtOp, xstmtA, xstmtB, xstmtOwner, xoutRegion, xoutLoaded, xoutGroup, oa, vm, lm, dt, gs, ge, xgroupResident, xinKind, xinId, xinAlign, xinSize, xinFirstByte, st, lv, xv, xfedBytes, xrelocOwner, xrelocOffset, xrelocType, xrelocTarget, xrelocAddend) (by decide) ⟨ns, ng, ni, nb, nr, xopenOut, xopenGroup, xregionSize, ct, xmemory, xstmtOp, xstmtA, xstmtB, xstmtOwner, xoutRegion, xoutLoaded, xoutGroup, oa, vm, lm, dt, gs, ge, xgroupResident, xinKind, xinId, xinAlign, xinSize, xinFirstByte, st, lv, xv, xfedBytes, xrelocOwner, xrelocOffset, xrelocType, xrelocTarget, xrelocAddend, yinGroup, ystOut, yinBss, yinLen, rfl, hS, hN, hQ, hZ, hM⟩))))))))))) 
  | true =>
    obtain ⟨hW, hUU⟩ := hW rfl
    obtain ⟨hk, hd, hos, hF, hG, hct⟩ := lk_asm1 (oy := ystOut) (gp := xoutGroup) hW his c4 c2 c1 hof hl
    rcases Bool.eq_false_or_eq_true (lk_ex (lk_ov R0 R1 xoutRegion xoutLoaded Vn Ln Dn) no 0) with hO | hO
    · exact br_t rfl (br_t c6 (br_t c7 (lx_as2 h16 c1 est (lx_live2 hq ht elv (lx_ud hq (fun z => (nu z).elim) (fun _ => br_t rfl (lx_nl h16 hl (fun z => (nn z).elim) (fun _ => br_t rfl (jX _ (br_f (by decide) (lx_ov hZ hk hd (fun _ => br_f (by decide) (hbad _ (0, (nI ns), xopenOut, xopenGroup, (nI no), (nI ng), (nI ni), (nI nb), (nI nr), xregionSize, ct, xmemory, xstmtOp, xstmtA, xstmtB, xstmtOwner, xoutRegion, xoutLoaded, xoutGroup, oa, vm, lm, dt, gs, ge, xgroupResident, xinKind, xinId, xinAlign, xinSize, xinFirstByte, st, lv, xv, xfedBytes, xrelocOwner, xrelocOffset, xrelocType, xrelocTarget, xrelocAddend) (by decide) ⟨ns, ng, ni, nb, nr, xopenOut, xopenGroup, xregionSize, ct, xmemory, xstmtOp, xstmtA, xstmtB, xstmtOwner, xoutRegion, xoutLoaded, xoutGroup, oa, vm, lm, dt, gs, ge, xgroupResident, xinKind, xinId, xinAlign, xinSize, xinFirstByte, st, lv, xv, xfedBytes, xrelocOwner, xrelocOffset, xrelocType, xrelocTarget, xrelocAddend, yinGroup, ystOut, yinBss, yinLen, rfl, hS, hN, hQ, hZ, hM⟩)) (fun z => Bool.noConfusion (hO.symm.trans z)))))))))))))
    · have no1 := fun z : lk_ex (lk_ov R0 R1 xoutRegion xoutLoaded Vn Ln Dn) no 0 = true => Bool.noConfusion (P := False) (z.symm.trans hO)
      have hUU2 : lk_G2 xoutRegion xoutGroup no no ng false C1n Vn Dn G0n GEn := by
        unfold lk_U at hUU
        rw [lk_nc_f his, ← c4, ← c5, hig] at hUU
        exact hUU
      have hKK : lq_K no ng R0 R1 xoutRegion xoutLoaded xoutGroup vm lm dt gs ge (lk_as xgroupResident ng (fun g => lk_f1 xoutGroup no (nI g))) Vn Ln Dn G0n GEn := by
        have hW3 := hW
        unfold lk_WI at hW3
        rw [lk_nc_f his, ← c4, ← c5, hig] at hW3
        refine lq_K_fin hW3 (by omega) c2 c3 hof hO hUU2 (fun g hgn => ?_)
        rw [lk_as_t hgn]
        rcases lk_ff_or (fun k => decide (xoutGroup k = nI g)) no 0 with z | ⟨k2, _, h2, h3, z⟩
        · exact Or.inl z
        · exact Or.inr ⟨k2, by omega, z, of_decide_eq_true h3⟩
      have h128 : ∀ k, k < no → xoutLoaded k = 1 → Ln k + (Dn k - Vn k) ≤ 128 := fun k hkn hl1 => by
        have h1 := (hKK.2.2.2.1 k hkn).2.2.2.2.2.2 hl1
        have h2 := hZ.2.2.2.1
        omega
      have dj := lk_dj2 (kd := xinKind) (oy := ystOut) hW his hl hLd
      obtain ⟨m1, mf, hI1, hI3, xrom⟩ := lx_rom (ns := ns) (no := no) (ng := ng) (ni := ni) (nb := nb) (nr := nr) (xphase := 0) (xopenOut := xopenOut) (xopenGroup := xopenGroup) (xregionSize := xregionSize) (xcounter := ct) (xmemory := xmemory) (xstmtOp := xstmtOp) (xstmtA := xstmtA) (xstmtB := xstmtB) (xstmtOwner := xstmtOwner) (xoutRegion := xoutRegion) (xoutLoaded := xoutLoaded) (xoutGroup := xoutGroup) (xoutAlign := oa) (xoutVma := vm) (xoutLma := lm) (xoutDot := dt) (xgroupStart := gs) (xgroupEnd := ge) (xgroupResident := xgroupResident) (xinKind := xinKind) (xinId := xinId) (xinAlign := xinAlign) (xinSize := xinSize) (xinFirstByte := xinFirstByte) (xinStmt := st) (xinLive := lv) (xinVma := xv) (xfedBytes := xfedBytes) (xrelocOwner := xrelocOwner) (xrelocOffset := xrelocOffset) (xrelocType := xrelocType) (xrelocTarget := xrelocTarget) (xrelocAddend := xrelocAddend) (yv := yv) (yl := yl) (oy := ystOut) hk hd h128 c1 hF hG hLd hN hQ hcl dj
      have mm := lk_mem3 hW his c4 hl hLd h128 hI1 hI3
      refine br_t rfl (br_t c6 (br_t c7 (lx_as2 h16 c1 est (lx_live2 hq ht elv (lx_ud hq (fun z => (nu z).elim) (fun _ => br_t rfl (lx_nl h16 hl (fun z => (nn z).elim) (fun _ => br_t rfl (jX _ (br_f (by decide) (lx_ov hZ hk hd (fun z => (no1 z).elim) (fun _ => br_t rfl (xrom _ (lx_res c2 c3 (hok _ ?_)))))))))))))))
      exact ⟨ng, Vn, Ln, Dn, G0n, GEn, mf, rfl, rfl, rfl, hZ, hKK, Or.inl ⟨rfl, fun x x1 x2 => (mm x (by omega)).trans (hM x x2)⟩⟩
end
