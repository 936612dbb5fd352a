
section
/-! AK: startup and loadOverlay -/
theorem i_vc_startup {k : Nat} {u : SX} {v : SY} (I : i_Rel k u v) (hk : k + 5 ≤ 2562) : wpX_startup (fun r u' => wpY_startup (fun r' v' => r' = r ∧ i_Rel (k + 5) u' v') v) u := by
  have J := i_up I
  obtain ⟨ns, no, ng, ni, nb, nr, R0, R1, xphase, xopenOut, xopenGroup, yinGroup, yfinalC0, yfinalC1, xregionSize, xcounter, xmemory, xstmtOp, xstmtA, xstmtB, xstmtOwner, xoutRegion, xoutLoaded, xoutGroup, xoutAlign, xoutVma, xoutLma, xoutDot, xgroupStart, xgroupEnd, xgroupResident, xinKind, xinId, xinAlign, xinSize, xinFirstByte, xinStmt, xinLive, xinVma, xfedBytes, xrelocOwner, xrelocOffset, xrelocType, xrelocTarget, xrelocAddend, ystOut, youtSize, youtRes, ygStart, ygEnd, yinBss, yinLen, yinVma, yinLma, yrom, yram, rfl, rfl, hS, hN, hQ, hZ, hM, hP⟩ := I
  rcases Decidable.em (xphase = 1) with hp | hp
  · rcases hP with ⟨h, _⟩ | ⟨_, hL⟩
    · rw [hp] at h; exact absurd h (by decide)
    · have hof := lk_S_of hS
      obtain ⟨c1, c2, c3, _⟩ := id hS
      have hR : R0 ≤ 128 ∧ R1 ≤ 128 := ⟨hZ.2.2.2.1, hZ.2.2.2.2.2⟩
      have hg : ∀ k, k < no → xoutGroup k = -1 ∨ ∃ g, g < ng ∧ xoutGroup k = nI g := fun k hkn => by
        rcases hof k hkn with ⟨_, _, z⟩ | ⟨_, _, z⟩
        · exact Or.inl z
        · exact z
      obtain ⟨V, L, D, IV, h1, h2, h3, h4, h5, h6, h7, h9⟩ := id hL
      obtain ⟨me1, ram1, m1, x1, y1⟩ := lk_su1 (ns := ns) (no := no) (ng := ng) (ni := ni) (nb := nb) (nr := nr) (R0 := R0) (R1 := R1) (xphase := xphase) (xopenOut := xopenOut) (xopenGroup := xopenGroup) (yinGroup := yinGroup) (yfinalC0 := yfinalC0) (yfinalC1 := yfinalC1) (xregionSize := xregionSize) (xcounter := xcounter) (xstmtOp := xstmtOp) (xstmtA := xstmtA) (xstmtB := xstmtB) (xstmtOwner := xstmtOwner) (xoutRegion := xoutRegion) (xoutLoaded := xoutLoaded) (xoutGroup := xoutGroup) (xoutAlign := xoutAlign) (xoutVma := xoutVma) (xoutLma := xoutLma) (xoutDot := xoutDot) (xgroupStart := xgroupStart) (xgroupEnd := xgroupEnd) (xgroupResident := xgroupResident) (xinKind := xinKind) (xinId := xinId) (xinAlign := xinAlign) (xinSize := xinSize) (xinFirstByte := xinFirstByte) (xinStmt := xinStmt) (xinLive := xinLive) (xinVma := xinVma) (xfedBytes := xfedBytes) (xrelocOwner := xrelocOwner) (xrelocOffset := xrelocOffset) (xrelocType := xrelocType) (xrelocTarget := xrelocTarget) (xrelocAddend := xrelocAddend) (ystOut := ystOut) (youtSize := youtSize) (youtRes := youtRes) (ygStart := ygStart) (ygEnd := ygEnd) (yinBss := yinBss) (yinLen := yinLen) (yinVma := yinVma) (yinLma := yinLma) (yrom := yrom) c2 c3 hR hg h3 ng 0 (by omega) xmemory yram hM
      obtain ⟨me2, ram2, m2, x2, y2⟩ := lk_su2 (ns := ns) (no := no) (ng := ng) (ni := ni) (nb := nb) (nr := nr) (R0 := R0) (R1 := R1) (xphase := xphase) (xopenOut := xopenOut) (xopenGroup := xopenGroup) (yinGroup := yinGroup) (yfinalC0 := yfinalC0) (yfinalC1 := yfinalC1) (xregionSize := xregionSize) (xcounter := xcounter) (xstmtOp := xstmtOp) (xstmtA := xstmtA) (xstmtB := xstmtB) (xstmtOwner := xstmtOwner) (xoutRegion := xoutRegion) (xoutLoaded := xoutLoaded) (xoutGroup := xoutGroup) (xoutAlign := xoutAlign) (xoutVma := xoutVma) (xoutLma := xoutLma) (xoutDot := xoutDot) (xgroupStart := xgroupStart) (xgroupEnd := xgroupEnd) (xgroupResident := xgroupResident) (xinKind := xinKind) (xinId := xinId) (xinAlign := xinAlign) (xinSize := xinSize) (xinFirstByte := xinFirstByte) (xinStmt := xinStmt) (xinLive := xinLive) (xinVma := xinVma) (xfedBytes := xfedBytes) (xrelocOwner := xrelocOwner) (xrelocOffset := xrelocOffset) (xrelocType := xrelocType) (xrelocTarget := xrelocTarget) (xrelocAddend := xrelocAddend) (ystOut := ystOut) (youtSize := youtSize) (youtRes := youtRes) (ygStart := ygStart) (ygEnd := ygEnd) (yinBss := yinBss) (yinLen := yinLen) (yinVma := yinVma) (yinLma := yinLma) (yrom := yrom) c2 c3 hR hg h2 (h9 hp) no 0 (by omega) me1 ram1 m1
      have R : i_Rel (k + 5) (2, (nI ns), xopenOut, xopenGroup, (nI no), (nI ng), (nI ni), (nI nb), (nI nr), xregionSize, xcounter, me2, xstmtOp, xstmtA, xstmtB, xstmtOwner, xoutRegion, xoutLoaded, xoutGroup, xoutAlign, xoutVma, xoutLma, xoutDot, xgroupStart, xgroupEnd, xgroupResident, xinKind, xinId, xinAlign, xinSize, xinFirstByte, xinStmt, xinLive, xinVma, xfedBytes, xrelocOwner, xrelocOffset, xrelocType, xrelocTarget, xrelocAddend) ((nI R0), (nI R1), 2, (nI ns), (nI no), (nI ng), (nI ni), (nI nb), (nI nr), xopenOut, yinGroup, (nI ni - 1), yfinalC0, yfinalC1, xstmtOp, xstmtA, xstmtB, ystOut, xoutRegion, xoutLoaded, xoutGroup, xoutVma, xoutLma, youtSize, xoutAlign, youtRes, ygStart, ygEnd, xinKind, xinId, xinAlign, yinBss, xinFirstByte, yinLen, xinStmt, xinLive, yinVma, yinLma, xfedBytes, xrelocOwner, xrelocOffset, xrelocType, xrelocTarget, xrelocAddend, yrom, ram2) := ⟨ns, no, ng, ni, nb, nr, R0, R1, 2, xopenOut, xopenGroup, yinGroup, yfinalC0, yfinalC1, xregionSize, xcounter, me2, xstmtOp, xstmtA, xstmtB, xstmtOwner, xoutRegion, xoutLoaded, xoutGroup, xoutAlign, xoutVma, xoutLma, xoutDot, xgroupStart, xgroupEnd, xgroupResident, xinKind, xinId, xinAlign, xinSize, xinFirstByte, xinStmt, xinLive, xinVma, xfedBytes, xrelocOwner, xrelocOffset, xrelocType, xrelocTarget, xrelocAddend, ystOut, youtSize, youtRes, ygStart, ygEnd, yinBss, yinLen, yinVma, yinLma, yrom, ram2, rfl, rfl, hS, hN, hQ, hZ, m2, Or.inr ⟨Or.inr rfl, lk_L_st hL hR.1 (fun j hj => (m2.1 j hj).trans (hM.1 j hj).symm) (by decide)⟩⟩
      exact br_t hp ⟨_, x1 _ ⟨_, x2 _ (br_t hp ⟨_, y1 _ ⟨_, y2 _ ⟨rfl, R⟩⟩⟩)⟩⟩
  · exact br_f hp (br_f hp ⟨rfl, J⟩)
theorem ly_53 {post : Int32 → SY → Prop} {R0 R1 ns no ng ni nb nr : Nat} {yphase yopenOut yinGroup ycur yfinalC0 yfinalC1 : Int32} {ystOp ystA ystB ystOut youtReg youtLoaded youtGroup youtVma youtLma youtSize youtAlign youtRes ygStart ygEnd yinKind yinId yinAlign yinBss yinStart yinLen yinStmt yinLive yinVma yinLma ybytes yrSec yrOff yrType yrTgt yrAdd yrom yram : Nat → Int32} {g j : Nat} (h8 : no ≤ 8) (hj : j < no) (hg4 : g < 4) (h : post 0 ((nI R0), (nI R1), yphase, (nI ns), (nI no), (nI ng), (nI ni), (nI nb), (nI nr), yopenOut, yinGroup, ycur, yfinalC0, yfinalC1, ystOp, ystA, ystB, ystOut, youtReg, youtLoaded, youtGroup, youtVma, youtLma, youtSize, youtAlign, (lk_om youtGroup youtRes g j no), ygStart, ygEnd, yinKind, yinId, yinAlign, yinBss, yinStart, yinLen, yinStmt, yinLive, yinVma, yinLma, ybytes, yrSec, yrOff, yrType, yrTgt, yrAdd, yrom, yram)) : ∃ n, wY_loadOverlay_53 post (nI j) (nI g) (nI R0) (nI R1) yphase (nI ns) (nI no) (nI ng) (nI ni) (nI nb) (nI nr) yopenOut yinGroup ycur yfinalC0 yfinalC1 n 0 ystOp ystA ystB ystOut youtReg youtLoaded youtGroup youtVma youtLma youtSize youtAlign youtRes ygStart ygEnd yinKind yinId yinAlign yinBss yinStart yinLen yinStmt yinLive yinVma yinLma ybytes yrSec yrOff yrType yrTgt yrAdd yrom yram := by
  have H : ∀ d x, x + d = no → wY_loadOverlay_53 post (nI j) (nI g) (nI R0) (nI R1) yphase (nI ns) (nI no) (nI ng) (nI ni) (nI nb) (nI nr) yopenOut yinGroup ycur yfinalC0 yfinalC1 (d + 1) (nI x) ystOp ystA ystB ystOut youtReg youtLoaded youtGroup youtVma youtLma youtSize youtAlign (lk_om youtGroup youtRes g j x) ygStart ygEnd yinKind yinId yinAlign yinBss yinStart yinLen yinStmt yinLive yinVma yinLma ybytes yrSec yrOff yrType yrTgt yrAdd yrom yram := by
    intro d
    induction d with
    | zero =>
      intro x hx
      have e1 : x = no := hx
      subst e1
      exact br_t (nI_le (by omega) (by omega)) h
    | succ d ih =>
      intro x hx
      have e : (nI x).toNatClampNeg = x := nI_clamp (by omega)
      have v8 : vp_in (nI x) 8 := vp_in_nI (by omega) (by omega)
      have hi := ih (x + 1) (by omega)
      refine br_f (nI_ge (by omega) (by omega)) (br_f (nI_ge (b := 8) (by omega) (by omega)) ⟨v8, ?_⟩)
      by_cases a : youtGroup x = nI g
      · refine br_t (by rw [e]; exact a) ?_
        by_cases b : x = j
        · refine br_t (by rw [b]) ⟨v8, nm_r ?_ (nm_r (nI_1 x) hi)⟩
          rw [e]
          exact lk_om_s a (if_pos b).symm
        · refine br_f (by rw [nI_eq (by omega) (by omega)]; exact b) ⟨v8, nm_r ?_ (nm_r (nI_1 x) hi)⟩
          rw [e]
          exact lk_om_s a (if_neg b).symm
      · refine br_f (by rw [e]; exact a) (nm_r (nI_1 x) ?_)
        rw [lk_om_n a] at hi
        exact hi
  have H2 := H no 0 (by omega)
  rw [lk_om_0] at H2
  exact ⟨_, H2⟩
theorem i_vc_loadOverlay {k : Nat} {u : SX} {v : SY} (I : i_Rel k u v) (hk : k + 5 ≤ 2562) (v1 : Int32) : wpX_loadOverlay (fun r u' => wpY_loadOverlay (fun r' v' => r' = r ∧ i_Rel (k + 5) u' v') v v1) u v1 := by
  have J := i_up I
  obtain ⟨ns, no, ng, ni, nb, nr, R0, R1, xphase, xopenOut, xopenGroup, yinGroup, yfinalC0, yfinalC1, xregionSize, xcounter, xmemory, xstmtOp, xstmtA, xstmtB, xstmtOwner, xoutRegion, xoutLoaded, xoutGroup, xoutAlign, xoutVma, xoutLma, xoutDot, xgroupStart, xgroupEnd, xgroupResident, xinKind, xinId, xinAlign, xinSize, xinFirstByte, xinStmt, xinLive, xinVma, xfedBytes, xrelocOwner, xrelocOffset, xrelocType, xrelocTarget, xrelocAddend, ystOut, youtSize, youtRes, ygStart, ygEnd, yinBss, yinLen, yinVma, yinLma, yrom, yram, rfl, rfl, hS, hN, hQ, hZ, hM, hP⟩ := I
  rcases Decidable.em (xphase = 2) with hp | hp
  · rcases hP with ⟨h, _⟩ | ⟨_, hL⟩
    · rw [hp] at h; exact absurd h (by decide)
    · have hof := lk_S_of hS
      obtain ⟨c1, c2, c3, _⟩ := id hS
      have hR : R0 ≤ 128 ∧ R1 ≤ 128 := ⟨hZ.2.2.2.1, hZ.2.2.2.2.2⟩
      have hg : ∀ k, k < no → xoutGroup k = -1 ∨ ∃ g, g < ng ∧ xoutGroup k = nI g := fun k hkn => by
        rcases hof k hkn with ⟨_, _, z⟩ | ⟨_, _, z⟩
        · exact Or.inl z
        · exact z
      obtain ⟨V, L, D, IV, h1, h2, h3, h4, h5, h6, h7, h9⟩ := id hL
      rcases pk_ix v1 (n := no) (by omega) with h | h | ⟨j, hj, rfl⟩
      · exact br_t hp (br_t h (br_t hp (br_t h ⟨rfl, J⟩)))
      · have n0 : ¬ v1 < 0 := Int32.not_lt.mpr (Int32.le_trans (nI_pos' (by omega)) h)
        exact br_t hp (br_f n0 (br_t h (br_t hp (br_f n0 (br_t h ⟨rfl, J⟩)))))
      · have e : (nI j).toNatClampNeg = j := nI_clamp (by omega)
        have v8 : vp_in (nI j) 8 := vp_in_nI (by omega) (by omega)
        have n0 : ¬ nI j < 0 := nI_pos (by omega)
        have n1 : ¬ nI no ≤ nI j := nI_ge hj (by omega)
        rcases hg j hj with z | ⟨g, hgn, z⟩
        · exact br_t hp (br_f n0 (br_f n1 ⟨v8, br_t (by rw [e]; exact z) (br_t hp (br_f n0 (br_f n1 ⟨v8, br_f (by rw [e, z]; decide) ⟨rfl, J⟩⟩)))⟩))
        · have eg : (nI g).toNatClampNeg = g := nI_clamp (by omega)
          have v4 : vp_in (nI g) 4 := vp_in_nI (by omega) (by omega)
          have z' : xoutGroup (nI j).toNatClampNeg = nI g := by rw [e]; exact z
          have nz : ¬ xoutGroup (nI j).toNatClampNeg = -1 := by rw [z']; exact lk_nn1 (by omega)
          have nl : 0 ≤ xoutGroup (nI j).toNatClampNeg := by rw [z']; exact nI_pos' (by omega)
          have r1 : xoutRegion j = 1 := by
            rcases hof j hj with ⟨_, _, y⟩ | ⟨y, _⟩
            · rw [z] at y; exact absurd y (lk_nn1 (by omega))
            · exact y
          obtain ⟨a, b, s1, s2, s3, s4, s5, s6, s7, s8⟩ := h3 g hgn
          obtain ⟨t1, t2, t3, t4, t5, t6, t7, t8⟩ := h2 j hj
          obtain ⟨t9, t10⟩ := t6 r1
          have hl8 : xoutLoaded j = 1 → L j + (D j - V j) ≤ 128 := fun y => by have := t8 y; omega
          have m2 := lk_M_ls (d := D j) (ld := xoutLoaded j) (lk_M_zs (b := b) hM s5) t9 hl8
          refine br_t hp (br_f n0 (br_f n1 ⟨v8, br_f nz ⟨v8, nm_r z' ⟨v4, v4, lx_fill3 (by rw [eg, s1]) (by rw [eg, s3]) (by omega) (by omega) (lx_ini (by omega) t1 t3 t2 t5 t9 (by omega) hl8 ⟨v4, nm_r (e' := upd xgroupResident g (nI j)) (by rw [eg]) ?_⟩)⟩⟩⟩))
          refine br_t hp (br_f n0 (br_f n1 ⟨v8, br_t nl ⟨v8, nm_r z' (ly_zs rfl (by omega) s2 s4 s5 s6 s7 s8 hR.2 (ly_ls (v := V j) (l := L j) (S := D j - V j) (by omega) t1 t2 t4 t9 (by omega) hR.2 hl8 (ly_53 c2 hj (by omega) ⟨rfl, ?_⟩)))⟩⟩))
          rw [show D j - 256 = V j + (D j - V j) - 256 by omega] at m2
          exact ⟨ns, no, ng, ni, nb, nr, R0, R1, xphase, xopenOut, xopenGroup, yinGroup, yfinalC0, yfinalC1, xregionSize, xcounter, _, xstmtOp, xstmtA, xstmtB, xstmtOwner, xoutRegion, xoutLoaded, xoutGroup, xoutAlign, xoutVma, xoutLma, xoutDot, xgroupStart, xgroupEnd, _, xinKind, xinId, xinAlign, xinSize, xinFirstByte, xinStmt, xinLive, xinVma, xfedBytes, xrelocOwner, xrelocOffset, xrelocType, xrelocTarget, xrelocAddend, ystOut, youtSize, _, ygStart, ygEnd, yinBss, yinLen, yinVma, yinLma, yrom, _, rfl, rfl, hS, hN, hQ, hZ, m2, Or.inr ⟨Or.inr hp, lk_L_ov hL hR.1 (fun i hi => (m2.1 i hi).trans (hM.1 i hi).symm) (by rw [hp]; decide) c2 c3 hg hj hgn z⟩⟩
  · exact br_f hp (br_f hp ⟨rfl, J⟩)
end
