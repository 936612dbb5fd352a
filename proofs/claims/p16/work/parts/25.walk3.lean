
section
theorem lk_w_loop {ns no ng ni nb nr : Nat} {xphase xopenOut xopenGroup : Int32} {xregionSize xcounter xmemory xstmtOp xstmtA xstmtB xstmtOwner xoutRegion xoutLoaded xoutGroup xoutAlign xoutVma xoutLma xoutDot xgroupStart xgroupEnd xgroupResident xinKind xinId xinAlign xinSize xinFirstByte xinStmt xinLive xinVma xfedBytes xrelocOwner xrelocOffset xrelocType xrelocTarget xrelocAddend ystOut youtSize ygStart ygEnd yinBss yinLen yinVma yinLma : Nat → Int32} {i C0 C1 : Nat} {V L G0 GE : Nat → Nat} {c0 c1 g0 yge grp kk vma lma ing : Int32} (hN : lk_N ni nb xinKind xinAlign xinSize xinFirstByte yinBss yinLen) (hi : i < 32) (hc : lk_nc xstmtOp i < 8) (eox : xstmtOwner i = nI (lk_nc xstmtOp i)) : ∀ d t, t + d = ni → ∀ (D IV : Nat → Nat) (dt xv yv yl : Nat → Int32) (dot : Int32), lk_WP ni xstmtOp xoutRegion xoutLoaded xinStmt xinLive (fun s => (xstmtOwner (xinStmt s).toNatClampNeg).toNatClampNeg) (fun s => (xinSize s).toNatClampNeg) i t C0 C1 V L D G0 GE IV xcounter xoutVma xoutLma dt xgroupStart xgroupEnd xv youtSize ygStart ygEnd yv yl c0 c1 g0 yge grp kk dot vma lma ing →
    ∃ (D' IV' : Nat → Nat) (dt' xv' yv' yl' : Nat → Int32) (dot' : Int32), lk_WP ni xstmtOp xoutRegion xoutLoaded xinStmt xinLive (fun s => (xstmtOwner (xinStmt s).toNatClampNeg).toNatClampNeg) (fun s => (xinSize s).toNatClampNeg) i ni C0 C1 V L D' G0 GE IV' xcounter xoutVma xoutLma dt' xgroupStart xgroupEnd xv' youtSize ygStart ygEnd yv' yl' c0 c1 g0 yge grp kk dot' vma lma ing ∧ (∀ k, k ≠ lk_nc xstmtOp i → D' k = D k) ∧
      (∀ post : St2 → Prop, post (xphase, (nI ns), xopenOut, xopenGroup, (nI no), (nI ng), (nI ni), (nI nb), (nI nr), xregionSize, xcounter, xmemory, xstmtOp, xstmtA, xstmtB, xstmtOwner, xoutRegion, xoutLoaded, xoutGroup, xoutAlign, xoutVma, xoutLma, dt', xgroupStart, xgroupEnd, xgroupResident, xinKind, xinId, xinAlign, xinSize, xinFirstByte, xinStmt, xinLive, xv', xfedBytes, xrelocOwner, xrelocOffset, xrelocType, xrelocTarget, xrelocAddend) → wX_placeInputs_9 post (nI i) (nI (lk_nc xstmtOp i)) xphase (nI ns) xopenOut xopenGroup (nI no) (nI ng) (nI ni) (nI nb) (nI nr) (d + 1) (nI t) xregionSize xcounter xmemory xstmtOp xstmtA xstmtB xstmtOwner xoutRegion xoutLoaded xoutGroup xoutAlign xoutVma xoutLma dt xgroupStart xgroupEnd xgroupResident xinKind xinId xinAlign xinSize xinFirstByte xinStmt xinLive xv xfedBytes xrelocOwner xrelocOffset xrelocType xrelocTarget xrelocAddend) := by
  have h16 := hN.1
  have ei : (nI i).toNatClampNeg = i := nI_clamp (by omega)
  intro d
  induction d with
  | zero =>
    intro t ht D IV dt xv yv yl dot h
    have e1 : t = ni := ht
    subst e1
    exact ⟨D, IV, dt, xv, yv, yl, dot, h, fun _ _ => rfl, fun post hp => br_t (nI_le (by omega) (by omega)) hp⟩
  | succ d ih =>
    intro t ht D IV dt xv yv yl dot h
    have e : (nI t).toNatClampNeg = t := nI_clamp (by omega)
    have v : vp_in (nI t) 16 := vp_in_nI (by omega) (by omega)
    have n1 : ¬ nI ni ≤ nI t := nI_ge (by omega) (by omega)
    have n2 : ¬ (16 : Int32) ≤ nI t := nI_ge (b := 16) (by omega) (by omega)
    by_cases a : xinLive (nI t).toNatClampNeg = 1
    · by_cases b : xinStmt (nI t).toNatClampNeg = nI i
      · obtain ⟨A, T, Z, Q, d1, d2, d3, d4, d5, d6, d7⟩ := hN.2.2 t (by omega)
        have hb := hN.2.1
        have hQ : Q ≤ 256 := by rcases d7 with ⟨_, _, z, _⟩ | ⟨_, z⟩ <;> omega
        have h2 := h
        unfold lk_WP at h2
        obtain ⟨⟨_, g4, _⟩, _, w8, _, _, _, _, _, w9, _⟩ := h2
        have hD := (g4 (lk_nc xstmtOp i) (by omega)).2.1
        have edt := (w8 (lk_nc xstmtOp i) (by omega)).2.2
        have edot := (w9 (by omega)).2.1
        have hx := lk_al_b (x := D (lk_nc xstmtOp i)) d1
        have b' : xinStmt t = nI i := by rw [e] at b; exact b
        have esz : (xinSize t).toNatClampNeg = Q := by rw [d6, nI_clamp (by omega)]
        have h3 := lk_WP_s (x := lk_al (D (lk_nc xstmtOp i)) A) h (by omega) b' (show (xstmtOwner (xinStmt t).toNatClampNeg).toNatClampNeg = lk_nc xstmtOp i by rw [b', ei, eox, nI_clamp (by omega)]) hx.1 hx.2 (show (xinSize t).toNatClampNeg ≤ 256 by rw [esz]; exact hQ)
        rw [esz] at h3
        obtain ⟨D', IV', dt', xv', yv', yl', dot', k1, kD, k2⟩ := ih (t + 1) (by omega) _ _ _ _ _ _ _ h3
        have ec : (nI (lk_nc xstmtOp i)).toNatClampNeg = lk_nc xstmtOp i := nI_clamp (by omega)
        have vc : vp_in (nI (lk_nc xstmtOp i)) 8 := vp_in_nI hc (by omega)
        refine ⟨D', IV', dt', xv', yv', yl', dot', k1, fun k hk => (kD k hk).trans (lk_upn hk), fun post hp => ?_⟩
        · refine br_f n1 ⟨v, br_t a ⟨v, br_t b ⟨vc, v, lx_al2 (by rw [ec, edt]) (by rw [e, d2]) d1 (by omega) ⟨v, nm_r (e' := upd xv t (nI (lk_al (D (lk_nc xstmtOp i)) A))) (by rw [e]) ⟨v, v, vc, nm_r (e' := upd dt (lk_nc xstmtOp i) (nI (lk_al (D (lk_nc xstmtOp i)) A + Q))) ?_ (nm_r (nI_1 t) (k2 post hp))⟩⟩⟩⟩⟩
          rw [e, ec, pk_us, d6, nI_add]
      · have h3 := lk_WP_n h (fun z => b (by rw [e]; exact z.2))
        obtain ⟨D', IV', dt', xv', yv', yl', dot', k1, kD, k2⟩ := ih (t + 1) (by omega) _ _ _ _ _ _ _ h3
        exact ⟨D', IV', dt', xv', yv', yl', dot', k1, kD, fun post hp => br_f n1 ⟨v, br_t a ⟨v, br_f b (nm_r (nI_1 t) (k2 post hp))⟩⟩⟩
    · have h3 := lk_WP_n h (fun z => a (by rw [e]; exact z.1))
      obtain ⟨D', IV', dt', xv', yv', yl', dot', k1, kD, k2⟩ := ih (t + 1) (by omega) _ _ _ _ _ _ _ h3
      exact ⟨D', IV', dt', xv', yv', yl', dot', k1, kD, fun post hp => br_f n1 ⟨v, br_f a (nm_r (nI_1 t) (k2 post hp))⟩⟩
theorem lk_w_inp {ns no ng ni nb nr : Nat} {xphase xopenOut xopenGroup : Int32} {xregionSize xcounter xmemory xstmtOp xstmtA xstmtB xstmtOwner xoutRegion xoutLoaded xoutGroup xoutAlign xoutVma xoutLma xoutDot xgroupStart xgroupEnd xgroupResident xinKind xinId xinAlign xinSize xinFirstByte xinStmt xinLive xinVma xfedBytes xrelocOwner xrelocOffset xrelocType xrelocTarget xrelocAddend ystOut youtSize ygStart ygEnd yinBss yinLen yinVma yinLma : Nat → Int32} {i C0 C1 : Nat} {V L D G0 GE IV : Nat → Nat} {c0 c1 g0 yge grp kk dot vma lma ing : Int32} (hS : ∀ i, i < ns → lk_sc xstmtOp xstmtA xstmtB xstmtOwner ystOut xoutRegion xoutLoaded xoutGroup i) (hno : no = lk_no xstmtOp ns) (hng : ng = lk_ng xstmtOp ns) (h8 : no ≤ 8) (h4 : ng ≤ 4) (hN : lk_N ni nb xinKind xinAlign xinSize xinFirstByte yinBss yinLen) (hA : lk_hA ni ns xstmtOp xinStmt xinLive) (hl : lk_hl ni no ns xinStmt xinLive xstmtOwner ystOut) (hi : i < ns) (hW : lk_WI ni xstmtOp xoutRegion xoutLoaded xinStmt xinLive (fun s => (xstmtOwner (xinStmt s).toNatClampNeg).toNatClampNeg) (fun s => (xinSize s).toNatClampNeg) i C0 C1 V L D G0 GE IV xcounter xoutVma xoutLma xoutDot xgroupStart xgroupEnd xinVma youtSize ygStart ygEnd yinVma yinLma c0 c1 g0 yge grp kk dot vma lma ing) (hU : lk_U xstmtOp xoutRegion xoutGroup i C1 V D G0 GE) (ho : xstmtOp i = 3 ∨ xstmtOp i = 4) : ∃ (C0' C1' : Nat) (V' L' D' G0' GE' IV' : Nat → Nat) (ct oa vm lm dt gs ge xv os yg0 yg1 yv yl : Nat → Int32) (d0 d1 d2 d3 d4 d5 d6 d7 d8 d9 : Int32), lk_WI ni xstmtOp xoutRegion xoutLoaded xinStmt xinLive (fun s => (xstmtOwner (xinStmt s).toNatClampNeg).toNatClampNeg) (fun s => (xinSize s).toNatClampNeg) (i + 1) C0' C1' V' L' D' G0' GE' IV' ct vm lm dt gs ge xv os yg0 yg1 yv yl d0 d1 d2 d3 d4 d5 d6 d7 d8 d9 ∧ lk_U xstmtOp xoutRegion xoutGroup (i + 1) C1' V' D' G0' GE' ∧ (∀ post : Int32 → St2 → Prop, post 1 (xphase, (nI ns), xopenOut, xopenGroup, (nI no), (nI ng), (nI ni), (nI nb), (nI nr), xregionSize, ct, xmemory, xstmtOp, xstmtA, xstmtB, xstmtOwner, xoutRegion, xoutLoaded, xoutGroup, oa, vm, lm, dt, gs, ge, xgroupResident, xinKind, xinId, xinAlign, xinSize, xinFirstByte, xinStmt, xinLive, xv, xfedBytes, xrelocOwner, xrelocOffset, xrelocType, xrelocTarget, xrelocAddend) → wpX_place post (xphase, (nI ns), xopenOut, xopenGroup, (nI no), (nI ng), (nI ni), (nI nb), (nI nr), xregionSize, xcounter, xmemory, xstmtOp, xstmtA, xstmtB, xstmtOwner, xoutRegion, xoutLoaded, xoutGroup, xoutAlign, xoutVma, xoutLma, xoutDot, xgroupStart, xgroupEnd, xgroupResident, xinKind, xinId, xinAlign, xinSize, xinFirstByte, xinStmt, xinLive, xinVma, xfedBytes, xrelocOwner, xrelocOffset, xrelocType, xrelocTarget, xrelocAddend) (nI i)) := by
  have n32 := hA.1
  have e : (nI i).toNatClampNeg = i := nI_clamp (by omega)
  have vi : vp_in (nI i) 32 := vp_in_nI (by omega) (by omega)
  obtain ⟨his, _, nm, eox, _⟩ := lk_S_i hS hi ho
  have hnt := lk_nc_t his
  rw [← hno] at nm
  rw [show lk_no xstmtOp i - 1 = lk_nc xstmtOp i by omega] at eox
  obtain ⟨D', IV', dt', xv', yv', yl', dot', k1, kD, k2⟩ := lk_w_loop (nr := nr) (ns := ns) (no := no) (ng := ng) (xphase := xphase) (xopenOut := xopenOut) (xopenGroup := xopenGroup) (xregionSize := xregionSize) (xmemory := xmemory) (xstmtA := xstmtA) (xstmtB := xstmtB) (xoutGroup := xoutGroup) (xoutAlign := xoutAlign) (xoutDot := xoutDot) (xgroupResident := xgroupResident) (xinId := xinId) (xinVma := xinVma) (xfedBytes := xfedBytes) (xrelocOwner := xrelocOwner) (xrelocOffset := xrelocOffset) (xrelocType := xrelocType) (xrelocTarget := xrelocTarget) (xrelocAddend := xrelocAddend) (ystOut := ystOut) (yinVma := yinVma) (yinLma := yinLma) hN (by omega) (by omega) eox ni 0 (by omega) D IV xoutDot xinVma yinVma yinLma dot (lk_WP_0 hW his)
  have W1 := lk_WP_e k1 hN.1 ho his
  refine ⟨_, _, _, _, _, _, _, _, _, xoutAlign, _, _, _, _, _, _, _, _, _, _, _, _, _, _, _, _, _, _, _, _, _, W1, lk_U_D hU (ho.elim Or.inl (fun z => Or.inr (Or.inl z))) his kD, fun post hp => ?_⟩
  · have hx : wX_place_78 post (nI i) xphase (nI ns) xopenOut xopenGroup (nI no) (nI ng) (nI ni) (nI nb) (nI nr) xregionSize xcounter xmemory xstmtOp xstmtA xstmtB xstmtOwner xoutRegion xoutLoaded xoutGroup xoutAlign xoutVma xoutLma xoutDot xgroupStart xgroupEnd xgroupResident xinKind xinId xinAlign xinSize xinFirstByte xinStmt xinLive xinVma xfedBytes xrelocOwner xrelocOffset xrelocType xrelocTarget xrelocAddend := ⟨vi, nm_r (e' := nI (lk_nc xstmtOp i)) (by rw [e, eox]) ⟨_, k2 _ hp⟩⟩
    rcases ho with ho | ho
    · exact ⟨vi, nm_e ⟨vi, nm_r (e' := 3) (by rw [e, ho]) (br_f (by decide) (br_f (by decide) (br_f (by decide) (br_f (by decide) (br_t rfl hx)))))⟩⟩
    · exact ⟨vi, nm_e ⟨vi, nm_r (e' := 4) (by rw [e, ho]) (br_f (by decide) (br_f (by decide) (br_f (by decide) (br_f (by decide) (br_f (by decide) (br_t rfl hx))))))⟩⟩
end
