
section
theorem lk_w_ovl {ns no ng ni nb nr : Nat} {xphase xopenOut xopenGroup : Int32} {xregionSize xcounter xmemory xstmtOp xstmtA xstmtB xstmtOwner xoutRegion xoutLoaded xoutGroup xoutAlign xoutVma xoutLma xoutDot xgroupStart xgroupEnd xgroupResident xinKind xinId xinAlign xinSize xinFirstByte xinStmt xinLive xinVma xfedBytes xrelocOwner xrelocOffset xrelocType xrelocTarget xrelocAddend ystOut youtSize ygStart ygEnd yinBss yinLen yinVma yinLma : Nat → Int32} {i C0 C1 : Nat} {V L D G0 GE IV : Nat → Nat} {c0 c1 g0 yge grp kk dot vma lma ing : Int32} (hS : ∀ i, i < ns → lk_sc xstmtOp xstmtA xstmtB xstmtOwner ystOut xoutRegion xoutLoaded xoutGroup i) (hno : no = lk_no xstmtOp ns) (hng : ng = lk_ng xstmtOp ns) (h8 : no ≤ 8) (h4 : ng ≤ 4) (hN : lk_N ni nb xinKind xinAlign xinSize xinFirstByte yinBss yinLen) (hA : lk_hA ni ns xstmtOp xinStmt xinLive) (hl : lk_hl ni no ns xinStmt xinLive xstmtOwner ystOut) (hi : i < ns) (hW : lk_WI ni xstmtOp xoutRegion xoutLoaded xinStmt xinLive (fun s => (xstmtOwner (xinStmt s).toNatClampNeg).toNatClampNeg) (fun s => (xinSize s).toNatClampNeg) i C0 C1 V L D G0 GE IV xcounter xoutVma xoutLma xoutDot xgroupStart xgroupEnd xinVma youtSize ygStart ygEnd yinVma yinLma c0 c1 g0 yge grp kk dot vma lma ing) (hU : lk_U xstmtOp xoutRegion xoutGroup i C1 V D G0 GE) (ho : xstmtOp i = 8) : ∃ (C0' C1' : Nat) (V' L' D' G0' GE' IV' : Nat → Nat) (ct oa vm lm dt gs ge xv os yg0 yg1 yv yl : Nat → Int32) (d0 d1 d2 d3 d4 d5 d6 d7 d8 d9 : Int32), lk_WI ni xstmtOp xoutRegion xoutLoaded xinStmt xinLive (fun s => (xstmtOwner (xinStmt s).toNatClampNeg).toNatClampNeg) (fun s => (xinSize s).toNatClampNeg) (i + 1) C0' C1' V' L' D' G0' GE' IV' ct vm lm dt gs ge xv os yg0 yg1 yv yl d0 d1 d2 d3 d4 d5 d6 d7 d8 d9 ∧ lk_U xstmtOp xoutRegion xoutGroup (i + 1) C1' V' D' G0' GE' ∧ (∀ post : Int32 → St2 → Prop, post 1 (xphase, (nI ns), xopenOut, xopenGroup, (nI no), (nI ng), (nI ni), (nI nb), (nI nr), xregionSize, ct, xmemory, xstmtOp, xstmtA, xstmtB, xstmtOwner, xoutRegion, xoutLoaded, xoutGroup, oa, vm, lm, dt, gs, ge, xgroupResident, xinKind, xinId, xinAlign, xinSize, xinFirstByte, xinStmt, xinLive, xv, xfedBytes, xrelocOwner, xrelocOffset, xrelocType, xrelocTarget, xrelocAddend) → wpX_place post (xphase, (nI ns), xopenOut, xopenGroup, (nI no), (nI ng), (nI ni), (nI nb), (nI nr), xregionSize, xcounter, xmemory, xstmtOp, xstmtA, xstmtB, xstmtOwner, xoutRegion, xoutLoaded, xoutGroup, xoutAlign, xoutVma, xoutLma, xoutDot, xgroupStart, xgroupEnd, xgroupResident, xinKind, xinId, xinAlign, xinSize, xinFirstByte, xinStmt, xinLive, xinVma, xfedBytes, xrelocOwner, xrelocOffset, xrelocType, xrelocTarget, xrelocAddend) (nI i)) := by
  have n32 := hA.1
  have e : (nI i).toNatClampNeg = i := nI_clamp (by omega)
  have vi : vp_in (nI i) 32 := vp_in_nI (by omega) (by omega)
  have nglt := lk_ng_m (op := xstmtOp) (i := i + 1) (ns - (i + 1))
  rw [show i + 1 + (ns - (i + 1)) = ns by omega, ← hng] at nglt
  rw [lk_ng_s, ho, if_pos rfl] at nglt
  have sc : lk_is xstmtOp i = false ∧ lk_ig xstmtOp i = false ∧ xstmtOwner i = nI (lk_ng xstmtOp i) := by
    rcases hS i hi with ⟨h, _⟩ | ⟨h | h | h, _⟩ | ⟨h | h | h, _⟩ | ⟨_, h⟩ | ⟨h, _⟩
    case inr.inr.inr.inl => exact h
    all_goals rw [ho] at h; exact absurd h (by decide)
  obtain ⟨his, hig, eox⟩ := sc
  have hW2 := hW
  unfold lk_WI at hW2
  obtain ⟨_, ⟨w1, w2, w3, w4⟩, _, _, _, _, _, ⟨_, w6, _⟩, _⟩ := hW2
  have W1 := lk_V_ovl hW hA hi ho his hig
  have vg : vp_in (nI (lk_ng xstmtOp i)) 4 := vp_in_nI (by omega) (by omega)
  have eg : (nI (lk_ng xstmtOp i)).toNatClampNeg = lk_ng xstmtOp i := nI_clamp (by omega)
  refine ⟨_, _, _, _, _, _, _, _, _, xoutAlign, _, _, _, _, _, _, _, _, _, _, _, _, _, _, _, _, _, _, _, _, _, W1, lk_U_ovl hU ho his hig (by omega) (lk_S_oi hS i (by omega)), fun post hp => ?_⟩
  · exact ⟨vi, nm_r (e' := nI (lk_ng xstmtOp i)) (by rw [e, eox]) ⟨vi, nm_r (e' := 8) (by rw [e, ho]) (br_f (by decide) (br_f (by decide) (br_f (by decide) (br_f (by decide) (br_f (by decide) (br_f (by decide) (br_f (by decide) (br_f (by decide) (br_f (by decide) (br_t rfl ⟨vg, nm_r (by rw [eg, w2]) ⟨vg, nm_r (by rw [eg, w2]) hp⟩⟩))))))))))⟩⟩
theorem lk_w_ove {ns no ng ni nb nr : Nat} {xphase xopenOut xopenGroup : Int32} {xregionSize xcounter xmemory xstmtOp xstmtA xstmtB xstmtOwner xoutRegion xoutLoaded xoutGroup xoutAlign xoutVma xoutLma xoutDot xgroupStart xgroupEnd xgroupResident xinKind xinId xinAlign xinSize xinFirstByte xinStmt xinLive xinVma xfedBytes xrelocOwner xrelocOffset xrelocType xrelocTarget xrelocAddend ystOut youtSize ygStart ygEnd yinBss yinLen yinVma yinLma : Nat → Int32} {i C0 C1 : Nat} {V L D G0 GE IV : Nat → Nat} {c0 c1 g0 yge grp kk dot vma lma ing : Int32} (hS : ∀ i, i < ns → lk_sc xstmtOp xstmtA xstmtB xstmtOwner ystOut xoutRegion xoutLoaded xoutGroup i) (hno : no = lk_no xstmtOp ns) (hng : ng = lk_ng xstmtOp ns) (h8 : no ≤ 8) (h4 : ng ≤ 4) (hN : lk_N ni nb xinKind xinAlign xinSize xinFirstByte yinBss yinLen) (hA : lk_hA ni ns xstmtOp xinStmt xinLive) (hl : lk_hl ni no ns xinStmt xinLive xstmtOwner ystOut) (hi : i < ns) (hW : lk_WI ni xstmtOp xoutRegion xoutLoaded xinStmt xinLive (fun s => (xstmtOwner (xinStmt s).toNatClampNeg).toNatClampNeg) (fun s => (xinSize s).toNatClampNeg) i C0 C1 V L D G0 GE IV xcounter xoutVma xoutLma xoutDot xgroupStart xgroupEnd xinVma youtSize ygStart ygEnd yinVma yinLma c0 c1 g0 yge grp kk dot vma lma ing) (hU : lk_U xstmtOp xoutRegion xoutGroup i C1 V D G0 GE) (ho : xstmtOp i = 9) : ∃ (C0' C1' : Nat) (V' L' D' G0' GE' IV' : Nat → Nat) (ct oa vm lm dt gs ge xv os yg0 yg1 yv yl : Nat → Int32) (d0 d1 d2 d3 d4 d5 d6 d7 d8 d9 : Int32), lk_WI ni xstmtOp xoutRegion xoutLoaded xinStmt xinLive (fun s => (xstmtOwner (xinStmt s).toNatClampNeg).toNatClampNeg) (fun s => (xinSize s).toNatClampNeg) (i + 1) C0' C1' V' L' D' G0' GE' IV' ct vm lm dt gs ge xv os yg0 yg1 yv yl d0 d1 d2 d3 d4 d5 d6 d7 d8 d9 ∧ lk_U xstmtOp xoutRegion xoutGroup (i + 1) C1' V' D' G0' GE' ∧ (∀ post : Int32 → St2 → Prop, post 1 (xphase, (nI ns), xopenOut, xopenGroup, (nI no), (nI ng), (nI ni), (nI nb), (nI nr), xregionSize, ct, xmemory, xstmtOp, xstmtA, xstmtB, xstmtOwner, xoutRegion, xoutLoaded, xoutGroup, oa, vm, lm, dt, gs, ge, xgroupResident, xinKind, xinId, xinAlign, xinSize, xinFirstByte, xinStmt, xinLive, xv, xfedBytes, xrelocOwner, xrelocOffset, xrelocType, xrelocTarget, xrelocAddend) → wpX_place post (xphase, (nI ns), xopenOut, xopenGroup, (nI no), (nI ng), (nI ni), (nI nb), (nI nr), xregionSize, xcounter, xmemory, xstmtOp, xstmtA, xstmtB, xstmtOwner, xoutRegion, xoutLoaded, xoutGroup, xoutAlign, xoutVma, xoutLma, xoutDot, xgroupStart, xgroupEnd, xgroupResident, xinKind, xinId, xinAlign, xinSize, xinFirstByte, xinStmt, xinLive, xinVma, xfedBytes, xrelocOwner, xrelocOffset, xrelocType, xrelocTarget, xrelocAddend) (nI i)) := by
  have n32 := hA.1
  have e : (nI i).toNatClampNeg = i := nI_clamp (by omega)
  have vi : vp_in (nI i) 32 := vp_in_nI (by omega) (by omega)
  have nglt := lk_ng_m (op := xstmtOp) (i := i) (ns - i)
  rw [show i + (ns - i) = ns by omega, ← hng] at nglt
  have sc : lk_is xstmtOp i = false ∧ lk_ig xstmtOp i = true ∧ xstmtOwner i = nI (lk_ng xstmtOp i - 1) := by
    rcases hS i hi with ⟨h, _⟩ | ⟨h | h | h, _⟩ | ⟨h | h | h, _⟩ | ⟨h, _⟩ | ⟨_, h⟩
    case inr.inr.inr.inr => exact h
    all_goals rw [ho] at h; exact absurd h (by decide)
  obtain ⟨his, hig, eox⟩ := sc
  have hW2 := hW
  unfold lk_WI at hW2
  obtain ⟨_, ⟨w1, w2, w3, w4⟩, _, _, w5, _, _, ⟨_, w6, w7⟩, _⟩ := hW2
  obtain ⟨g, hg⟩ : ∃ g, lk_ng xstmtOp i = g + 1 := ⟨lk_ng xstmtOp i - 1, by have := (w7 hig).1; omega⟩
  have W1 := lk_V_ove hW hA hi ho his hig hg
  have ege := (w5 g (by omega)).2
  rw [hg, Nat.add_sub_cancel] at eox
  rw [hg, nI_pred] at w6
  have vg : vp_in (nI g) 4 := vp_in_nI (by omega) (by omega)
  have eg : (nI g).toNatClampNeg = g := nI_clamp (by omega)
  refine ⟨_, _, _, _, _, _, _, _, _, xoutAlign, _, _, _, _, _, _, _, _, _, _, _, _, _, _, _, _, _, _, _, _, _, W1, lk_U_ove hU ho his hig hg, fun post hp => ?_⟩
  · exact ⟨vi, nm_r (e' := nI g) (by rw [e, eox]) ⟨vi, nm_r (e' := 9) (by rw [e, ho]) (br_f (by decide) (br_f (by decide) (br_f (by decide) (br_f (by decide) (br_f (by decide) (br_f (by decide) (br_f (by decide) (br_f (by decide) (br_f (by decide) (br_f (by decide) (br_t rfl ⟨vg, nm_r (by rw [eg, ege]) hp⟩)))))))))))⟩⟩
theorem lk_w_d5 {ns no ng ni nb nr : Nat} {xphase xopenOut xopenGroup : Int32} {xregionSize xcounter xmemory xstmtOp xstmtA xstmtB xstmtOwner xoutRegion xoutLoaded xoutGroup xoutAlign xoutVma xoutLma xoutDot xgroupStart xgroupEnd xgroupResident xinKind xinId xinAlign xinSize xinFirstByte xinStmt xinLive xinVma xfedBytes xrelocOwner xrelocOffset xrelocType xrelocTarget xrelocAddend ystOut youtSize ygStart ygEnd yinBss yinLen yinVma yinLma : Nat → Int32} {i C0 C1 : Nat} {V L D G0 GE IV : Nat → Nat} {c0 c1 g0 yge grp kk dot vma lma ing : Int32} (hS : ∀ i, i < ns → lk_sc xstmtOp xstmtA xstmtB xstmtOwner ystOut xoutRegion xoutLoaded xoutGroup i) (hno : no = lk_no xstmtOp ns) (hng : ng = lk_ng xstmtOp ns) (h8 : no ≤ 8) (h4 : ng ≤ 4) (hN : lk_N ni nb xinKind xinAlign xinSize xinFirstByte yinBss yinLen) (hA : lk_hA ni ns xstmtOp xinStmt xinLive) (hl : lk_hl ni no ns xinStmt xinLive xstmtOwner ystOut) (hi : i < ns) (hW : lk_WI ni xstmtOp xoutRegion xoutLoaded xinStmt xinLive (fun s => (xstmtOwner (xinStmt s).toNatClampNeg).toNatClampNeg) (fun s => (xinSize s).toNatClampNeg) i C0 C1 V L D G0 GE IV xcounter xoutVma xoutLma xoutDot xgroupStart xgroupEnd xinVma youtSize ygStart ygEnd yinVma yinLma c0 c1 g0 yge grp kk dot vma lma ing) (hU : lk_U xstmtOp xoutRegion xoutGroup i C1 V D G0 GE) (ho : xstmtOp i = 5) : (∃ (C0' C1' : Nat) (V' L' D' G0' GE' IV' : Nat → Nat) (ct oa vm lm dt gs ge xv os yg0 yg1 yv yl : Nat → Int32) (d0 d1 d2 d3 d4 d5 d6 d7 d8 d9 : Int32), lk_WI ni xstmtOp xoutRegion xoutLoaded xinStmt xinLive (fun s => (xstmtOwner (xinStmt s).toNatClampNeg).toNatClampNeg) (fun s => (xinSize s).toNatClampNeg) (i + 1) C0' C1' V' L' D' G0' GE' IV' ct vm lm dt gs ge xv os yg0 yg1 yv yl d0 d1 d2 d3 d4 d5 d6 d7 d8 d9 ∧ lk_U xstmtOp xoutRegion xoutGroup (i + 1) C1' V' D' G0' GE' ∧ (∀ post : Int32 → St2 → Prop, post 1 (xphase, (nI ns), xopenOut, xopenGroup, (nI no), (nI ng), (nI ni), (nI nb), (nI nr), xregionSize, ct, xmemory, xstmtOp, xstmtA, xstmtB, xstmtOwner, xoutRegion, xoutLoaded, xoutGroup, oa, vm, lm, dt, gs, ge, xgroupResident, xinKind, xinId, xinAlign, xinSize, xinFirstByte, xinStmt, xinLive, xv, xfedBytes, xrelocOwner, xrelocOffset, xrelocType, xrelocTarget, xrelocAddend) → wpX_place post (xphase, (nI ns), xopenOut, xopenGroup, (nI no), (nI ng), (nI ni), (nI nb), (nI nr), xregionSize, xcounter, xmemory, xstmtOp, xstmtA, xstmtB, xstmtOwner, xoutRegion, xoutLoaded, xoutGroup, xoutAlign, xoutVma, xoutLma, xoutDot, xgroupStart, xgroupEnd, xgroupResident, xinKind, xinId, xinAlign, xinSize, xinFirstByte, xinStmt, xinLive, xinVma, xfedBytes, xrelocOwner, xrelocOffset, xrelocType, xrelocTarget, xrelocAddend) (nI i))) ∨ (∀ post : Int32 → St2 → Prop, post 0 (xphase, (nI ns), xopenOut, xopenGroup, (nI no), (nI ng), (nI ni), (nI nb), (nI nr), xregionSize, xcounter, xmemory, xstmtOp, xstmtA, xstmtB, xstmtOwner, xoutRegion, xoutLoaded, xoutGroup, xoutAlign, xoutVma, xoutLma, xoutDot, xgroupStart, xgroupEnd, xgroupResident, xinKind, xinId, xinAlign, xinSize, xinFirstByte, xinStmt, xinLive, xinVma, xfedBytes, xrelocOwner, xrelocOffset, xrelocType, xrelocTarget, xrelocAddend) → wpX_place post (xphase, (nI ns), xopenOut, xopenGroup, (nI no), (nI ng), (nI ni), (nI nb), (nI nr), xregionSize, xcounter, xmemory, xstmtOp, xstmtA, xstmtB, xstmtOwner, xoutRegion, xoutLoaded, xoutGroup, xoutAlign, xoutVma, xoutLma, xoutDot, xgroupStart, xgroupEnd, xgroupResident, xinKind, xinId, xinAlign, xinSize, xinFirstByte, xinStmt, xinLive, xinVma, xfedBytes, xrelocOwner, xrelocOffset, xrelocType, xrelocTarget, xrelocAddend) (nI i)) := by
  have n32 := hA.1
  have e : (nI i).toNatClampNeg = i := nI_clamp (by omega)
  have vi : vp_in (nI i) 32 := vp_in_nI (by omega) (by omega)
  have sc : (∃ x, x ≤ 1023 ∧ xstmtA i = nI x ∧ (xstmtOp i = 7 → lk_A x)) ∧ ((lk_is xstmtOp i = true ∧ xstmtOwner i = nI (lk_no xstmtOp i - 1) ∧ ystOut i = nI (lk_no xstmtOp i - 1)) ∨ (lk_is xstmtOp i = false ∧ lk_ig xstmtOp i = false ∧ xstmtOwner i = -1 ∧ ystOut i = -1 ∧ (xstmtB i = 0 ∨ xstmtB i = 1))) := by
    rcases hS i hi with ⟨h, _⟩ | ⟨h | h | h, _⟩ | ⟨_, h⟩ | ⟨h, _⟩ | ⟨h, _⟩
    case inr.inr.inl => exact h
    all_goals rw [ho] at h; exact absurd h (by decide)
  obtain ⟨⟨x, hx, ea, hx7⟩, sc⟩ := sc
  have nm := lk_no_m (op := xstmtOp) (i := i) (ns - i)
  rw [show i + (ns - i) = ns by omega, ← hno] at nm
  have hW2 := hW
  unfold lk_WI at hW2
  obtain ⟨⟨⟨g1, g2, g3, _, _⟩, g4, _⟩, ⟨w1, w2, w3, w4⟩, w8, _, _, _, _, _, w9, w10⟩ := hW2
  rcases sc with ⟨his, eox, _⟩ | ⟨his, hig, eox, _, eb⟩
  · have hnt := lk_nc_t his
    rw [show lk_no xstmtOp i - 1 = lk_nc xstmtOp i by omega] at eox
    have hD := (g4 (lk_nc xstmtOp i) (by omega)).2.1
    have ed := (w8 (lk_nc xstmtOp i) (by omega)).2.2
    obtain ⟨k1, k2, _, _⟩ := w9 (by omega)
    have nk : ¬ kk < 0 := by rw [k1]; exact nI_pos (by omega)
    by_cases cx : D (lk_nc xstmtOp i) ≤ x
    · have W1 := lk_V_dot (x := x) hW hA hi (Or.inl ho) his (by omega) (by omega)
      refine Or.inl ⟨_, _, _, _, _, _, _, _, _, xoutAlign, _, _, _, _, _, _, _, _, _, _, _, _, _, _, _, _, _, _, _, _, _, W1, lk_U_D hU (Or.inr (Or.inr (Or.inl ho))) his (fun k hk => lk_upn hk), fun post hp => ?_⟩
      · exact ⟨vi, nm_e ⟨vi, nm_r (e' := 5) (by rw [e, ho]) (br_f (by decide) (br_f (by decide) (br_f (by decide) (br_f (by decide) (br_f (by decide) (br_f (by decide) (br_t rfl (lx_md1 (by omega) eox (by omega) ed ea hx (by omega) (Or.inl ⟨ho, cx, rfl⟩) hp))))))))⟩⟩
    · refine Or.inr (fun post hp => ?_)
      · exact ⟨vi, nm_e ⟨vi, nm_r (e' := 5) (by rw [e, ho]) (br_f (by decide) (br_f (by decide) (br_f (by decide) (br_f (by decide) (br_f (by decide) (br_f (by decide) (br_t rfl (lx_b1 (by omega) eox (by omega) ed ea (by omega) (by omega) ho hp))))))))⟩⟩
  · have hnf := lk_nc_f his
    have k1 := w10 hnf
    have nk : kk < 0 := by rw [k1]; decide
    rcases eb with eb | eb
    · by_cases cx : C0 ≤ x
      · have W1 := lk_V_cnt (C0' := x) (C1' := C1) (ct' := upd xcounter 0 (nI (x))) (c0' := nI (x)) (c1' := c1) hW hA hi (Or.inl ho) his (by omega) (by omega) (by omega) (by omega) ⟨pk_us, by rw [pk_un (by decide)]; exact w2, rfl, w4⟩
        refine Or.inl ⟨_, _, _, _, _, _, _, _, _, xoutAlign, _, _, _, _, _, _, _, _, _, _, _, _, _, _, _, _, _, _, _, _, _, W1, lk_U_cnt hU (Or.inl ho) his hig (by omega), fun post hp => ?_⟩
        · exact ⟨vi, nm_e ⟨vi, nm_r (e' := 5) (by rw [e, ho]) (br_f (by decide) (br_f (by decide) (br_f (by decide) (br_f (by decide) (br_f (by decide) (br_f (by decide) (br_t rfl (lx_md0 (r := 0) (by omega) eox (by omega) eb w1 ea hx (by omega) (Or.inl ⟨ho, cx, rfl⟩) hp))))))))⟩⟩
      · refine Or.inr (fun post hp => ?_)
        · exact ⟨vi, nm_e ⟨vi, nm_r (e' := 5) (by rw [e, ho]) (br_f (by decide) (br_f (by decide) (br_f (by decide) (br_f (by decide) (br_f (by decide) (br_f (by decide) (br_t rfl (lx_b0 (r := 0) (by omega) eox (by omega) eb w1 ea (by omega) (by omega) ho hp))))))))⟩⟩
    · by_cases cx : C1 ≤ x
      · have W1 := lk_V_cnt (C0' := C0) (C1' := x) (ct' := upd xcounter 1 (nI (x))) (c0' := c0) (c1' := nI (x)) hW hA hi (Or.inl ho) his (by omega) (by omega) (by omega) (by omega) ⟨by rw [pk_un (by decide)]; exact w1, pk_us, w3, rfl⟩
        refine Or.inl ⟨_, _, _, _, _, _, _, _, _, xoutAlign, _, _, _, _, _, _, _, _, _, _, _, _, _, _, _, _, _, _, _, _, _, W1, lk_U_cnt hU (Or.inl ho) his hig (by omega), fun post hp => ?_⟩
        · exact ⟨vi, nm_e ⟨vi, nm_r (e' := 5) (by rw [e, ho]) (br_f (by decide) (br_f (by decide) (br_f (by decide) (br_f (by decide) (br_f (by decide) (br_f (by decide) (br_t rfl (lx_md0 (r := 1) (by omega) eox (by omega) eb w2 ea hx (by omega) (Or.inl ⟨ho, cx, rfl⟩) hp))))))))⟩⟩
      · refine Or.inr (fun post hp => ?_)
        · exact ⟨vi, nm_e ⟨vi, nm_r (e' := 5) (by rw [e, ho]) (br_f (by decide) (br_f (by decide) (br_f (by decide) (br_f (by decide) (br_f (by decide) (br_f (by decide) (br_t rfl (lx_b0 (r := 1) (by omega) eox (by omega) eb w2 ea (by omega) (by omega) ho hp))))))))⟩⟩
theorem lk_w_d6 {ns no ng ni nb nr : Nat} {xphase xopenOut xopenGroup : Int32} {xregionSize xcounter xmemory xstmtOp xstmtA xstmtB xstmtOwner xoutRegion xoutLoaded xoutGroup xoutAlign xoutVma xoutLma xoutDot xgroupStart xgroupEnd xgroupResident xinKind xinId xinAlign xinSize xinFirstByte xinStmt xinLive xinVma xfedBytes xrelocOwner xrelocOffset xrelocType xrelocTarget xrelocAddend ystOut youtSize ygStart ygEnd yinBss yinLen yinVma yinLma : Nat → Int32} {i C0 C1 : Nat} {V L D G0 GE IV : Nat → Nat} {c0 c1 g0 yge grp kk dot vma lma ing : Int32} (hS : ∀ i, i < ns → lk_sc xstmtOp xstmtA xstmtB xstmtOwner ystOut xoutRegion xoutLoaded xoutGroup i) (hno : no = lk_no xstmtOp ns) (hng : ng = lk_ng xstmtOp ns) (h8 : no ≤ 8) (h4 : ng ≤ 4) (hN : lk_N ni nb xinKind xinAlign xinSize xinFirstByte yinBss yinLen) (hA : lk_hA ni ns xstmtOp xinStmt xinLive) (hl : lk_hl ni no ns xinStmt xinLive xstmtOwner ystOut) (hi : i < ns) (hW : lk_WI ni xstmtOp xoutRegion xoutLoaded xinStmt xinLive (fun s => (xstmtOwner (xinStmt s).toNatClampNeg).toNatClampNeg) (fun s => (xinSize s).toNatClampNeg) i C0 C1 V L D G0 GE IV xcounter xoutVma xoutLma xoutDot xgroupStart xgroupEnd xinVma youtSize ygStart ygEnd yinVma yinLma c0 c1 g0 yge grp kk dot vma lma ing) (hU : lk_U xstmtOp xoutRegion xoutGroup i C1 V D G0 GE) (ho : xstmtOp i = 6) : ∃ (C0' C1' : Nat) (V' L' D' G0' GE' IV' : Nat → Nat) (ct oa vm lm dt gs ge xv os yg0 yg1 yv yl : Nat → Int32) (d0 d1 d2 d3 d4 d5 d6 d7 d8 d9 : Int32), lk_WI ni xstmtOp xoutRegion xoutLoaded xinStmt xinLive (fun s => (xstmtOwner (xinStmt s).toNatClampNeg).toNatClampNeg) (fun s => (xinSize s).toNatClampNeg) (i + 1) C0' C1' V' L' D' G0' GE' IV' ct vm lm dt gs ge xv os yg0 yg1 yv yl d0 d1 d2 d3 d4 d5 d6 d7 d8 d9 ∧ lk_U xstmtOp xoutRegion xoutGroup (i + 1) C1' V' D' G0' GE' ∧ (∀ post : Int32 → St2 → Prop, post 1 (xphase, (nI ns), xopenOut, xopenGroup, (nI no), (nI ng), (nI ni), (nI nb), (nI nr), xregionSize, ct, xmemory, xstmtOp, xstmtA, xstmtB, xstmtOwner, xoutRegion, xoutLoaded, xoutGroup, oa, vm, lm, dt, gs, ge, xgroupResident, xinKind, xinId, xinAlign, xinSize, xinFirstByte, xinStmt, xinLive, xv, xfedBytes, xrelocOwner, xrelocOffset, xrelocType, xrelocTarget, xrelocAddend) → wpX_place post (xphase, (nI ns), xopenOut, xopenGroup, (nI no), (nI ng), (nI ni), (nI nb), (nI nr), xregionSize, xcounter, xmemory, xstmtOp, xstmtA, xstmtB, xstmtOwner, xoutRegion, xoutLoaded, xoutGroup, xoutAlign, xoutVma, xoutLma, xoutDot, xgroupStart, xgroupEnd, xgroupResident, xinKind, xinId, xinAlign, xinSize, xinFirstByte, xinStmt, xinLive, xinVma, xfedBytes, xrelocOwner, xrelocOffset, xrelocType, xrelocTarget, xrelocAddend) (nI i)) := by
  have n32 := hA.1
  have e : (nI i).toNatClampNeg = i := nI_clamp (by omega)
  have vi : vp_in (nI i) 32 := vp_in_nI (by omega) (by omega)
  have sc : (∃ x, x ≤ 1023 ∧ xstmtA i = nI x ∧ (xstmtOp i = 7 → lk_A x)) ∧ ((lk_is xstmtOp i = true ∧ xstmtOwner i = nI (lk_no xstmtOp i - 1) ∧ ystOut i = nI (lk_no xstmtOp i - 1)) ∨ (lk_is xstmtOp i = false ∧ lk_ig xstmtOp i = false ∧ xstmtOwner i = -1 ∧ ystOut i = -1 ∧ (xstmtB i = 0 ∨ xstmtB i = 1))) := by
    rcases hS i hi with ⟨h, _⟩ | ⟨h | h | h, _⟩ | ⟨_, h⟩ | ⟨h, _⟩ | ⟨h, _⟩
    case inr.inr.inl => exact h
    all_goals rw [ho] at h; exact absurd h (by decide)
  obtain ⟨⟨x, hx, ea, hx7⟩, sc⟩ := sc
  have nm := lk_no_m (op := xstmtOp) (i := i) (ns - i)
  rw [show i + (ns - i) = ns by omega, ← hno] at nm
  have hW2 := hW
  unfold lk_WI at hW2
  obtain ⟨⟨⟨g1, g2, g3, _, _⟩, g4, _⟩, ⟨w1, w2, w3, w4⟩, w8, _, _, _, _, _, w9, w10⟩ := hW2
  rcases sc with ⟨his, eox, _⟩ | ⟨his, hig, eox, _, eb⟩
  · have hnt := lk_nc_t his
    rw [show lk_no xstmtOp i - 1 = lk_nc xstmtOp i by omega] at eox
    have hD := (g4 (lk_nc xstmtOp i) (by omega)).2.1
    have ed := (w8 (lk_nc xstmtOp i) (by omega)).2.2
    obtain ⟨k1, k2, _, _⟩ := w9 (by omega)
    have nk : ¬ kk < 0 := by rw [k1]; exact nI_pos (by omega)
    have W1 := lk_V_dot (x := D (lk_nc xstmtOp i) + x) hW hA hi (Or.inr (Or.inl ho)) his (by omega) (by omega)
    refine ⟨_, _, _, _, _, _, _, _, _, xoutAlign, _, _, _, _, _, _, _, _, _, _, _, _, _, _, _, _, _, _, _, _, _, W1, lk_U_D hU (Or.inr (Or.inr (Or.inr (Or.inl ho)))) his (fun k hk => lk_upn hk), fun post hp => ?_⟩
    · exact ⟨vi, nm_e ⟨vi, nm_r (e' := 6) (by rw [e, ho]) (br_f (by decide) (br_f (by decide) (br_f (by decide) (br_f (by decide) (br_f (by decide) (br_f (by decide) (br_f (by decide) (br_t rfl (lx_md1 (by omega) eox (by omega) ed ea hx (by omega) (Or.inr (Or.inl ⟨ho, rfl⟩)) hp)))))))))⟩⟩
  · have hnf := lk_nc_f his
    have k1 := w10 hnf
    have nk : kk < 0 := by rw [k1]; decide
    rcases eb with eb | eb
    · have W1 := lk_V_cnt (C0' := C0 + x) (C1' := C1) (ct' := upd xcounter 0 (nI (C0 + x))) (c0' := nI (C0 + x)) (c1' := c1) hW hA hi (Or.inr (Or.inl ho)) his (by omega) (by omega) (by omega) (by omega) ⟨pk_us, by rw [pk_un (by decide)]; exact w2, rfl, w4⟩
      refine ⟨_, _, _, _, _, _, _, _, _, xoutAlign, _, _, _, _, _, _, _, _, _, _, _, _, _, _, _, _, _, _, _, _, _, W1, lk_U_cnt hU (Or.inr (Or.inl ho)) his hig (by omega), fun post hp => ?_⟩
      · exact ⟨vi, nm_e ⟨vi, nm_r (e' := 6) (by rw [e, ho]) (br_f (by decide) (br_f (by decide) (br_f (by decide) (br_f (by decide) (br_f (by decide) (br_f (by decide) (br_f (by decide) (br_t rfl (lx_md0 (r := 0) (by omega) eox (by omega) eb w1 ea hx (by omega) (Or.inr (Or.inl ⟨ho, rfl⟩)) hp)))))))))⟩⟩
    · have W1 := lk_V_cnt (C0' := C0) (C1' := C1 + x) (ct' := upd xcounter 1 (nI (C1 + x))) (c0' := c0) (c1' := nI (C1 + x)) hW hA hi (Or.inr (Or.inl ho)) his (by omega) (by omega) (by omega) (by omega) ⟨by rw [pk_un (by decide)]; exact w1, pk_us, w3, rfl⟩
      refine ⟨_, _, _, _, _, _, _, _, _, xoutAlign, _, _, _, _, _, _, _, _, _, _, _, _, _, _, _, _, _, _, _, _, _, W1, lk_U_cnt hU (Or.inr (Or.inl ho)) his hig (by omega), fun post hp => ?_⟩
      · exact ⟨vi, nm_e ⟨vi, nm_r (e' := 6) (by rw [e, ho]) (br_f (by decide) (br_f (by decide) (br_f (by decide) (br_f (by decide) (br_f (by decide) (br_f (by decide) (br_f (by decide) (br_t rfl (lx_md0 (r := 1) (by omega) eox (by omega) eb w2 ea hx (by omega) (Or.inr (Or.inl ⟨ho, rfl⟩)) hp)))))))))⟩⟩
theorem lk_w_d7 {ns no ng ni nb nr : Nat} {xphase xopenOut xopenGroup : Int32} {xregionSize xcounter xmemory xstmtOp xstmtA xstmtB xstmtOwner xoutRegion xoutLoaded xoutGroup xoutAlign xoutVma xoutLma xoutDot xgroupStart xgroupEnd xgroupResident xinKind xinId xinAlign xinSize xinFirstByte xinStmt xinLive xinVma xfedBytes xrelocOwner xrelocOffset xrelocType xrelocTarget xrelocAddend ystOut youtSize ygStart ygEnd yinBss yinLen yinVma yinLma : Nat → Int32} {i C0 C1 : Nat} {V L D G0 GE IV : Nat → Nat} {c0 c1 g0 yge grp kk dot vma lma ing : Int32} (hS : ∀ i, i < ns → lk_sc xstmtOp xstmtA xstmtB xstmtOwner ystOut xoutRegion xoutLoaded xoutGroup i) (hno : no = lk_no xstmtOp ns) (hng : ng = lk_ng xstmtOp ns) (h8 : no ≤ 8) (h4 : ng ≤ 4) (hN : lk_N ni nb xinKind xinAlign xinSize xinFirstByte yinBss yinLen) (hA : lk_hA ni ns xstmtOp xinStmt xinLive) (hl : lk_hl ni no ns xinStmt xinLive xstmtOwner ystOut) (hi : i < ns) (hW : lk_WI ni xstmtOp xoutRegion xoutLoaded xinStmt xinLive (fun s => (xstmtOwner (xinStmt s).toNatClampNeg).toNatClampNeg) (fun s => (xinSize s).toNatClampNeg) i C0 C1 V L D G0 GE IV xcounter xoutVma xoutLma xoutDot xgroupStart xgroupEnd xinVma youtSize ygStart ygEnd yinVma yinLma c0 c1 g0 yge grp kk dot vma lma ing) (hU : lk_U xstmtOp xoutRegion xoutGroup i C1 V D G0 GE) (ho : xstmtOp i = 7) : ∃ (C0' C1' : Nat) (V' L' D' G0' GE' IV' : Nat → Nat) (ct oa vm lm dt gs ge xv os yg0 yg1 yv yl : Nat → Int32) (d0 d1 d2 d3 d4 d5 d6 d7 d8 d9 : Int32), lk_WI ni xstmtOp xoutRegion xoutLoaded xinStmt xinLive (fun s => (xstmtOwner (xinStmt s).toNatClampNeg).toNatClampNeg) (fun s => (xinSize s).toNatClampNeg) (i + 1) C0' C1' V' L' D' G0' GE' IV' ct vm lm dt gs ge xv os yg0 yg1 yv yl d0 d1 d2 d3 d4 d5 d6 d7 d8 d9 ∧ lk_U xstmtOp xoutRegion xoutGroup (i + 1) C1' V' D' G0' GE' ∧ (∀ post : Int32 → St2 → Prop, post 1 (xphase, (nI ns), xopenOut, xopenGroup, (nI no), (nI ng), (nI ni), (nI nb), (nI nr), xregionSize, ct, xmemory, xstmtOp, xstmtA, xstmtB, xstmtOwner, xoutRegion, xoutLoaded, xoutGroup, oa, vm, lm, dt, gs, ge, xgroupResident, xinKind, xinId, xinAlign, xinSize, xinFirstByte, xinStmt, xinLive, xv, xfedBytes, xrelocOwner, xrelocOffset, xrelocType, xrelocTarget, xrelocAddend) → wpX_place post (xphase, (nI ns), xopenOut, xopenGroup, (nI no), (nI ng), (nI ni), (nI nb), (nI nr), xregionSize, xcounter, xmemory, xstmtOp, xstmtA, xstmtB, xstmtOwner, xoutRegion, xoutLoaded, xoutGroup, xoutAlign, xoutVma, xoutLma, xoutDot, xgroupStart, xgroupEnd, xgroupResident, xinKind, xinId, xinAlign, xinSize, xinFirstByte, xinStmt, xinLive, xinVma, xfedBytes, xrelocOwner, xrelocOffset, xrelocType, xrelocTarget, xrelocAddend) (nI i)) := by
  have n32 := hA.1
  have e : (nI i).toNatClampNeg = i := nI_clamp (by omega)
  have vi : vp_in (nI i) 32 := vp_in_nI (by omega) (by omega)
  have sc : (∃ x, x ≤ 1023 ∧ xstmtA i = nI x ∧ (xstmtOp i = 7 → lk_A x)) ∧ ((lk_is xstmtOp i = true ∧ xstmtOwner i = nI (lk_no xstmtOp i - 1) ∧ ystOut i = nI (lk_no xstmtOp i - 1)) ∨ (lk_is xstmtOp i = false ∧ lk_ig xstmtOp i = false ∧ xstmtOwner i = -1 ∧ ystOut i = -1 ∧ (xstmtB i = 0 ∨ xstmtB i = 1))) := by
    rcases hS i hi with ⟨h, _⟩ | ⟨h | h | h, _⟩ | ⟨_, h⟩ | ⟨h, _⟩ | ⟨h, _⟩
    case inr.inr.inl => exact h
    all_goals rw [ho] at h; exact absurd h (by decide)
  obtain ⟨⟨x, hx, ea, hx7⟩, sc⟩ := sc
  have nm := lk_no_m (op := xstmtOp) (i := i) (ns - i)
  rw [show i + (ns - i) = ns by omega, ← hno] at nm
  have hW2 := hW
  unfold lk_WI at hW2
  obtain ⟨⟨⟨g1, g2, g3, _, _⟩, g4, _⟩, ⟨w1, w2, w3, w4⟩, w8, _, _, _, _, _, w9, w10⟩ := hW2
  rcases sc with ⟨his, eox, _⟩ | ⟨his, hig, eox, _, eb⟩
  · have hnt := lk_nc_t his
    rw [show lk_no xstmtOp i - 1 = lk_nc xstmtOp i by omega] at eox
    have hD := (g4 (lk_nc xstmtOp i) (by omega)).2.1
    have ed := (w8 (lk_nc xstmtOp i) (by omega)).2.2
    obtain ⟨k1, k2, _, _⟩ := w9 (by omega)
    have nk : ¬ kk < 0 := by rw [k1]; exact nI_pos (by omega)
    have hal := lk_al_b (x := D (lk_nc xstmtOp i)) (hx7 ho)
    have W1 := lk_V_dot (x := lk_al (D (lk_nc xstmtOp i)) x) hW hA hi (Or.inr (Or.inr ho)) his (by omega) (by omega)
    refine ⟨_, _, _, _, _, _, _, _, _, xoutAlign, _, _, _, _, _, _, _, _, _, _, _, _, _, _, _, _, _, _, _, _, _, W1, lk_U_D hU (Or.inr (Or.inr (Or.inr (Or.inr ho)))) his (fun k hk => lk_upn hk), fun post hp => ?_⟩
    · exact ⟨vi, nm_e ⟨vi, nm_r (e' := 7) (by rw [e, ho]) (br_f (by decide) (br_f (by decide) (br_f (by decide) (br_f (by decide) (br_f (by decide) (br_f (by decide) (br_f (by decide) (br_f (by decide) (br_t rfl (lx_md1 (by omega) eox (by omega) ed ea hx (by omega) (Or.inr (Or.inr ⟨ho, hx7 ho, rfl⟩)) hp))))))))))⟩⟩
  · have hnf := lk_nc_f his
    have k1 := w10 hnf
    have nk : kk < 0 := by rw [k1]; decide
    rcases eb with eb | eb
    · have hal := lk_al_b (x := C0) (hx7 ho)
      have W1 := lk_V_cnt (C0' := lk_al (C0) x) (C1' := C1) (ct' := upd xcounter 0 (nI (lk_al (C0) x))) (c0' := nI (lk_al (C0) x)) (c1' := c1) hW hA hi (Or.inr (Or.inr ho)) his (by omega) (by omega) (by omega) (by omega) ⟨pk_us, by rw [pk_un (by decide)]; exact w2, rfl, w4⟩
      refine ⟨_, _, _, _, _, _, _, _, _, xoutAlign, _, _, _, _, _, _, _, _, _, _, _, _, _, _, _, _, _, _, _, _, _, W1, lk_U_cnt hU (Or.inr (Or.inr ho)) his hig (by omega), fun post hp => ?_⟩
      · exact ⟨vi, nm_e ⟨vi, nm_r (e' := 7) (by rw [e, ho]) (br_f (by decide) (br_f (by decide) (br_f (by decide) (br_f (by decide) (br_f (by decide) (br_f (by decide) (br_f (by decide) (br_f (by decide) (br_t rfl (lx_md0 (r := 0) (by omega) eox (by omega) eb w1 ea hx (by omega) (Or.inr (Or.inr ⟨ho, hx7 ho, rfl⟩)) hp))))))))))⟩⟩
    · have hal := lk_al_b (x := C1) (hx7 ho)
      have W1 := lk_V_cnt (C0' := C0) (C1' := lk_al (C1) x) (ct' := upd xcounter 1 (nI (lk_al (C1) x))) (c0' := c0) (c1' := nI (lk_al (C1) x)) hW hA hi (Or.inr (Or.inr ho)) his (by omega) (by omega) (by omega) (by omega) ⟨by rw [pk_un (by decide)]; exact w1, pk_us, w3, rfl⟩
      refine ⟨_, _, _, _, _, _, _, _, _, xoutAlign, _, _, _, _, _, _, _, _, _, _, _, _, _, _, _, _, _, _, _, _, _, W1, lk_U_cnt hU (Or.inr (Or.inr ho)) his hig (by omega), fun post hp => ?_⟩
      · exact ⟨vi, nm_e ⟨vi, nm_r (e' := 7) (by rw [e, ho]) (br_f (by decide) (br_f (by decide) (br_f (by decide) (br_f (by decide) (br_f (by decide) (br_f (by decide) (br_f (by decide) (br_f (by decide) (br_t rfl (lx_md0 (r := 1) (by omega) eox (by omega) eb w2 ea hx (by omega) (Or.inr (Or.inr ⟨ho, hx7 ho, rfl⟩)) hp))))))))))⟩⟩
end
