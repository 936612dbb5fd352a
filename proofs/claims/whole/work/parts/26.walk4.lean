
section
/-! Z: the walk: the group ops and the dot ops -/
theorem lk_w_ovl {ns no ng ni nb nr R0 R1 : Nat} {xphase xopenOut xopenGroup yinGroup yfinalC0 yfinalC1 : Int32} {xregionSize xcounter xmemory xstmtOp xstmtA xstmtB xstmtOwner xoutRegion xoutLoaded xoutGroup xoutAlign xoutVma xoutLma xoutDot xgroupStart xgroupEnd xgroupResident xinKind xinId xinAlign xinSize xinFirstByte xinStmt xinLive xinVma xfedBytes xrelocOwner xrelocOffset xrelocType xrelocTarget xrelocAddend ystOut youtSize youtRes ygStart ygEnd yinBss yinLen yinVma yinLma yrom yram : Nat → Int32} {i C0 C1 : Nat} {V L D G0 GE IV : Nat → Nat} {c0 c1 g0 yge grp kk dot vma lma ing : Int32} (hS : ∀ i, i < ns → lk_sc xstmtOp xstmtA xstmtB xstmtOwner ystOut xoutRegion xoutLoaded xoutGroup i) (hno : no = lk_no xstmtOp ns) (hng : ng = lk_ng xstmtOp ns) (h8 : no ≤ 8) (h4 : ng ≤ 4) (hN : lk_N ni nb xinKind xinAlign xinSize xinFirstByte yinBss yinLen) (hA : lk_hA ni ns xstmtOp xinStmt xinLive) (hl : lk_hl ni no ns xinStmt xinLive xstmtOwner ystOut) (hi : i < ns) (hW : lk_WI ni xstmtOp xoutRegion xoutLoaded xinStmt xinLive (fun s => (xstmtOwner (xinStmt s).toNatClampNeg).toNatClampNeg) (fun s => (xinSize s).toNatClampNeg) i C0 C1 V L D G0 GE IV xcounter xoutVma xoutLma xoutDot xgroupStart xgroupEnd xinVma youtSize ygStart ygEnd yinVma yinLma c0 c1 g0 yge grp kk dot vma lma ing) (ho : xstmtOp i = 8) : ∃ (C0' C1' : Nat) (V' L' D' G0' GE' IV' : Nat → Nat) (ct oa vm lm dt gs ge xv os yg0 yg1 yv yl : Nat → Int32) (d0 d1 d2 d3 d4 d5 d6 d7 d8 d9 : Int32), lk_WI ni xstmtOp xoutRegion xoutLoaded xinStmt xinLive (fun s => (xstmtOwner (xinStmt s).toNatClampNeg).toNatClampNeg) (fun s => (xinSize s).toNatClampNeg) (i + 1) C0' C1' V' L' D' G0' GE' IV' ct vm lm dt gs ge xv os yg0 yg1 yv yl d0 d1 d2 d3 d4 d5 d6 d7 d8 d9 ∧ (∀ post : Int32 → SX → Prop, post 1 (xphase, (nI ns), xopenOut, xopenGroup, (nI no), (nI ng), (nI ni), (nI nb), (nI nr), xregionSize, ct, xmemory, xstmtOp, xstmtA, xstmtB, xstmtOwner, xoutRegion, xoutLoaded, xoutGroup, oa, vm, lm, dt, gs, ge, xgroupResident, xinKind, xinId, xinAlign, xinSize, xinFirstByte, xinStmt, xinLive, xv, xfedBytes, xrelocOwner, xrelocOffset, xrelocType, xrelocTarget, xrelocAddend) → wpX_place post (xphase, (nI ns), xopenOut, xopenGroup, (nI no), (nI ng), (nI ni), (nI nb), (nI nr), xregionSize, xcounter, xmemory, xstmtOp, xstmtA, xstmtB, xstmtOwner, xoutRegion, xoutLoaded, xoutGroup, xoutAlign, xoutVma, xoutLma, xoutDot, xgroupStart, xgroupEnd, xgroupResident, xinKind, xinId, xinAlign, xinSize, xinFirstByte, xinStmt, xinLive, xinVma, xfedBytes, xrelocOwner, xrelocOffset, xrelocType, xrelocTarget, xrelocAddend) (nI i)) ∧ (∀ (post : Int32 → SY → Prop) (n : Nat), wY_walk_32 post (nI R0) (nI R1) xphase (nI ns) (nI no) (nI ng) (nI ni) (nI nb) (nI nr) xopenOut yinGroup (nI ni - 1) yfinalC0 yfinalC1 n d0 d1 d2 d3 d4 d5 d6 d7 d8 d9 (nI (i + 1)) xstmtOp xstmtA xstmtB ystOut xoutRegion xoutLoaded xoutGroup vm lm os oa youtRes yg0 yg1 xinKind xinId xinAlign yinBss xinFirstByte yinLen xinStmt xinLive yv yl xfedBytes xrelocOwner xrelocOffset xrelocType xrelocTarget xrelocAddend yrom yram → wY_walk_32 post (nI R0) (nI R1) xphase (nI ns) (nI no) (nI ng) (nI ni) (nI nb) (nI nr) xopenOut yinGroup (nI ni - 1) yfinalC0 yfinalC1 (n + 1) c0 c1 g0 yge grp kk dot vma lma ing (nI i) xstmtOp xstmtA xstmtB ystOut xoutRegion xoutLoaded xoutGroup xoutVma xoutLma youtSize xoutAlign youtRes ygStart ygEnd xinKind xinId xinAlign yinBss xinFirstByte yinLen xinStmt xinLive yinVma yinLma xfedBytes xrelocOwner xrelocOffset xrelocType xrelocTarget xrelocAddend yrom yram) := by
  have n32 := hA.1
  have e : (nI i).toNatClampNeg = i := nI_clamp (by omega)
  have vi : vp_in (nI i) 32 := vp_in_nI (by omega) (by omega)
  have nglt := lk_ng_m (op := xstmtOp) (i := i + 1) (ns - (i + 1))
  rw [show i + 1 + (ns - (i + 1)) = ns by omega, ← hng] at nglt
  rw [lk_ng_s, ho, if_pos rfl] at nglt
  have sc : lk_is xstmtOp i = false ∧ lk_ig xstmtOp i = false ∧ xstmtOwner i = nI (lk_ng xstmtOp i) := by
    rcases hS i hi with ⟨h, _⟩ | ⟨h | h | h, _⟩ | ⟨h | h | h, _⟩ | ⟨_, h⟩ | ⟨h, _⟩
    case inr.inr.inr.inl => exact h
    all_goals rw [ho] at h; exact absurd h (by decide)
  obtain ⟨his, hig, eox⟩ := sc
  have hW2 := hW
  unfold lk_WI at hW2
  obtain ⟨_, ⟨w1, w2, w3, w4⟩, _, _, _, _, _, ⟨_, w6, _⟩, _⟩ := hW2
  have W1 := lk_V_ovl hW hA hi ho his hig
  have vg : vp_in (nI (lk_ng xstmtOp i)) 4 := vp_in_nI (by omega) (by omega)
  have eg : (nI (lk_ng xstmtOp i)).toNatClampNeg = lk_ng xstmtOp i := nI_clamp (by omega)
  refine ⟨_, _, _, _, _, _, _, _, _, xoutAlign, _, _, _, _, _, _, _, _, _, _, _, _, _, _, _, _, _, _, _, _, _, W1, fun post hp => ?_, fun post n hp => ?_⟩
  · exact ⟨vi, nm_r (e' := nI (lk_ng xstmtOp i)) (by rw [e, eox]) ⟨vi, nm_r (e' := 8) (by rw [e, ho]) (br_f (by decide) (br_f (by decide) (br_f (by decide) (br_f (by decide) (br_f (by decide) (br_f (by decide) (br_f (by decide) (br_f (by decide) (br_f (by decide) (br_t rfl ⟨vg, nm_r (by rw [eg, w2]) ⟨vg, nm_r (by rw [eg, w2]) hp⟩⟩))))))))))⟩⟩
  · rw [w4] at hp ⊢
    exact br_f (nI_ge hi (by omega)) (br_f (nI_ge (b := 32) (by omega) (by omega)) ⟨vi, nm_r (e' := 8) (by rw [e, ho]) ⟨vi, nm_e ⟨vi, nm_e (br_f (by decide) (br_f (by decide) (br_f (by decide) (br_f (by decide) (br_f (by decide) (br_f (by decide) (br_f (by decide) (br_t rfl (nm_r (by rw [w6, Int32.sub_add_cancel]) (nm_r (nI_1 i) hp))))))))))⟩⟩⟩)
theorem lk_w_ove {ns no ng ni nb nr R0 R1 : Nat} {xphase xopenOut xopenGroup yinGroup yfinalC0 yfinalC1 : Int32} {xregionSize xcounter xmemory xstmtOp xstmtA xstmtB xstmtOwner xoutRegion xoutLoaded xoutGroup xoutAlign xoutVma xoutLma xoutDot xgroupStart xgroupEnd xgroupResident xinKind xinId xinAlign xinSize xinFirstByte xinStmt xinLive xinVma xfedBytes xrelocOwner xrelocOffset xrelocType xrelocTarget xrelocAddend ystOut youtSize youtRes ygStart ygEnd yinBss yinLen yinVma yinLma yrom yram : Nat → Int32} {i C0 C1 : Nat} {V L D G0 GE IV : Nat → Nat} {c0 c1 g0 yge grp kk dot vma lma ing : Int32} (hS : ∀ i, i < ns → lk_sc xstmtOp xstmtA xstmtB xstmtOwner ystOut xoutRegion xoutLoaded xoutGroup i) (hno : no = lk_no xstmtOp ns) (hng : ng = lk_ng xstmtOp ns) (h8 : no ≤ 8) (h4 : ng ≤ 4) (hN : lk_N ni nb xinKind xinAlign xinSize xinFirstByte yinBss yinLen) (hA : lk_hA ni ns xstmtOp xinStmt xinLive) (hl : lk_hl ni no ns xinStmt xinLive xstmtOwner ystOut) (hi : i < ns) (hW : lk_WI ni xstmtOp xoutRegion xoutLoaded xinStmt xinLive (fun s => (xstmtOwner (xinStmt s).toNatClampNeg).toNatClampNeg) (fun s => (xinSize s).toNatClampNeg) i C0 C1 V L D G0 GE IV xcounter xoutVma xoutLma xoutDot xgroupStart xgroupEnd xinVma youtSize ygStart ygEnd yinVma yinLma c0 c1 g0 yge grp kk dot vma lma ing) (ho : xstmtOp i = 9) : ∃ (C0' C1' : Nat) (V' L' D' G0' GE' IV' : Nat → Nat) (ct oa vm lm dt gs ge xv os yg0 yg1 yv yl : Nat → Int32) (d0 d1 d2 d3 d4 d5 d6 d7 d8 d9 : Int32), lk_WI ni xstmtOp xoutRegion xoutLoaded xinStmt xinLive (fun s => (xstmtOwner (xinStmt s).toNatClampNeg).toNatClampNeg) (fun s => (xinSize s).toNatClampNeg) (i + 1) C0' C1' V' L' D' G0' GE' IV' ct vm lm dt gs ge xv os yg0 yg1 yv yl d0 d1 d2 d3 d4 d5 d6 d7 d8 d9 ∧ (∀ post : Int32 → SX → Prop, post 1 (xphase, (nI ns), xopenOut, xopenGroup, (nI no), (nI ng), (nI ni), (nI nb), (nI nr), xregionSize, ct, xmemory, xstmtOp, xstmtA, xstmtB, xstmtOwner, xoutRegion, xoutLoaded, xoutGroup, oa, vm, lm, dt, gs, ge, xgroupResident, xinKind, xinId, xinAlign, xinSize, xinFirstByte, xinStmt, xinLive, xv, xfedBytes, xrelocOwner, xrelocOffset, xrelocType, xrelocTarget, xrelocAddend) → wpX_place post (xphase, (nI ns), xopenOut, xopenGroup, (nI no), (nI ng), (nI ni), (nI nb), (nI nr), xregionSize, xcounter, xmemory, xstmtOp, xstmtA, xstmtB, xstmtOwner, xoutRegion, xoutLoaded, xoutGroup, xoutAlign, xoutVma, xoutLma, xoutDot, xgroupStart, xgroupEnd, xgroupResident, xinKind, xinId, xinAlign, xinSize, xinFirstByte, xinStmt, xinLive, xinVma, xfedBytes, xrelocOwner, xrelocOffset, xrelocType, xrelocTarget, xrelocAddend) (nI i)) ∧ (∀ (post : Int32 → SY → Prop) (n : Nat), wY_walk_32 post (nI R0) (nI R1) xphase (nI ns) (nI no) (nI ng) (nI ni) (nI nb) (nI nr) xopenOut yinGroup (nI ni - 1) yfinalC0 yfinalC1 n d0 d1 d2 d3 d4 d5 d6 d7 d8 d9 (nI (i + 1)) xstmtOp xstmtA xstmtB ystOut xoutRegion xoutLoaded xoutGroup vm lm os oa youtRes yg0 yg1 xinKind xinId xinAlign yinBss xinFirstByte yinLen xinStmt xinLive yv yl xfedBytes xrelocOwner xrelocOffset xrelocType xrelocTarget xrelocAddend yrom yram → wY_walk_32 post (nI R0) (nI R1) xphase (nI ns) (nI no) (nI ng) (nI ni) (nI nb) (nI nr) xopenOut yinGroup (nI ni - 1) yfinalC0 yfinalC1 (n + 1) c0 c1 g0 yge grp kk dot vma lma ing (nI i) xstmtOp xstmtA xstmtB ystOut xoutRegion xoutLoaded xoutGroup xoutVma xoutLma youtSize xoutAlign youtRes ygStart ygEnd xinKind xinId xinAlign yinBss xinFirstByte yinLen xinStmt xinLive yinVma yinLma xfedBytes xrelocOwner xrelocOffset xrelocType xrelocTarget xrelocAddend yrom yram) := by
  have n32 := hA.1
  have e : (nI i).toNatClampNeg = i := nI_clamp (by omega)
  have vi : vp_in (nI i) 32 := vp_in_nI (by omega) (by omega)
  have nglt := lk_ng_m (op := xstmtOp) (i := i) (ns - i)
  rw [show i + (ns - i) = ns by omega, ← hng] at nglt
  have sc : lk_is xstmtOp i = false ∧ lk_ig xstmtOp i = true ∧ xstmtOwner i = nI (lk_ng xstmtOp i - 1) := by
    rcases hS i hi with ⟨h, _⟩ | ⟨h | h | h, _⟩ | ⟨h | h | h, _⟩ | ⟨h, _⟩ | ⟨_, h⟩
    case inr.inr.inr.inr => exact h
    all_goals rw [ho] at h; exact absurd h (by decide)
  obtain ⟨his, hig, eox⟩ := sc
  have hW2 := hW
  unfold lk_WI at hW2
  obtain ⟨_, ⟨w1, w2, w3, w4⟩, _, _, w5, _, _, ⟨_, w6, w7⟩, _⟩ := hW2
  obtain ⟨g, hg⟩ : ∃ g, lk_ng xstmtOp i = g + 1 := ⟨lk_ng xstmtOp i - 1, by have := (w7 hig).1; omega⟩
  have W1 := lk_V_ove hW hA hi ho his hig hg
  have ege := (w5 g (by omega)).2
  rw [hg, Nat.add_sub_cancel] at eox
  rw [hg, nI_pred] at w6
  have vg : vp_in (nI g) 4 := vp_in_nI (by omega) (by omega)
  have eg : (nI g).toNatClampNeg = g := nI_clamp (by omega)
  refine ⟨_, _, _, _, _, _, _, _, _, xoutAlign, _, _, _, _, _, _, _, _, _, _, _, _, _, _, _, _, _, _, _, _, _, W1, fun post hp => ?_, fun post n hp => ?_⟩
  · exact ⟨vi, nm_r (e' := nI g) (by rw [e, eox]) ⟨vi, nm_r (e' := 9) (by rw [e, ho]) (br_f (by decide) (br_f (by decide) (br_f (by decide) (br_f (by decide) (br_f (by decide) (br_f (by decide) (br_f (by decide) (br_f (by decide) (br_f (by decide) (br_f (by decide) (br_t rfl ⟨vg, nm_r (by rw [eg, ege]) hp⟩)))))))))))⟩⟩
  · rw [w6] at hp ⊢
    exact br_f (nI_ge hi (by omega)) (br_f (nI_ge (b := 32) (by omega) (by omega)) ⟨vi, nm_r (e' := 9) (by rw [e, ho]) ⟨vi, nm_e ⟨vi, nm_e (br_f (by decide) (br_f (by decide) (br_f (by decide) (br_f (by decide) (br_f (by decide) (br_f (by decide) (br_f (by decide) (br_f (by decide) (br_t rfl (br_f (nI_pos (by omega)) (br_f (nI_ge (b := 4) (by omega) (by omega)) ⟨vg, nm_r (by rw [eg]) ⟨vg, nm_r (by rw [eg]) (nm_r (nI_1 i) hp)⟩⟩)))))))))))⟩⟩⟩)
theorem lx_mv {post : Int32 → Prop} {ns no ng ni nb nr : Nat} {xphase xopenOut xopenGroup : Int32} {xregionSize xcounter xmemory xstmtOp xstmtA xstmtB xstmtOwner xoutRegion xoutLoaded xoutGroup xoutAlign xoutVma xoutLma xoutDot xgroupStart xgroupEnd xgroupResident xinKind xinId xinAlign xinSize xinFirstByte xinStmt xinLive xinVma xfedBytes xrelocOwner xrelocOffset xrelocType xrelocTarget xrelocAddend : Nat → Int32} {i d x y : Nat} (hi : i < 32) (ea : xstmtA i = nI x) (hd : d < 2 ^ 30) (ho : (xstmtOp i = 5 ∧ d ≤ x ∧ y = x) ∨ (xstmtOp i = 6 ∧ y = d + x) ∨ (xstmtOp i = 7 ∧ lk_A x ∧ y = lk_al d x)) (h : post (nI y)) : wpX_movedDot post (xphase, (nI ns), xopenOut, xopenGroup, (nI no), (nI ng), (nI ni), (nI nb), (nI nr), xregionSize, xcounter, xmemory, xstmtOp, xstmtA, xstmtB, xstmtOwner, xoutRegion, xoutLoaded, xoutGroup, xoutAlign, xoutVma, xoutLma, xoutDot, xgroupStart, xgroupEnd, xgroupResident, xinKind, xinId, xinAlign, xinSize, xinFirstByte, xinStmt, xinLive, xinVma, xfedBytes, xrelocOwner, xrelocOffset, xrelocType, xrelocTarget, xrelocAddend) (nI i) (nI d) := by
  have e : (nI i).toNatClampNeg = i := nI_clamp (by omega)
  have vi : vp_in (nI i) 32 := vp_in_nI hi (by omega)
  rcases ho with ⟨o, _, ey⟩ | ⟨o, ey⟩ | ⟨o, hx, ey⟩
  · refine ⟨vi, nm_r (e' := 5) (by rw [e, o]) (br_t rfl ⟨vi, ?_⟩)⟩
    rw [e, ea, ← ey]
    exact h
  · refine ⟨vi, nm_r (e' := 6) (by rw [e, o]) (br_f (by decide) (br_t rfl ⟨vi, ?_⟩))⟩
    rw [e, ea, nI_add, ← ey]
    exact h
  · refine ⟨vi, nm_r (e' := 7) (by rw [e, o]) (br_f (by decide) (br_f (by decide) ⟨vi, lx_al2 rfl (by rw [e, ea]) hx hd ?_⟩))⟩
    rw [← ey]
    exact h
theorem lx_md1 {post : Int32 → SX → Prop} {ns no ng ni nb nr : Nat} {xphase xopenOut xopenGroup : Int32} {xregionSize xcounter xmemory xstmtOp xstmtA xstmtB xstmtOwner xoutRegion xoutLoaded xoutGroup xoutAlign xoutVma xoutLma xoutDot xgroupStart xgroupEnd xgroupResident xinKind xinId xinAlign xinSize xinFirstByte xinStmt xinLive xinVma xfedBytes xrelocOwner xrelocOffset xrelocType xrelocTarget xrelocAddend : Nat → Int32} {i c d x y : Nat} (hi : i < 32) (eox : xstmtOwner i = nI c) (hc : c < 8) (ed : xoutDot c = nI d) (ea : xstmtA i = nI x) (hx : x ≤ 1023) (hd : d < 2 ^ 30) (ho : (xstmtOp i = 5 ∧ d ≤ x ∧ y = x) ∨ (xstmtOp i = 6 ∧ y = d + x) ∨ (xstmtOp i = 7 ∧ lk_A x ∧ y = lk_al d x)) (h : post 1 (xphase, (nI ns), xopenOut, xopenGroup, (nI no), (nI ng), (nI ni), (nI nb), (nI nr), xregionSize, xcounter, xmemory, xstmtOp, xstmtA, xstmtB, xstmtOwner, xoutRegion, xoutLoaded, xoutGroup, xoutAlign, xoutVma, xoutLma, (upd xoutDot c (nI y)), xgroupStart, xgroupEnd, xgroupResident, xinKind, xinId, xinAlign, xinSize, xinFirstByte, xinStmt, xinLive, xinVma, xfedBytes, xrelocOwner, xrelocOffset, xrelocType, xrelocTarget, xrelocAddend)) : wX_place_125 post (nI i) xphase (nI ns) xopenOut xopenGroup (nI no) (nI ng) (nI ni) (nI nb) (nI nr) xregionSize xcounter xmemory xstmtOp xstmtA xstmtB xstmtOwner xoutRegion xoutLoaded xoutGroup xoutAlign xoutVma xoutLma xoutDot xgroupStart xgroupEnd xgroupResident xinKind xinId xinAlign xinSize xinFirstByte xinStmt xinLive xinVma xfedBytes xrelocOwner xrelocOffset xrelocType xrelocTarget xrelocAddend := by
  have e : (nI i).toNatClampNeg = i := nI_clamp (by omega)
  have vi : vp_in (nI i) 32 := vp_in_nI hi (by omega)
  have ec : (nI c).toNatClampNeg = c := nI_clamp (by omega)
  have vc : vp_in (nI c) 8 := vp_in_nI hc (by omega)
  have ed' : xoutDot (nI c).toNatClampNeg = nI d := by rw [ec, ed]
  have nc : ¬ nI c = -1 := lk_nn1 (by omega)
  refine ⟨vi, nm_r (e' := nI c) (by rw [e, eox]) (br_f nc ⟨vc, vi, ?_⟩)⟩
  rw [ed']
  by_cases o5 : xstmtOp (nI i).toNatClampNeg = 5
  · refine br_t o5 ⟨vi, br_t ?_ (lx_mv hi ea hd ho (br_f nc ⟨vc, nm_r (by rw [ec]) ⟨rfl, h⟩⟩))⟩
    rw [e] at o5 ⊢
    rw [ea, nI_leI (by omega) (by omega)]
    rcases ho with ⟨_, z, _⟩ | ⟨z, _⟩ | ⟨z, _⟩
    · exact z
    · rw [o5] at z; exact absurd z (by decide)
    · rw [o5] at z; exact absurd z (by decide)
  · exact br_f o5 (lx_mv hi ea hd ho (br_f nc ⟨vc, nm_r (by rw [ec]) ⟨rfl, h⟩⟩))
theorem lx_md0 {post : Int32 → SX → Prop} {ns no ng ni nb nr : Nat} {xphase xopenOut xopenGroup : Int32} {xregionSize xcounter xmemory xstmtOp xstmtA xstmtB xstmtOwner xoutRegion xoutLoaded xoutGroup xoutAlign xoutVma xoutLma xoutDot xgroupStart xgroupEnd xgroupResident xinKind xinId xinAlign xinSize xinFirstByte xinStmt xinLive xinVma xfedBytes xrelocOwner xrelocOffset xrelocType xrelocTarget xrelocAddend : Nat → Int32} {i r d x y : Nat} (hi : i < 32) (eox : xstmtOwner i = -1) (hr : r < 2) (eb : xstmtB i = nI r) (ed : xcounter r = nI d) (ea : xstmtA i = nI x) (hx : x ≤ 1023) (hd : d < 2 ^ 30) (ho : (xstmtOp i = 5 ∧ d ≤ x ∧ y = x) ∨ (xstmtOp i = 6 ∧ y = d + x) ∨ (xstmtOp i = 7 ∧ lk_A x ∧ y = lk_al d x)) (h : post 1 (xphase, (nI ns), xopenOut, xopenGroup, (nI no), (nI ng), (nI ni), (nI nb), (nI nr), xregionSize, (upd xcounter r (nI y)), xmemory, xstmtOp, xstmtA, xstmtB, xstmtOwner, xoutRegion, xoutLoaded, xoutGroup, xoutAlign, xoutVma, xoutLma, xoutDot, xgroupStart, xgroupEnd, xgroupResident, xinKind, xinId, xinAlign, xinSize, xinFirstByte, xinStmt, xinLive, xinVma, xfedBytes, xrelocOwner, xrelocOffset, xrelocType, xrelocTarget, xrelocAddend)) : wX_place_125 post (nI i) xphase (nI ns) xopenOut xopenGroup (nI no) (nI ng) (nI ni) (nI nb) (nI nr) xregionSize xcounter xmemory xstmtOp xstmtA xstmtB xstmtOwner xoutRegion xoutLoaded xoutGroup xoutAlign xoutVma xoutLma xoutDot xgroupStart xgroupEnd xgroupResident xinKind xinId xinAlign xinSize xinFirstByte xinStmt xinLive xinVma xfedBytes xrelocOwner xrelocOffset xrelocType xrelocTarget xrelocAddend := by
  have e : (nI i).toNatClampNeg = i := nI_clamp (by omega)
  have vi : vp_in (nI i) 32 := vp_in_nI hi (by omega)
  have er : (nI r).toNatClampNeg = r := nI_clamp (by omega)
  have vr : vp_in (xstmtB (nI i).toNatClampNeg) 2 := by rw [e, eb]; exact vp_in_nI hr (by omega)
  have ed' : xcounter (xstmtB (nI i).toNatClampNeg).toNatClampNeg = nI d := by rw [e, eb, er, ed]
  refine ⟨vi, nm_r (e' := -1) (by rw [e, eox]) (br_t rfl ⟨vi, vr, vi, ?_⟩)⟩
  rw [ed']
  by_cases o5 : xstmtOp (nI i).toNatClampNeg = 5
  · refine br_t o5 ⟨vi, br_t ?_ (lx_mv hi ea hd ho (br_t rfl ⟨vi, vr, nm_r (by rw [e, eb, er]) ⟨rfl, h⟩⟩))⟩
    rw [e] at o5 ⊢
    rw [ea, nI_leI (by omega) (by omega)]
    rcases ho with ⟨_, z, _⟩ | ⟨z, _⟩ | ⟨z, _⟩
    · exact z
    · rw [o5] at z; exact absurd z (by decide)
    · rw [o5] at z; exact absurd z (by decide)
  · exact br_f o5 (lx_mv hi ea hd ho (br_t rfl ⟨vi, vr, nm_r (by rw [e, eb, er]) ⟨rfl, h⟩⟩))
theorem lx_b1 {post : Int32 → SX → Prop} {ns no ng ni nb nr : Nat} {xphase xopenOut xopenGroup : Int32} {xregionSize xcounter xmemory xstmtOp xstmtA xstmtB xstmtOwner xoutRegion xoutLoaded xoutGroup xoutAlign xoutVma xoutLma xoutDot xgroupStart xgroupEnd xgroupResident xinKind xinId xinAlign xinSize xinFirstByte xinStmt xinLive xinVma xfedBytes xrelocOwner xrelocOffset xrelocType xrelocTarget xrelocAddend : Nat → Int32} {i c d x : Nat} (hi : i < 32) (eox : xstmtOwner i = nI c) (hc : c < 8) (ed : xoutDot c = nI d) (ea : xstmtA i = nI x) (hx : x < d) (hd : d < 2 ^ 30) (o : xstmtOp i = 5) (h : post 0 (xphase, (nI ns), xopenOut, xopenGroup, (nI no), (nI ng), (nI ni), (nI nb), (nI nr), xregionSize, xcounter, xmemory, xstmtOp, xstmtA, xstmtB, xstmtOwner, xoutRegion, xoutLoaded, xoutGroup, xoutAlign, xoutVma, xoutLma, xoutDot, xgroupStart, xgroupEnd, xgroupResident, xinKind, xinId, xinAlign, xinSize, xinFirstByte, xinStmt, xinLive, xinVma, xfedBytes, xrelocOwner, xrelocOffset, xrelocType, xrelocTarget, xrelocAddend)) : wX_place_125 post (nI i) xphase (nI ns) xopenOut xopenGroup (nI no) (nI ng) (nI ni) (nI nb) (nI nr) xregionSize xcounter xmemory xstmtOp xstmtA xstmtB xstmtOwner xoutRegion xoutLoaded xoutGroup xoutAlign xoutVma xoutLma xoutDot xgroupStart xgroupEnd xgroupResident xinKind xinId xinAlign xinSize xinFirstByte xinStmt xinLive xinVma xfedBytes xrelocOwner xrelocOffset xrelocType xrelocTarget xrelocAddend := by
  have e : (nI i).toNatClampNeg = i := nI_clamp (by omega)
  have vi : vp_in (nI i) 32 := vp_in_nI hi (by omega)
  have ec : (nI c).toNatClampNeg = c := nI_clamp (by omega)
  have vc : vp_in (nI c) 8 := vp_in_nI hc (by omega)
  refine ⟨vi, nm_r (e' := nI c) (by rw [e, eox]) (br_f (lk_nn1 (by omega)) ⟨vc, vi, br_t (by rw [e, o]) ⟨vi, br_f ?_ ⟨rfl, h⟩⟩⟩)⟩
  rw [ec, ed, e, ea]
  exact nI_ge hx (by omega)
theorem lx_b0 {post : Int32 → SX → Prop} {ns no ng ni nb nr : Nat} {xphase xopenOut xopenGroup : Int32} {xregionSize xcounter xmemory xstmtOp xstmtA xstmtB xstmtOwner xoutRegion xoutLoaded xoutGroup xoutAlign xoutVma xoutLma xoutDot xgroupStart xgroupEnd xgroupResident xinKind xinId xinAlign xinSize xinFirstByte xinStmt xinLive xinVma xfedBytes xrelocOwner xrelocOffset xrelocType xrelocTarget xrelocAddend : Nat → Int32} {i r d x : Nat} (hi : i < 32) (eox : xstmtOwner i = -1) (hr : r < 2) (eb : xstmtB i = nI r) (ed : xcounter r = nI d) (ea : xstmtA i = nI x) (hx : x < d) (hd : d < 2 ^ 30) (o : xstmtOp i = 5) (h : post 0 (xphase, (nI ns), xopenOut, xopenGroup, (nI no), (nI ng), (nI ni), (nI nb), (nI nr), xregionSize, xcounter, xmemory, xstmtOp, xstmtA, xstmtB, xstmtOwner, xoutRegion, xoutLoaded, xoutGroup, xoutAlign, xoutVma, xoutLma, xoutDot, xgroupStart, xgroupEnd, xgroupResident, xinKind, xinId, xinAlign, xinSize, xinFirstByte, xinStmt, xinLive, xinVma, xfedBytes, xrelocOwner, xrelocOffset, xrelocType, xrelocTarget, xrelocAddend)) : wX_place_125 post (nI i) xphase (nI ns) xopenOut xopenGroup (nI no) (nI ng) (nI ni) (nI nb) (nI nr) xregionSize xcounter xmemory xstmtOp xstmtA xstmtB xstmtOwner xoutRegion xoutLoaded xoutGroup xoutAlign xoutVma xoutLma xoutDot xgroupStart xgroupEnd xgroupResident xinKind xinId xinAlign xinSize xinFirstByte xinStmt xinLive xinVma xfedBytes xrelocOwner xrelocOffset xrelocType xrelocTarget xrelocAddend := by
  have e : (nI i).toNatClampNeg = i := nI_clamp (by omega)
  have vi : vp_in (nI i) 32 := vp_in_nI hi (by omega)
  have er : (nI r).toNatClampNeg = r := nI_clamp (by omega)
  have vr : vp_in (xstmtB (nI i).toNatClampNeg) 2 := by rw [e, eb]; exact vp_in_nI hr (by omega)
  refine ⟨vi, nm_r (e' := -1) (by rw [e, eox]) (br_t rfl ⟨vi, vr, vi, br_t (by rw [e, o]) ⟨vi, br_f ?_ ⟨rfl, h⟩⟩⟩)⟩
  rw [e, eb, er, ed, ea]
  exact nI_ge hx (by omega)
end
