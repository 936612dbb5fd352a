
section
/-! W: the walk: OP_SECTION -/
theorem lx_41 {post : SX → Prop} {ns no ng ni nb nr : Nat} {xphase xopenOut xopenGroup : Int32} {xregionSize xcounter xmemory xstmtOp xstmtA xstmtB xstmtOwner xoutRegion xoutLoaded xoutGroup xoutAlign xoutVma xoutLma xoutDot xgroupStart xgroupEnd xgroupResident xinKind xinId xinAlign xinSize xinFirstByte xinStmt xinLive xinVma xfedBytes xrelocOwner xrelocOffset xrelocType xrelocTarget xrelocAddend : Nat → Int32} {n m b c v l : Nat} {z r : Int32} (hn : n < 8) (hz : z = nI b) (hr : r = nI m) (hA : lk_A m) (hb : b < 2 ^ 30) (h0 : xcounter 0 = nI c) (hc : c < 2 ^ 30) (hv : v = lk_al b m) (hl : l = if xoutRegion n = 1 ∧ xoutLoaded n = 1 then lk_al c m else v) (h : post (xphase, (nI ns), xopenOut, xopenGroup, (nI no), (nI ng), (nI ni), (nI nb), (nI nr), xregionSize, xcounter, xmemory, xstmtOp, xstmtA, xstmtB, xstmtOwner, xoutRegion, xoutLoaded, xoutGroup, (upd xoutAlign n (nI m)), (upd xoutVma n (nI v)), (upd xoutLma n (nI l)), (upd xoutDot n (nI v)), xgroupStart, xgroupEnd, xgroupResident, xinKind, xinId, xinAlign, xinSize, xinFirstByte, xinStmt, xinLive, xinVma, xfedBytes, xrelocOwner, xrelocOffset, xrelocType, xrelocTarget, xrelocAddend)) : wX_startPlacing_41 post (nI n) r z xphase (nI ns) xopenOut xopenGroup (nI no) (nI ng) (nI ni) (nI nb) (nI nr) xregionSize xcounter xmemory xstmtOp xstmtA xstmtB xstmtOwner xoutRegion xoutLoaded xoutGroup xoutAlign xoutVma xoutLma xoutDot xgroupStart xgroupEnd xgroupResident xinKind xinId xinAlign xinSize xinFirstByte xinStmt xinLive xinVma xfedBytes xrelocOwner xrelocOffset xrelocType xrelocTarget xrelocAddend := by
  have e : (nI n).toNatClampNeg = n := nI_clamp (by omega)
  have v8 : vp_in (nI n) 8 := vp_in_nI hn (by omega)
  subst hz
  subst hr
  subst hv
  refine lx_al hA hb ⟨v8, ?_⟩
  by_cases a : xoutRegion (nI n).toNatClampNeg = 1
  · refine br_t a ⟨v8, ?_⟩
    by_cases b : xoutLoaded (nI n).toNatClampNeg = 1
    · refine br_t b ⟨v8, nm_r (e' := upd xoutAlign n (nI m)) (by rw [e]) ⟨v8, nm_r (e' := upd xoutVma n (nI _)) (by rw [e]) (br_f (by decide) ?_)⟩⟩
      rw [e] at a b
      rw [if_pos ⟨a, b⟩] at hl
      subst hl
      rw [h0]
      exact lx_al hA hc ⟨v8, nm_r (by rw [e]) ⟨v8, nm_r (by rw [e]) h⟩⟩
    · refine br_f b ⟨v8, nm_r (e' := upd xoutAlign n (nI m)) (by rw [e]) ⟨v8, nm_r (e' := upd xoutVma n (nI _)) (by rw [e]) (br_t rfl ?_)⟩⟩
      rw [e] at b
      rw [if_neg (fun y => b y.2)] at hl
      subst hl
      exact ⟨v8, nm_r (by rw [e]) ⟨v8, nm_r (by rw [e]) h⟩⟩
  · refine br_f a ⟨v8, nm_r (e' := upd xoutAlign n (nI m)) (by rw [e]) ⟨v8, nm_r (e' := upd xoutVma n (nI _)) (by rw [e]) (br_t rfl ?_)⟩⟩
    rw [e] at a
    rw [if_neg (fun y => a y.1)] at hl
    subst hl
    exact ⟨v8, nm_r (by rw [e]) ⟨v8, nm_r (by rw [e]) h⟩⟩
theorem ly_153 {post : Int32 → SY → Prop} {J : Int32 → Int32 → Int32 → Int32 → Int32 → Int32 → Int32 → Int32 → Int32 → Int32 → Int32 → (Nat → Int32) → (Nat → Int32) → (Nat → Int32) → (Nat → Int32) → (Nat → Int32) → (Nat → Int32) → (Nat → Int32) → (Nat → Int32) → (Nat → Int32) → (Nat → Int32) → (Nat → Int32) → (Nat → Int32) → (Nat → Int32) → (Nat → Int32) → (Nat → Int32) → (Nat → Int32) → (Nat → Int32) → (Nat → Int32) → (Nat → Int32) → (Nat → Int32) → (Nat → Int32) → (Nat → Int32) → (Nat → Int32) → (Nat → Int32) → (Nat → Int32) → (Nat → Int32) → (Nat → Int32) → (Nat → Int32) → (Nat → Int32) → (Nat → Int32) → (Nat → Int32) → (Nat → Int32) → Prop} {yromSize yramSize yphase ynStmts ynOuts ynGroups ynIns ynBytes ynRelocs yopenOut yinGroup ycur yfinalC0 yfinalC1 : Int32} {ystOp ystA ystB ystOut youtReg youtLoaded youtGroup youtVma youtLma youtSize youtAlign youtRes ygStart ygEnd yinKind yinId yinAlign yinBss yinStart yinLen yinStmt yinLive yinVma yinLma ybytes yrSec yrOff yrType yrTgt yrAdd yrom yram : Nat → Int32} {x1 x2 x3 x4 x5 x8 x10 x15 z0 : Int32} {n i : Nat} (hn : n < 8) (h : J x1 x2 x3 x4 x5 (nI n) x8 x8 z0 x10 (nI (i + 1)) ystOp ystA ystB ystOut youtReg youtLoaded youtGroup (upd youtVma n x8) (upd youtLma n z0) youtSize (upd youtAlign n x15) youtRes ygStart ygEnd yinKind yinId yinAlign yinBss yinStart yinLen yinStmt yinLive yinVma yinLma ybytes yrSec yrOff yrType yrTgt yrAdd yrom yram) : wY_walk_153 post J x1 x2 x3 x4 x5 (nI n) x8 x10 (nI i) x15 z0 yromSize yramSize yphase ynStmts ynOuts ynGroups ynIns ynBytes ynRelocs yopenOut yinGroup ycur yfinalC0 yfinalC1 ystOp ystA ystB ystOut youtReg youtLoaded youtGroup youtVma youtLma youtSize youtAlign youtRes ygStart ygEnd yinKind yinId yinAlign yinBss yinStart yinLen yinStmt yinLive yinVma yinLma ybytes yrSec yrOff yrType yrTgt yrAdd yrom yram := by
  have e : (nI n).toNatClampNeg = n := nI_clamp (by omega)
  have v8 : vp_in (nI n) 8 := vp_in_nI hn (by omega)
  exact ⟨v8, nm_r (by rw [e]) ⟨v8, nm_r (by rw [e]) ⟨v8, nm_r (by rw [e]) (nm_r (nI_1 i) h)⟩⟩⟩
theorem ly_117 {post : Int32 → SY → Prop} {J : Int32 → Int32 → Int32 → Int32 → Int32 → Int32 → Int32 → Int32 → Int32 → Int32 → Int32 → (Nat → Int32) → (Nat → Int32) → (Nat → Int32) → (Nat → Int32) → (Nat → Int32) → (Nat → Int32) → (Nat → Int32) → (Nat → Int32) → (Nat → Int32) → (Nat → Int32) → (Nat → Int32) → (Nat → Int32) → (Nat → Int32) → (Nat → Int32) → (Nat → Int32) → (Nat → Int32) → (Nat → Int32) → (Nat → Int32) → (Nat → Int32) → (Nat → Int32) → (Nat → Int32) → (Nat → Int32) → (Nat → Int32) → (Nat → Int32) → (Nat → Int32) → (Nat → Int32) → (Nat → Int32) → (Nat → Int32) → (Nat → Int32) → (Nat → Int32) → (Nat → Int32) → (Nat → Int32) → Prop} {yromSize yramSize yphase ynStmts ynOuts ynGroups ynIns ynBytes ynRelocs yopenOut yinGroup ycur yfinalC0 yfinalC1 : Int32} {ystOp ystA ystB ystOut youtReg youtLoaded youtGroup youtVma youtLma youtSize youtAlign youtRes ygStart ygEnd yinKind yinId yinAlign yinBss yinStart yinLen yinStmt yinLive yinVma yinLma ybytes yrSec yrOff yrType yrTgt yrAdd yrom yram : Nat → Int32} {x2 x3 x4 x5 x10 x13 x14 z r : Int32} {n i m b c v l : Nat} (hn : n < 8) (hz : z = nI b) (hr : r = nI m) (hA : lk_A m) (hb : b < 2 ^ 30) (hc : c < 2 ^ 30) (hv : v = lk_al b m) (hl : l = if x13 = 1 ∧ x14 = 1 then lk_al c m else v) (h : J (nI c) x2 x3 x4 x5 (nI n) (nI v) (nI v) (nI l) x10 (nI (i + 1)) ystOp ystA ystB ystOut youtReg youtLoaded youtGroup (upd youtVma n (nI v)) (upd youtLma n (nI l)) youtSize (upd youtAlign n (nI m)) youtRes ygStart ygEnd yinKind yinId yinAlign yinBss yinStart yinLen yinStmt yinLive yinVma yinLma ybytes yrSec yrOff yrType yrTgt yrAdd yrom yram) : wY_walk_117 post J (nI c) x2 x3 x4 x5 (nI n) x10 (nI i) x13 x14 r z yromSize yramSize yphase ynStmts ynOuts ynGroups ynIns ynBytes ynRelocs yopenOut yinGroup ycur yfinalC0 yfinalC1 ystOp ystA ystB ystOut youtReg youtLoaded youtGroup youtVma youtLma youtSize youtAlign youtRes ygStart ygEnd yinKind yinId yinAlign yinBss yinStart yinLen yinStmt yinLive yinVma yinLma ybytes yrSec yrOff yrType yrTgt yrAdd yrom yram := by
  subst hz
  subst hr
  subst hv
  refine ly_al hA hb ?_
  by_cases a : x13 = 1
  · refine br_t a ?_
    by_cases b : x14 = 1
    · rw [if_pos ⟨a, b⟩] at hl
      subst hl
      exact br_t b (ly_al hA hc (ly_153 hn h))
    · rw [if_neg (fun y => b y.2)] at hl
      subst hl
      exact br_f b (ly_153 hn h)
  · rw [if_neg (fun y => a y.1)] at hl
    subst hl
    exact br_f a (ly_153 hn h)
theorem lk_w_sec {ns no ng ni nb nr R0 R1 : Nat} {xphase xopenOut xopenGroup yinGroup yfinalC0 yfinalC1 : Int32} {xregionSize xcounter xmemory xstmtOp xstmtA xstmtB xstmtOwner xoutRegion xoutLoaded xoutGroup xoutAlign xoutVma xoutLma xoutDot xgroupStart xgroupEnd xgroupResident xinKind xinId xinAlign xinSize xinFirstByte xinStmt xinLive xinVma xfedBytes xrelocOwner xrelocOffset xrelocType xrelocTarget xrelocAddend ystOut youtSize youtRes ygStart ygEnd yinBss yinLen yinVma yinLma yrom yram : Nat → Int32} {i C0 C1 : Nat} {V L D G0 GE IV : Nat → Nat} {c0 c1 g0 yge grp kk dot vma lma ing : Int32} (hS : ∀ i, i < ns → lk_sc xstmtOp xstmtA xstmtB xstmtOwner ystOut xoutRegion xoutLoaded xoutGroup i) (hno : no = lk_no xstmtOp ns) (hng : ng = lk_ng xstmtOp ns) (h8 : no ≤ 8) (h4 : ng ≤ 4) (hN : lk_N ni nb xinKind xinAlign xinSize xinFirstByte yinBss yinLen) (hA : lk_hA ni ns xstmtOp xinStmt xinLive) (hl : lk_hl ni no ns xinStmt xinLive xstmtOwner ystOut) (hi : i < ns) (hW : lk_WI ni xstmtOp xoutRegion xoutLoaded xinStmt xinLive (fun s => (xstmtOwner (xinStmt s).toNatClampNeg).toNatClampNeg) (fun s => (xinSize s).toNatClampNeg) i C0 C1 V L D G0 GE IV xcounter xoutVma xoutLma xoutDot xgroupStart xgroupEnd xinVma youtSize ygStart ygEnd yinVma yinLma c0 c1 g0 yge grp kk dot vma lma ing) (ho : xstmtOp i = 1) : ∃ (C0' C1' : Nat) (V' L' D' G0' GE' IV' : Nat → Nat) (ct oa vm lm dt gs ge xv os yg0 yg1 yv yl : Nat → Int32) (d0 d1 d2 d3 d4 d5 d6 d7 d8 d9 : Int32), lk_WI ni xstmtOp xoutRegion xoutLoaded xinStmt xinLive (fun s => (xstmtOwner (xinStmt s).toNatClampNeg).toNatClampNeg) (fun s => (xinSize s).toNatClampNeg) (i + 1) C0' C1' V' L' D' G0' GE' IV' ct vm lm dt gs ge xv os yg0 yg1 yv yl d0 d1 d2 d3 d4 d5 d6 d7 d8 d9 ∧ (∀ post : Int32 → SX → Prop, post 1 (xphase, (nI ns), xopenOut, xopenGroup, (nI no), (nI ng), (nI ni), (nI nb), (nI nr), xregionSize, ct, xmemory, xstmtOp, xstmtA, xstmtB, xstmtOwner, xoutRegion, xoutLoaded, xoutGroup, oa, vm, lm, dt, gs, ge, xgroupResident, xinKind, xinId, xinAlign, xinSize, xinFirstByte, xinStmt, xinLive, xv, xfedBytes, xrelocOwner, xrelocOffset, xrelocType, xrelocTarget, xrelocAddend) → wpX_place post (xphase, (nI ns), xopenOut, xopenGroup, (nI no), (nI ng), (nI ni), (nI nb), (nI nr), xregionSize, xcounter, xmemory, xstmtOp, xstmtA, xstmtB, xstmtOwner, xoutRegion, xoutLoaded, xoutGroup, xoutAlign, xoutVma, xoutLma, xoutDot, xgroupStart, xgroupEnd, xgroupResident, xinKind, xinId, xinAlign, xinSize, xinFirstByte, xinStmt, xinLive, xinVma, xfedBytes, xrelocOwner, xrelocOffset, xrelocType, xrelocTarget, xrelocAddend) (nI i)) ∧ (∀ (post : Int32 → SY → Prop) (n : Nat), wY_walk_32 post (nI R0) (nI R1) xphase (nI ns) (nI no) (nI ng) (nI ni) (nI nb) (nI nr) xopenOut yinGroup (nI ni - 1) yfinalC0 yfinalC1 n d0 d1 d2 d3 d4 d5 d6 d7 d8 d9 (nI (i + 1)) xstmtOp xstmtA xstmtB ystOut xoutRegion xoutLoaded xoutGroup vm lm os oa youtRes yg0 yg1 xinKind xinId xinAlign yinBss xinFirstByte yinLen xinStmt xinLive yv yl xfedBytes xrelocOwner xrelocOffset xrelocType xrelocTarget xrelocAddend yrom yram → wY_walk_32 post (nI R0) (nI R1) xphase (nI ns) (nI no) (nI ng) (nI ni) (nI nb) (nI nr) xopenOut yinGroup (nI ni - 1) yfinalC0 yfinalC1 (n + 1) c0 c1 g0 yge grp kk dot vma lma ing (nI i) xstmtOp xstmtA xstmtB ystOut xoutRegion xoutLoaded xoutGroup xoutVma xoutLma youtSize xoutAlign youtRes ygStart ygEnd xinKind xinId xinAlign yinBss xinFirstByte yinLen xinStmt xinLive yinVma yinLma xfedBytes xrelocOwner xrelocOffset xrelocType xrelocTarget xrelocAddend yrom yram) := by
  have n32 := hA.1
  have e : (nI i).toNatClampNeg = i := nI_clamp (by omega)
  have vi : vp_in (nI i) 32 := vp_in_nI (by omega) (by omega)
  have sc : xstmtOp i = 1 ∧ lk_is xstmtOp i = false ∧ ((xstmtA i = 0 ∧ xstmtB i = 1 ∧ lk_ig xstmtOp i = false) ∨ (xstmtA i = 1 ∧ (xstmtB i = 0 ∨ xstmtB i = 1))) ∧ xstmtOwner i = nI (lk_no xstmtOp i) ∧ ystOut i = nI (lk_no xstmtOp i) ∧ xoutRegion (lk_no xstmtOp i) = xstmtA i ∧ xoutLoaded (lk_no xstmtOp i) = xstmtB i ∧ xoutGroup (lk_no xstmtOp i) = (if lk_ig xstmtOp i = true then nI (lk_ng xstmtOp i - 1) else -1) := by
    rcases hS i hi with h | ⟨h | h | h, _⟩ | ⟨h | h | h, _⟩ | ⟨h, _⟩ | ⟨h, _⟩
    · exact h
    all_goals rw [ho] at h; exact absurd h (by decide)
  obtain ⟨_, his, hab, eox, eoy, erg, eld, egp⟩ := sc
  have hlt := lk_no_lt ho hi
  rw [← hno] at hlt
  obtain ⟨m, hm, em⟩ := lk_ga_A (p := lk_gp xstmtOwner xinStmt xinLive (nI (lk_no xstmtOp i))) (al := xinAlign) ni (fun s hs => by obtain ⟨A, _, _, _, a1, a2, _⟩ := hN.2.2 s hs; exact ⟨A, a1, a2⟩)
  have emy : lk_ga (lk_gp ystOut xinStmt xinLive (nI (lk_no xstmtOp i))) xinAlign ni = nI m := by rw [lk_ga_cg ni (lk_gp_cg hl), em]
  have hW2 := hW
  unfold lk_WI at hW2
  obtain ⟨⟨⟨g1, g2, g3, _, _⟩, _, _, _, _, g6, _⟩, ⟨w1, w2, w3, w4⟩, _, _, w5, _, _, ⟨w6, _, w7⟩, _⟩ := hW2
  have nglt := lk_ng_m (op := xstmtOp) (i := i) (ns - i)
  rw [show i + (ns - i) = ns by omega, ← hng] at nglt
  have hmb := lk_A_b hm
  -- the base
  have base : ∃ b, 0 ≤ b ∧ b ≤ 2000 + 4700 * i ∧ (xstmtA i = 1 → 256 ≤ b) ∧ (xstmtA i = 0 → b = C0) ∧
      ((lk_ig xstmtOp i = false ∧ xoutGroup (lk_no xstmtOp i) = -1 ∧ ing = 0 ∧ xcounter (xstmtA i).toNatClampNeg = nI b ∧ ((xstmtA i = 0 ∧ c0 = nI b) ∨ (¬ xstmtA i = 0 ∧ c1 = nI b))) ∨
       (xstmtA i = 1 ∧ ∃ g, g < 4 ∧ xoutGroup (lk_no xstmtOp i) = nI g ∧ ¬ ing = 0 ∧ xgroupStart g = nI b ∧ g0 = nI b)) := by
    rcases Bool.eq_false_or_eq_true (lk_ig xstmtOp i) with hig | hig
    · have ha : xstmtA i = 1 := by
        rcases hab with ⟨_, _, z⟩ | ⟨z, _⟩
        · rw [hig] at z; exact Bool.noConfusion z
        · exact z
      obtain ⟨p1, p2, _⟩ := w7 hig
      obtain ⟨q1, q2, q3, _⟩ := g6 (lk_ng xstmtOp i - 1) (by omega)
      refine ⟨G0 (lk_ng xstmtOp i - 1), Nat.zero_le _, by omega, fun _ => q1, fun z => ?_, Or.inr ⟨ha, lk_ng xstmtOp i - 1, by omega, ?_, ?_, (w5 _ (by omega)).1, p2⟩⟩
      · rw [ha] at z; exact absurd z (by decide)
      · rw [egp, if_pos hig]
      · rw [w6, if_pos hig]; decide
    · rcases hab with ⟨ha, _, _⟩ | ⟨ha, _⟩
      · refine ⟨C0, Nat.zero_le _, g1, fun z => ?_, fun _ => rfl, Or.inl ⟨hig, ?_, ?_, ?_, Or.inl ⟨ha, w3⟩⟩⟩
        · rw [ha] at z; exact absurd z (by decide)
        · rw [egp, hig, if_neg (by decide)]
        · rw [w6, hig, if_neg (by decide)]
        · rw [ha]; exact w1
      · refine ⟨C1, Nat.zero_le _, g2, fun _ => g3, fun z => ?_, Or.inl ⟨hig, ?_, ?_, ?_, Or.inr ⟨?_, w4⟩⟩⟩
        · rw [ha] at z; exact absurd z (by decide)
        · rw [egp, hig, if_neg (by decide)]
        · rw [w6, hig, if_neg (by decide)]
        · rw [ha]; exact w2
        · rw [ha]; decide
  obtain ⟨b, _, hb, hb256, hb0, hbase⟩ := base
  have hv := lk_al_b (x := b) hm
  have hc := lk_al_b (x := C0) hm
  obtain ⟨l, el⟩ : ∃ l, l = if xstmtA i = 1 ∧ xstmtB i = 1 then lk_al C0 m else lk_al b m := ⟨_, rfl⟩
  have hl1 : l ≤ 2000 + 4700 * i + 15 := by
    rw [el]; split <;> omega
  have hl2 : xoutRegion (lk_no xstmtOp i) = 0 → l = lk_al b m := by
    intro z
    rw [erg] at z
    rw [el, if_neg]
    intro y
    rw [z] at y
    exact absurd y.1 (by decide)
  have hl3 : xoutLoaded (lk_no xstmtOp i) = 1 → C0 ≤ l := by
    intro z
    rw [eld] at z
    rcases hab with ⟨ha, _, _⟩ | ⟨ha, _⟩
    · rw [el, if_neg (by rw [ha]; intro y; exact absurd y.1 (by decide)), hb0 ha]
      exact hc.1
    · rw [el, if_pos ⟨ha, z⟩]
      exact hc.1
  have WI' := lk_V_sec (v := lk_al b m) (l := l) hW hA hi ho his (by omega) hl1 (fun z => by have := hb256 (erg ▸ z); omega) hl2 hl3
  refine ⟨_, _, _, _, _, _, _, _, _, upd xoutAlign (lk_no xstmtOp i) (nI m), _, _, _, _, _, _, _, _, _, _, _, _, _, _, _, _, _, _, _, _, _, WI', fun post hp => ?_, fun post n hp => ?_⟩
  · have en : (nI (lk_no xstmtOp i)).toNatClampNeg = lk_no xstmtOp i := nI_clamp (by omega)
    have vn : vp_in (nI (lk_no xstmtOp i)) 8 := vp_in_nI (by omega) (by omega)
    have el' : l = if xoutRegion (lk_no xstmtOp i) = 1 ∧ xoutLoaded (lk_no xstmtOp i) = 1 then lk_al C0 m else lk_al b m := by rw [erg, eld]; exact el
    refine ⟨vi, nm_r (e' := nI (lk_no xstmtOp i)) (by rw [e, eox]) ⟨vi, nm_r (e' := 1) (by rw [e, ho]) ?_⟩⟩
    refine br_f (by decide) (br_f (by decide) (br_t rfl ?_))
    refine lx_ga hN.1 hl ⟨vn, ?_⟩
    rcases hbase with ⟨hig, z1, z2, z3, _⟩ | ⟨ha, g, hg, z1, z2, z3, _⟩
    · refine br_t (by rw [en]; exact z1) ⟨vn, ?_, lx_41 (by omega) (by rw [en, erg]; exact z3) em hm (by omega) w1 (by omega) rfl el' hp⟩
      rw [en, erg]
      rcases hab with ⟨ha, _, _⟩ | ⟨ha, _⟩
      · rw [ha]; exact vp_in_iff.mpr (by decide)
      · rw [ha]; exact vp_in_iff.mpr (by decide)
    · refine br_f (by rw [en, z1]; exact lk_nn1 (by omega)) ⟨vn, ?_, lx_41 (by omega) (by rw [en, z1, nI_clamp (by omega)]; exact z3) em hm (by omega) w1 (by omega) rfl el' hp⟩
      rw [en, z1]
      exact vp_in_nI hg (by omega)
  · refine br_f (nI_ge hi (by omega)) (br_f (nI_ge (b := 32) (by omega) (by omega)) ⟨vi, nm_r (e' := 1) (by rw [e, ho]) ⟨vi, nm_r (e' := xstmtA i) (by rw [e]) ⟨vi, nm_r (e' := xstmtB i) (by rw [e]) (br_t rfl ⟨vi, nm_r (e' := nI (lk_no xstmtOp i)) (by rw [e, eoy]) (ly_ga hN.1 hl ?_)⟩)⟩⟩⟩)
    rw [w3] at hp ⊢
    rcases hbase with ⟨hig, z1, z2, z3, z4⟩ | ⟨ha, g, hg, z1, z2, z3, z4⟩
    · refine br_t z2 ?_
      rcases z4 with ⟨ha, z5⟩ | ⟨ha, z5⟩
      · exact br_t ha (ly_117 (by omega) (w3.symm.trans z5) emy hm (by omega) (by omega) rfl el hp)
      · exact br_f ha (ly_117 (by omega) z5 emy hm (by omega) (by omega) rfl el hp)
    · exact br_f z2 (ly_117 (by omega) z4 emy hm (by omega) (by omega) rfl el hp)
end
