
section
theorem lx_fill2 {post : St2 → Prop} {xphase xstmtCount xopenOut xopenGroup xoutCount xgroupCount xinCount xbyteCount xrelocCount : Int32} {xregionSize xcounter xmemory xstmtOp xstmtA xstmtB xstmtOwner xoutRegion xoutLoaded xoutGroup xoutAlign xoutVma xoutLma xoutDot xgroupStart xgroupEnd xgroupResident xinKind xinId xinAlign xinSize xinFirstByte xinStmt xinLive xinVma xfedBytes xrelocOwner xrelocOffset xrelocType xrelocTarget xrelocAddend : Nat → Int32} {s e : Nat} {v z w : Int32} (hz : z = nI s) (hw : w = nI e) (he : e ≤ 384) (hs : s < 2 ^ 31) (h : post (xphase, xstmtCount, xopenOut, xopenGroup, xoutCount, xgroupCount, xinCount, xbyteCount, xrelocCount, xregionSize, xcounter, (lk_wr xmemory s e (fun _ => v)), xstmtOp, xstmtA, xstmtB, xstmtOwner, xoutRegion, xoutLoaded, xoutGroup, xoutAlign, xoutVma, xoutLma, xoutDot, xgroupStart, xgroupEnd, xgroupResident, xinKind, xinId, xinAlign, xinSize, xinFirstByte, xinStmt, xinLive, xinVma, xfedBytes, xrelocOwner, xrelocOffset, xrelocType, xrelocTarget, xrelocAddend)) : wpX_fill post (xphase, xstmtCount, xopenOut, xopenGroup, xoutCount, xgroupCount, xinCount, xbyteCount, xrelocCount, xregionSize, xcounter, xmemory, xstmtOp, xstmtA, xstmtB, xstmtOwner, xoutRegion, xoutLoaded, xoutGroup, xoutAlign, xoutVma, xoutLma, xoutDot, xgroupStart, xgroupEnd, xgroupResident, xinKind, xinId, xinAlign, xinSize, xinFirstByte, xinStmt, xinLive, xinVma, xfedBytes, xrelocOwner, xrelocOffset, xrelocType, xrelocTarget, xrelocAddend) z w v := by
  subst hz
  subst hw
  exact lx_fill he hs h
theorem lx_lmaI {post : Int32 → Prop} {ns no ng ni nb nr : Nat} {xphase xopenOut xopenGroup : Int32} {xregionSize xcounter xmemory xstmtOp xstmtA xstmtB xstmtOwner xoutRegion xoutLoaded xoutGroup xoutAlign xoutVma xoutLma xoutDot xgroupStart xgroupEnd xgroupResident xinKind xinId xinAlign xinSize xinFirstByte xinStmt xinLive xinVma xfedBytes xrelocOwner xrelocOffset xrelocType xrelocTarget xrelocAddend : Nat → Int32} {s q k : Nat} {z : Int32} (hz : z = nI s) (hs : s < 16) (hq : q < 32) (hk : k < 8) (es : xinStmt s = nI q) (eq : xstmtOwner q = nI k) (h : post (xinVma s + xoutLma k - xoutVma k)) : wpX_lmaOfLive post (xphase, (nI ns), xopenOut, xopenGroup, (nI no), (nI ng), (nI ni), (nI nb), (nI nr), xregionSize, xcounter, xmemory, xstmtOp, xstmtA, xstmtB, xstmtOwner, xoutRegion, xoutLoaded, xoutGroup, xoutAlign, xoutVma, xoutLma, xoutDot, xgroupStart, xgroupEnd, xgroupResident, xinKind, xinId, xinAlign, xinSize, xinFirstByte, xinStmt, xinLive, xinVma, xfedBytes, xrelocOwner, xrelocOffset, xrelocType, xrelocTarget, xrelocAddend) z := by
  subst hz
  have e : (nI s).toNatClampNeg = s := nI_clamp (by omega)
  have e2 : (nI q).toNatClampNeg = q := nI_clamp (by omega)
  have e3 : (nI k).toNatClampNeg = k := nI_clamp (by omega)
  have v16 : vp_in (nI s) 16 := vp_in_nI hs (by omega)
  have v32 : vp_in (xinStmt (nI s).toNatClampNeg) 32 := by rw [e, es]; exact vp_in_nI hq (by omega)
  have eo : xstmtOwner (xinStmt (nI s).toNatClampNeg).toNatClampNeg = nI k := by rw [e, es, e2, eq]
  have v8 : vp_in (xstmtOwner (xinStmt (nI s).toNatClampNeg).toNatClampNeg) 8 := by rw [eo]; exact vp_in_nI hk (by omega)
  refine ⟨v16, v32, v16, v8, v8, ?_⟩
  rw [eo, e3, e]
  exact h
theorem lx_lma {post : Int32 → Prop} {ns no ng ni nb nr : Nat} {xphase xopenOut xopenGroup : Int32} {xregionSize xcounter xmemory xstmtOp xstmtA xstmtB xstmtOwner xoutRegion xoutLoaded xoutGroup xoutAlign xoutVma xoutLma xoutDot xgroupStart xgroupEnd xgroupResident xinKind xinId xinAlign xinSize xinFirstByte xinStmt xinLive xinVma xfedBytes xrelocOwner xrelocOffset xrelocType xrelocTarget xrelocAddend : Nat → Int32} {s q k iv l v : Nat} {z : Int32} (hz : z = nI s) (hs : s < 16) (hq : q < 32) (hk : k < 8) (es : xinStmt s = nI q) (eq : xstmtOwner q = nI k) (ei : xinVma s = nI iv) (el : xoutLma k = nI l) (ev : xoutVma k = nI v) (hv : v ≤ iv) (h : post (nI (l + (iv - v)))) : wpX_lmaOfLive post (xphase, (nI ns), xopenOut, xopenGroup, (nI no), (nI ng), (nI ni), (nI nb), (nI nr), xregionSize, xcounter, xmemory, xstmtOp, xstmtA, xstmtB, xstmtOwner, xoutRegion, xoutLoaded, xoutGroup, xoutAlign, xoutVma, xoutLma, xoutDot, xgroupStart, xgroupEnd, xgroupResident, xinKind, xinId, xinAlign, xinSize, xinFirstByte, xinStmt, xinLive, xinVma, xfedBytes, xrelocOwner, xrelocOffset, xrelocType, xrelocTarget, xrelocAddend) z := by
  refine lx_lmaI hz hs hq hk es eq ?_
  rw [ei, el, ev, nI_add, pk_sub (by omega), show iv + l - v = l + (iv - v) by omega]
  exact h
theorem lx_wf {post : St2 → Prop} {ns no ng ni nb nr : Nat} {xphase xopenOut xopenGroup : Int32} {xregionSize xcounter xmemory xstmtOp xstmtA xstmtB xstmtOwner xoutRegion xoutLoaded xoutGroup xoutAlign xoutVma xoutLma xoutDot xgroupStart xgroupEnd xgroupResident xinKind xinId xinAlign xinSize xinFirstByte xinStmt xinLive xinVma xfedBytes xrelocOwner xrelocOffset xrelocType xrelocTarget xrelocAddend : Nat → Int32} {s q k iv l v Z T : Nat} (hs : s < 16) (hq : q < 32) (hk : k < 8) (es : xinStmt s = nI q) (eq : xstmtOwner q = nI k) (ei : xinVma s = nI iv) (el : xoutLma k = nI l) (ev : xoutVma k = nI v) (hv : v ≤ iv) (ez : xinSize s = nI Z) (et : xinFirstByte s = nI T) (hT : T + Z ≤ 256) (hl : l + (iv - v) + Z ≤ 384) (h : post (xphase, (nI ns), xopenOut, xopenGroup, (nI no), (nI ng), (nI ni), (nI nb), (nI nr), xregionSize, xcounter, (lk_wr xmemory (l + (iv - v)) (l + (iv - v) + Z) (fun j => xfedBytes (xinFirstByte s + nI (j - (l + (iv - v)))).toNatClampNeg)), xstmtOp, xstmtA, xstmtB, xstmtOwner, xoutRegion, xoutLoaded, xoutGroup, xoutAlign, xoutVma, xoutLma, xoutDot, xgroupStart, xgroupEnd, xgroupResident, xinKind, xinId, xinAlign, xinSize, xinFirstByte, xinStmt, xinLive, xinVma, xfedBytes, xrelocOwner, xrelocOffset, xrelocType, xrelocTarget, xrelocAddend)) : wpX_writeFedBytes post (xphase, (nI ns), xopenOut, xopenGroup, (nI no), (nI ng), (nI ni), (nI nb), (nI nr), xregionSize, xcounter, xmemory, xstmtOp, xstmtA, xstmtB, xstmtOwner, xoutRegion, xoutLoaded, xoutGroup, xoutAlign, xoutVma, xoutLma, xoutDot, xgroupStart, xgroupEnd, xgroupResident, xinKind, xinId, xinAlign, xinSize, xinFirstByte, xinStmt, xinLive, xinVma, xfedBytes, xrelocOwner, xrelocOffset, xrelocType, xrelocTarget, xrelocAddend) (nI s) := by
  have e : (nI s).toNatClampNeg = s := nI_clamp (by omega)
  have v16 : vp_in (nI s) 16 := vp_in_nI hs (by omega)
  unfold wpX_writeFedBytes
  refine lx_lma rfl hs hq hk es eq ei el ev hv ⟨v16, nm_r (e' := nI Z) (by rw [e, ez]) ?_⟩
  generalize l + (iv - v) = a at h hl
  have H : ∀ d i, i + d = Z → wX_writeFedBytes_16 post (nI s) (nI a) (nI Z) xphase (nI ns) xopenOut xopenGroup (nI no) (nI ng) (nI ni) (nI nb) (nI nr) (d + 1) (nI i) xregionSize xcounter (lk_wr xmemory a (a + i) (fun j => xfedBytes (xinFirstByte s + nI (j - a)).toNatClampNeg)) xstmtOp xstmtA xstmtB xstmtOwner xoutRegion xoutLoaded xoutGroup xoutAlign xoutVma xoutLma xoutDot xgroupStart xgroupEnd xgroupResident xinKind xinId xinAlign xinSize xinFirstByte xinStmt xinLive xinVma xfedBytes xrelocOwner xrelocOffset xrelocType xrelocTarget xrelocAddend := by
    intro d
    induction d with
    | zero =>
      intro i hi
      have e1 : i = Z := hi
      subst e1
      exact br_t (nI_le (by omega) (by omega)) h
    | succ d ih =>
      intro i hi
      refine br_f (nI_ge (by omega) (by omega)) ⟨v16, by rw [e, et, nI_add]; exact vp_in_nI (by omega) (by omega), by rw [nI_add]; exact vp_in_nI (by omega) (by omega), nm_r ?_ (nm_r (nI_1 i) (ih (i + 1) (by omega)))⟩
      rw [nI_add, nI_clamp (by omega), e]
      refine lk_wr_s (by omega) ?_
      show _ = xfedBytes (xinFirstByte s + nI (a + i - a)).toNatClampNeg
      rw [Nat.add_sub_cancel_left]
  have H2 := H Z 0 (by omega)
  rw [lk_wr_e (show a + 0 ≤ a from Nat.le_refl a)] at H2
  exact ⟨_, H2⟩
theorem lx_rv {post : Int32 → Prop} {ns no ng ni nb nr : Nat} {xphase xopenOut xopenGroup : Int32} {xregionSize xcounter xmemory xstmtOp xstmtA xstmtB xstmtOwner xoutRegion xoutLoaded xoutGroup xoutAlign xoutVma xoutLma xoutDot xgroupStart xgroupEnd xgroupResident xinKind xinId xinAlign xinSize xinFirstByte xinStmt xinLive xinVma xfedBytes xrelocOwner xrelocOffset xrelocType xrelocTarget xrelocAddend : Nat → Int32} {yv yl : Nat → Int32} {r o t q k : Nat} (hr : r < 32) (h16 : ni ≤ 16) (eo : xrelocOwner r = nI o) (ho : o < ni) (et : xrelocTarget r = nI t) (ht : t < ni) (hq : q < 32) (hk : k < 8) (es : xinStmt t = nI q) (eq : xstmtOwner q = nI k) (e1 : yv t = xinVma t) (e2 : yv o = xinVma o) (e3 : yl t = xinVma t + xoutLma k - xoutVma k) (h : post (lk_rv ni xrelocOwner xrelocOffset xrelocType xrelocTarget xrelocAddend yv yl r)) : wpX_relocValue post (xphase, (nI ns), xopenOut, xopenGroup, (nI no), (nI ng), (nI ni), (nI nb), (nI nr), xregionSize, xcounter, xmemory, xstmtOp, xstmtA, xstmtB, xstmtOwner, xoutRegion, xoutLoaded, xoutGroup, xoutAlign, xoutVma, xoutLma, xoutDot, xgroupStart, xgroupEnd, xgroupResident, xinKind, xinId, xinAlign, xinSize, xinFirstByte, xinStmt, xinLive, xinVma, xfedBytes, xrelocOwner, xrelocOffset, xrelocType, xrelocTarget, xrelocAddend) (nI r) := by
  have e : (nI r).toNatClampNeg = r := nI_clamp (by omega)
  have ec : (nI t).toNatClampNeg = t := nI_clamp (by omega)
  have eoc : (nI o).toNatClampNeg = o := nI_clamp (by omega)
  have v32 : vp_in (nI r) 32 := vp_in_nI hr (by omega)
  have v16 : vp_in (nI t) 16 := vp_in_nI (by omega) (by omega)
  have vo : vp_in (xrelocOwner (nI r).toNatClampNeg) 16 := by rw [e, eo]; exact vp_in_nI (by omega) (by omega)
  unfold lk_rv at h
  rw [et, if_neg (nI_ge ht (by omega)), ec] at h
  refine ⟨v32, nm_r (e' := nI t) (by rw [e, et]) ⟨v32, nm_r (e' := xrelocType r) (by rw [e]) ?_⟩⟩
  by_cases a : xrelocType r = 1
  · rw [if_pos a, e1] at h
    refine br_t a ⟨v16, v32, ?_⟩
    rw [ec, e]
    exact h
  · rw [if_neg a] at h
    refine br_f a ?_
    by_cases b : xrelocType r = 2
    · rw [if_pos b, e3] at h
      refine br_t b (lx_lmaI rfl (by omega) hq hk es eq ⟨v32, ?_⟩)
      rw [e]
      exact h
    · rw [if_neg b, e1, eo, eoc, e2] at h
      refine br_f b ⟨v16, v32, v32, vo, v32, ?_⟩
      rw [ec, e, eo, eoc]
      exact h
theorem lx_wr {post : St2 → Prop} {ns no ng ni nb nr : Nat} {xphase xopenOut xopenGroup : Int32} {xregionSize xcounter xmemory xstmtOp xstmtA xstmtB xstmtOwner xoutRegion xoutLoaded xoutGroup xoutAlign xoutVma xoutLma xoutDot xgroupStart xgroupEnd xgroupResident xinKind xinId xinAlign xinSize xinFirstByte xinStmt xinLive xinVma xfedBytes xrelocOwner xrelocOffset xrelocType xrelocTarget xrelocAddend : Nat → Int32} {yv yl : Nat → Int32} {r o f t q k q2 k2 iv l v : Nat} (hr : r < 32) (h16 : ni ≤ 16) (eo : xrelocOwner r = nI o) (ho : o < ni) (ef : xrelocOffset r = nI f) (et : xrelocTarget r = nI t) (ht : t < ni) (hq : q < 32) (hk : k < 8) (es : xinStmt t = nI q) (eq : xstmtOwner q = nI k) (e1 : yv t = xinVma t) (e2 : yv o = xinVma o) (e3 : yl t = xinVma t + xoutLma k - xoutVma k)
    (hq2 : q2 < 32) (hk2 : k2 < 8) (es2 : xinStmt o = nI q2) (eq2 : xstmtOwner q2 = nI k2) (ei : xinVma o = nI iv) (el : xoutLma k2 = nI l) (ev : xoutVma k2 = nI v) (hv : v ≤ iv) (hl : l + (iv - v) + f + 2 ≤ 384)
    (h : post (xphase, (nI ns), xopenOut, xopenGroup, (nI no), (nI ng), (nI ni), (nI nb), (nI nr), xregionSize, xcounter, (upd (upd xmemory (l + (iv - v) + f) (lk_lo ni xrelocOwner xrelocOffset xrelocType xrelocTarget xrelocAddend yv yl r)) (l + (iv - v) + f + 1) (lk_hi ni xrelocOwner xrelocOffset xrelocType xrelocTarget xrelocAddend yv yl r)), xstmtOp, xstmtA, xstmtB, xstmtOwner, xoutRegion, xoutLoaded, xoutGroup, xoutAlign, xoutVma, xoutLma, xoutDot, xgroupStart, xgroupEnd, xgroupResident, xinKind, xinId, xinAlign, xinSize, xinFirstByte, xinStmt, xinLive, xinVma, xfedBytes, xrelocOwner, xrelocOffset, xrelocType, xrelocTarget, xrelocAddend)) : wpX_writeReloc post (xphase, (nI ns), xopenOut, xopenGroup, (nI no), (nI ng), (nI ni), (nI nb), (nI nr), xregionSize, xcounter, xmemory, xstmtOp, xstmtA, xstmtB, xstmtOwner, xoutRegion, xoutLoaded, xoutGroup, xoutAlign, xoutVma, xoutLma, xoutDot, xgroupStart, xgroupEnd, xgroupResident, xinKind, xinId, xinAlign, xinSize, xinFirstByte, xinStmt, xinLive, xinVma, xfedBytes, xrelocOwner, xrelocOffset, xrelocType, xrelocTarget, xrelocAddend) (nI r) := by
  have e : (nI r).toNatClampNeg = r := nI_clamp (by omega)
  have v32 : vp_in (nI r) 32 := vp_in_nI hr (by omega)
  refine ⟨v32, lx_lma (by rw [e, eo]) (by omega) hq2 hk2 es2 eq2 ei el ev hv ⟨v32, nm_r (e' := nI (l + (iv - v) + f)) (by rw [e, ef, nI_add]) (lx_rv hr h16 eo ho et ht hq hk es eq e1 e2 e3 ⟨vp_in_nI (by omega) (by omega), nm_r (by rw [nI_clamp (by omega)]) ⟨by rw [nI_1]; exact vp_in_nI (by omega) (by omega), nm_r (by rw [nI_1, nI_clamp (by omega)]; rfl) h⟩⟩)⟩⟩
theorem lx_rom1 {ns no ng ni nb nr : Nat} {xphase xopenOut xopenGroup : Int32} {xregionSize xcounter xmemory xstmtOp xstmtA xstmtB xstmtOwner xoutRegion xoutLoaded xoutGroup xoutAlign xoutVma xoutLma xoutDot xgroupStart xgroupEnd xgroupResident xinKind xinId xinAlign xinSize xinFirstByte xinStmt xinLive xinVma xfedBytes xrelocOwner xrelocOffset xrelocType xrelocTarget xrelocAddend : Nat → Int32} {V L D : Nat → Nat} (hk : lk_hk no xoutRegion xoutVma xoutLma V L D) (hd : ∀ k, k < no → xoutDot k = nI (D k)) (h128 : ∀ k, k < no → xoutLoaded k = 1 → L k + (D k - V k) ≤ 128) (n32 : ns ≤ 32) : ∀ d k, k + d = no → ∀ m : Nat → Int32, lk_I1 xoutLoaded L D V xmemory k m → ∃ m' : Nat → Int32, lk_I1 xoutLoaded L D V xmemory no m' ∧ ∀ post : St2 → Prop, (∃ n, wX_writeRom_46 post n 0 xphase (nI ns) xopenOut xopenGroup (nI no) (nI ng) (nI ni) (nI nb) (nI nr) xregionSize xcounter m' xstmtOp xstmtA xstmtB xstmtOwner xoutRegion xoutLoaded xoutGroup xoutAlign xoutVma xoutLma xoutDot xgroupStart xgroupEnd xgroupResident xinKind xinId xinAlign xinSize xinFirstByte xinStmt xinLive xinVma xfedBytes xrelocOwner xrelocOffset xrelocType xrelocTarget xrelocAddend) → wX_writeRom_2 post (d + 1) (nI k) xphase (nI ns) xopenOut xopenGroup (nI no) (nI ng) (nI ni) (nI nb) (nI nr) xregionSize xcounter m xstmtOp xstmtA xstmtB xstmtOwner xoutRegion xoutLoaded xoutGroup xoutAlign xoutVma xoutLma xoutDot xgroupStart xgroupEnd xgroupResident xinKind xinId xinAlign xinSize xinFirstByte xinStmt xinLive xinVma xfedBytes xrelocOwner xrelocOffset xrelocType xrelocTarget xrelocAddend := by
  obtain ⟨h8, hk⟩ := hk
  intro d
  induction d with
  | zero =>
    intro k hkd m hm
    have e1 : k = no := hkd
    subst e1
    exact ⟨m, hm, fun post hp => br_t (nI_le (by omega) (by omega)) hp⟩
  | succ d ih =>
    intro k hkd m hm
    obtain ⟨_, ev, el, hvd, _, _, _⟩ := hk k (by omega)
    have ed := hd k (by omega)
    have e : (nI k).toNatClampNeg = k := nI_clamp (by omega)
    have v8 : vp_in (nI k) 8 := vp_in_nI (by omega) (by omega)
    have n1 : ¬ nI no ≤ nI k := nI_ge (by omega) (by omega)
    by_cases a : xoutLoaded k = 1
    · have hb := h128 k (by omega) a
      obtain ⟨m', j1, j2⟩ := ih (k + 1) (by omega) _ (lk_I1_s hm a)
      exact ⟨m', j1, fun post hp => br_f n1 ⟨v8, br_t (by rw [e]; exact a) (lx_le (by omega) el ed ev hvd ⟨v8, lx_fill2 (by rw [e, el]) rfl (by omega) (by omega) (nm_r (nI_1 k) (j2 post hp))⟩)⟩⟩
    · obtain ⟨m', j1, j2⟩ := ih (k + 1) (by omega) m (lk_I1_n hm a)
      exact ⟨m', j1, fun post hp => br_f n1 ⟨v8, br_f (by rw [e]; exact a) (nm_r (nI_1 k) (j2 post hp))⟩⟩
theorem lx_rom2 {ns no ng ni nb nr : Nat} {xphase xopenOut xopenGroup : Int32} {xregionSize xcounter xstmtOp xstmtA xstmtB xstmtOwner xoutRegion xoutLoaded xoutGroup xoutAlign xoutVma xoutLma xoutDot xgroupStart xgroupEnd xgroupResident xinKind xinId xinAlign xinSize xinFirstByte xinStmt xinLive xinVma xfedBytes xrelocOwner xrelocOffset xrelocType xrelocTarget xrelocAddend : Nat → Int32} {V L D IV : Nat → Nat} {oy yv yl yinBss yinLen m1 : Nat → Int32} (hk : lk_hk no xoutRegion xoutVma xoutLma V L D) (hd : ∀ k, k < no → xoutDot k = nI (D k)) (h128 : ∀ k, k < no → xoutLoaded k = 1 → L k + (D k - V k) ≤ 128) (n32 : ns ≤ 32) (hF : ∀ s, s < ni → xinLive s = 1 → ∃ q k, q < ns ∧ xinStmt s = nI q ∧ xstmtOwner q = nI k ∧ oy q = nI k ∧ k < no ∧ xinVma s = nI (IV s) ∧ yv s = nI (IV s) ∧ IV s < 2 ^ 30 ∧ yl s = nI (IV s) + (xoutLma k - xoutVma k)) (hG : ∀ s, s < ni → xinLive s = 1 → V (xstmtOwner (xinStmt s).toNatClampNeg).toNatClampNeg ≤ IV s ∧ IV s + (xinSize s).toNatClampNeg ≤ D (xstmtOwner (xinStmt s).toNatClampNeg).toNatClampNeg) (hLd : ∀ s, s < ni → xinLive s = 1 → ¬ xinKind s = 3 → xoutLoaded (xstmtOwner (xinStmt s).toNatClampNeg).toNatClampNeg = 1) (hN : lk_N ni nb xinKind xinAlign xinSize xinFirstByte yinBss yinLen) (dj : lk_dj ni (fun s => xinLive s = 1 ∧ ¬ xinKind s = 3) (fun s => L (xstmtOwner (xinStmt s).toNatClampNeg).toNatClampNeg + (IV s - V (xstmtOwner (xinStmt s).toNatClampNeg).toNatClampNeg)) (fun s => (xinSize s).toNatClampNeg)) : ∀ d s, s + d = ni → ∀ m : Nat → Int32, lk_I2 (fun s => xinLive s = 1 ∧ ¬ xinKind s = 3) (fun s => L (xstmtOwner (xinStmt s).toNatClampNeg).toNatClampNeg + (IV s - V (xstmtOwner (xinStmt s).toNatClampNeg).toNatClampNeg)) (fun s => (xinSize s).toNatClampNeg) (fun s p => xfedBytes (xinFirstByte s + nI p).toNatClampNeg) m1 s m → ∃ m' : Nat → Int32, lk_I2 (fun s => xinLive s = 1 ∧ ¬ xinKind s = 3) (fun s => L (xstmtOwner (xinStmt s).toNatClampNeg).toNatClampNeg + (IV s - V (xstmtOwner (xinStmt s).toNatClampNeg).toNatClampNeg)) (fun s => (xinSize s).toNatClampNeg) (fun s p => xfedBytes (xinFirstByte s + nI p).toNatClampNeg) m1 ni m' ∧ ∀ post : St2 → Prop, (∃ n, wX_writeRom_87 post n 0 xphase (nI ns) xopenOut xopenGroup (nI no) (nI ng) (nI ni) (nI nb) (nI nr) xregionSize xcounter m' xstmtOp xstmtA xstmtB xstmtOwner xoutRegion xoutLoaded xoutGroup xoutAlign xoutVma xoutLma xoutDot xgroupStart xgroupEnd xgroupResident xinKind xinId xinAlign xinSize xinFirstByte xinStmt xinLive xinVma xfedBytes xrelocOwner xrelocOffset xrelocType xrelocTarget xrelocAddend) → wX_writeRom_46 post (d + 1) (nI s) xphase (nI ns) xopenOut xopenGroup (nI no) (nI ng) (nI ni) (nI nb) (nI nr) xregionSize xcounter m xstmtOp xstmtA xstmtB xstmtOwner xoutRegion xoutLoaded xoutGroup xoutAlign xoutVma xoutLma xoutDot xgroupStart xgroupEnd xgroupResident xinKind xinId xinAlign xinSize xinFirstByte xinStmt xinLive xinVma xfedBytes xrelocOwner xrelocOffset xrelocType xrelocTarget xrelocAddend := by
  obtain ⟨h8, hk⟩ := hk
  have h16 := hN.1
  intro d
  induction d with
  | zero =>
    intro s hs m hm
    have e1 : s = ni := hs
    subst e1
    exact ⟨m, hm, fun post hp => br_t (nI_le (by omega) (by omega)) hp⟩
  | succ d ih =>
    intro s hs m hm
    have e : (nI s).toNatClampNeg = s := nI_clamp (by omega)
    have v16 : vp_in (nI s) 16 := vp_in_nI (by omega) (by omega)
    have n1 : ¬ nI ni ≤ nI s := nI_ge (by omega) (by omega)
    by_cases a : xinLive s = 1
    · by_cases b : xinKind s = 3
      · obtain ⟨m', j1, j2⟩ := ih (s + 1) (by omega) m (lk_I2_n hm (fun z => z.2 b))
        exact ⟨m', j1, fun post hp => br_f n1 ⟨v16, br_t (by rw [e]; exact a) ⟨v16, br_t (by rw [e]; exact b) (nm_r (nI_1 s) (j2 post hp))⟩⟩⟩
      · obtain ⟨q, k, hq, es, eq, _, hkn, ei, _, _, _⟩ := hF s (by omega) a
        obtain ⟨_, ev, el, hvd, _, _, _⟩ := hk k hkn
        obtain ⟨A, T, Z, Q, _, _, et, _, hTZ, ez, d7⟩ := hN.2.2 s (by omega)
        have hQZ : Q = Z := by
          rcases d7 with ⟨z, _⟩ | ⟨_, z⟩
          · exact absurd z b
          · exact z
        have hnb := hN.2.1
        have own : (xstmtOwner (xinStmt s).toNatClampNeg).toNatClampNeg = k := by rw [es, nI_clamp (by omega), eq, nI_clamp (by omega)]
        have g := hG s (by omega) a
        have gl := hLd s (by omega) a b
        rw [own] at g gl
        have hb := h128 k hkn gl
        have esz : (xinSize s).toNatClampNeg = Q := by rw [ez, nI_clamp (by omega)]
        rw [esz] at g
        have hI := lk_I2_s (m' := lk_wr m (L k + (IV s - V k)) (L k + (IV s - V k) + Q) (fun j => xfedBytes (xinFirstByte s + nI (j - (L k + (IV s - V k)))).toNatClampNeg)) dj (show s < ni by omega) (show xinLive s = 1 ∧ ¬ xinKind s = 3 from ⟨a, b⟩) hm (fun p hp => by
            have hp2 : p < Q := by have : p < (xinSize s).toNatClampNeg := hp; rw [esz] at this; exact this
            show lk_wr m (L k + (IV s - V k)) (L k + (IV s - V k) + Q) _ (L (xstmtOwner (xinStmt s).toNatClampNeg).toNatClampNeg + (IV s - V (xstmtOwner (xinStmt s).toNatClampNeg).toNatClampNeg) + p) = _
            rw [own, lk_wr_t (by omega) (by omega), Nat.add_sub_cancel_left]) (fun j hj => by
            have hj2 : ¬ (L (xstmtOwner (xinStmt s).toNatClampNeg).toNatClampNeg + (IV s - V (xstmtOwner (xinStmt s).toNatClampNeg).toNatClampNeg) ≤ j ∧ j < L (xstmtOwner (xinStmt s).toNatClampNeg).toNatClampNeg + (IV s - V (xstmtOwner (xinStmt s).toNatClampNeg).toNatClampNeg) + (xinSize s).toNatClampNeg) := hj
            rw [own, esz] at hj2
            exact lk_wr_f hj2)
        obtain ⟨m', j1, j2⟩ := ih (s + 1) (by omega) _ hI
        exact ⟨m', j1, fun post hp => br_f n1 ⟨v16, br_t (by rw [e]; exact a) ⟨v16, br_f (by rw [e]; exact b) (lx_wf (by omega) (by omega) (by omega) es eq ei el ev g.1 ez et (by omega) (by omega) (nm_r (nI_1 s) (j2 post hp)))⟩⟩⟩
    · obtain ⟨m', j1, j2⟩ := ih (s + 1) (by omega) m (lk_I2_n hm (fun z => a z.1))
      exact ⟨m', j1, fun post hp => br_f n1 ⟨v16, br_f (by rw [e]; exact a) (nm_r (nI_1 s) (j2 post hp))⟩⟩
end
