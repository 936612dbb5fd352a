
section
/-! startup and loadOverlay -/
theorem lq_ib {post : Int32 → Prop} {xphase xstmtCount xopenOut xopenGroup xoutCount xgroupCount xinCount xbyteCount xrelocCount : Int32} {xregionSize xcounter xmemory xstmtOp xstmtA xstmtB xstmtOwner xoutRegion xoutLoaded xoutGroup xoutAlign xoutVma xoutLma xoutDot xgroupStart xgroupEnd xgroupResident xinKind xinId xinAlign xinSize xinFirstByte xinStmt xinLive xinVma xfedBytes xrelocOwner xrelocOffset xrelocType xrelocTarget xrelocAddend : Nat → Int32} {k x l v : Nat} (hk : k < 8) (ev : xoutVma k = nI v) (el : xoutLma k = nI l) (hv : v ≤ x) (hl : xoutLoaded k = 1 → l + (x - v) < 384) (h : post (if xoutLoaded k = 1 then xmemory (l + (x - v)) else 0)) : wpX_imageByte post (xphase, xstmtCount, xopenOut, xopenGroup, xoutCount, xgroupCount, xinCount, xbyteCount, xrelocCount, xregionSize, xcounter, xmemory, xstmtOp, xstmtA, xstmtB, xstmtOwner, xoutRegion, xoutLoaded, xoutGroup, xoutAlign, xoutVma, xoutLma, xoutDot, xgroupStart, xgroupEnd, xgroupResident, xinKind, xinId, xinAlign, xinSize, xinFirstByte, xinStmt, xinLive, xinVma, xfedBytes, xrelocOwner, xrelocOffset, xrelocType, xrelocTarget, xrelocAddend) (nI k) (nI x) := by
  have e : (nI k).toNatClampNeg = k := nI_clamp (by omega)
  have v8 : vp_in (nI k) 8 := vp_in_nI hk (by omega)
  refine ⟨v8, ?_⟩
  by_cases a : xoutLoaded k = 1
  · have hb := hl a
    have ex : xoutLma (nI k).toNatClampNeg + nI x - xoutVma (nI k).toNatClampNeg = nI (l + (x - v)) := by rw [e, el, ev, nI_add, pk_sub (by omega), show l + x - v = l + (x - v) by omega]
    rw [if_pos a] at h
    refine br_t (by rw [e]; exact a) ⟨v8, v8, by rw [ex]; exact vp_in_nI hb (by omega), ?_⟩
    rw [ex, nI_clamp (by omega)]
    exact h
  · rw [if_neg a] at h
    exact br_f (by rw [e]; exact a) h
theorem lq_ini {post : St2 → Prop} {xphase xstmtCount xopenOut xopenGroup xoutCount xgroupCount xinCount xbyteCount xrelocCount : Int32} {xregionSize xcounter xmemory xstmtOp xstmtA xstmtB xstmtOwner xoutRegion xoutLoaded xoutGroup xoutAlign xoutVma xoutLma xoutDot xgroupStart xgroupEnd xgroupResident xinKind xinId xinAlign xinSize xinFirstByte xinStmt xinLive xinVma xfedBytes xrelocOwner xrelocOffset xrelocType xrelocTarget xrelocAddend : Nat → Int32} {k v d l : Nat} (hk : k < 8) (ev : xoutVma k = nI v) (ed : xoutDot k = nI d) (el : xoutLma k = nI l) (hvd : v ≤ d) (h256 : 256 ≤ v) (hd : d ≤ 384) (hl : xoutLoaded k = 1 → l + (d - v) ≤ 128) (h : post (xphase, xstmtCount, xopenOut, xopenGroup, xoutCount, xgroupCount, xinCount, xbyteCount, xrelocCount, xregionSize, xcounter, (lk_wr xmemory v d (fun j => if xoutLoaded k = 1 then xmemory (l + (j - v)) else 0)), xstmtOp, xstmtA, xstmtB, xstmtOwner, xoutRegion, xoutLoaded, xoutGroup, xoutAlign, xoutVma, xoutLma, xoutDot, xgroupStart, xgroupEnd, xgroupResident, xinKind, xinId, xinAlign, xinSize, xinFirstByte, xinStmt, xinLive, xinVma, xfedBytes, xrelocOwner, xrelocOffset, xrelocType, xrelocTarget, xrelocAddend)) : wpX_initialise post (xphase, xstmtCount, xopenOut, xopenGroup, xoutCount, xgroupCount, xinCount, xbyteCount, xrelocCount, xregionSize, xcounter, xmemory, xstmtOp, xstmtA, xstmtB, xstmtOwner, xoutRegion, xoutLoaded, xoutGroup, xoutAlign, xoutVma, xoutLma, xoutDot, xgroupStart, xgroupEnd, xgroupResident, xinKind, xinId, xinAlign, xinSize, xinFirstByte, xinStmt, xinLive, xinVma, xfedBytes, xrelocOwner, xrelocOffset, xrelocType, xrelocTarget, xrelocAddend) (nI k) := by
  have e : (nI k).toNatClampNeg = k := nI_clamp (by omega)
  have v8 : vp_in (nI k) 8 := vp_in_nI hk (by omega)
  have H : ∀ c x, x + c = d → v ≤ x → wX_initialise_14 post (nI k) (nI d) xphase xstmtCount xopenOut xopenGroup xoutCount xgroupCount xinCount xbyteCount xrelocCount (c + 1) (nI x) xregionSize xcounter (lk_wr xmemory v x (fun j => if xoutLoaded k = 1 then xmemory (l + (j - v)) else 0)) xstmtOp xstmtA xstmtB xstmtOwner xoutRegion xoutLoaded xoutGroup xoutAlign xoutVma xoutLma xoutDot xgroupStart xgroupEnd xgroupResident xinKind xinId xinAlign xinSize xinFirstByte xinStmt xinLive xinVma xfedBytes xrelocOwner xrelocOffset xrelocType xrelocTarget xrelocAddend := by
    intro c
    induction c with
    | zero =>
      intro x hx _
      have e1 : x = d := hx
      subst e1
      exact br_t (nI_le (by omega) (by omega)) h
    | succ c ih =>
      intro x hx hvx
      refine br_f (nI_ge (by omega) (by omega)) (lq_ib hk ev el hvx (fun a => by have := hl a; omega) ⟨vp_in_nI (by omega) (by omega), nm_r ?_ (nm_r (nI_1 x) (ih (x + 1) (by omega) (by omega)))⟩)
      rw [nI_clamp (by omega)]
      refine lk_wr_s hvx ?_
      by_cases a : xoutLoaded k = 1
      · have hb := hl a
        rw [if_pos a, if_pos a, lk_wr_f (by omega)]
      · rw [if_neg a, if_neg a]
  have H2 := H (d - v) v (by omega) (Nat.le_refl v)
  rw [lk_wr_0] at H2
  exact ⟨v8, nm_r (e' := nI d) (by rw [e, ed]) ⟨v8, nm_r (e' := nI v) (by rw [e, ev]) ⟨_, H2⟩⟩⟩
theorem lq_su {P : St2 → Prop} {no R0 R1 : Nat} {u : St2} (I : lq_L 1 no R0 R1 u) (KK : ∀ u, lq_L 2 no R0 R1 u → P u) : wpX_startup (fun _ u => P u) u := by
  obtain ⟨xphase, xstmtCount, xopenOut, xopenGroup, xoutCount, xgroupCount, xinCount, xbyteCount, xrelocCount, xregionSize, xcounter, xmemory, xstmtOp, xstmtA, xstmtB, xstmtOwner, xoutRegion, xoutLoaded, xoutGroup, xoutAlign, xoutVma, xoutLma, xoutDot, xgroupStart, xgroupEnd, xgroupResident, xinKind, xinId, xinAlign, xinSize, xinFirstByte, xinStmt, xinLive, xinVma, xfedBytes, xrelocOwner, xrelocOffset, xrelocType, xrelocTarget, xrelocAddend⟩ := u
  obtain ⟨ng, V, L, D, G0, GE, me0, e1, e2, e3, hZ, hK, hM⟩ := I
  subst e1
  subst e2
  subst e3
  obtain ⟨h8, h4, hof, hk, has, hg, ⟨C1, hG⟩, hr⟩ := id hK
  have hR1 : R1 ≤ 128 := hZ.2.2.2.2.2
  have hR0 : R0 ≤ 128 := hZ.2.2.2.1
  rcases hM with ⟨_, hM⟩ | ⟨z, _⟩
  · have S2 : ∀ d k, k + d = no → ∀ m : Nat → Int32, lq_M R1 k ng xoutRegion xoutLoaded xoutGroup xgroupResident V L D G0 GE xmemory m → wX_startup_45 (fun _ u => P u) (d + 1) (nI k) 1 xstmtCount xopenOut xopenGroup (nI no) (nI ng) xinCount xbyteCount xrelocCount xregionSize xcounter m xstmtOp xstmtA xstmtB xstmtOwner xoutRegion xoutLoaded xoutGroup xoutAlign xoutVma xoutLma xoutDot xgroupStart xgroupEnd xgroupResident xinKind xinId xinAlign xinSize xinFirstByte xinStmt xinLive xinVma xfedBytes xrelocOwner xrelocOffset xrelocType xrelocTarget xrelocAddend := by
      intro d
      induction d with
      | zero =>
        intro k hkd m hm
        have e1 : k = no := hkd
        subst e1
        exact br_t (nI_le (by omega) (by omega)) (KK _ ⟨ng, V, L, D, G0, GE, xmemory, rfl, rfl, rfl, hZ, hK, Or.inr ⟨rfl, hm⟩⟩)
      | succ d ih =>
        intro k hkd m hm
        have hkn : k < no := by omega
        obtain ⟨t1, t2, t3, t4, t5, t6, t7⟩ := hk k hkn
        have e : (nI k).toNatClampNeg = k := nI_clamp (by omega)
        have v8 : vp_in (nI k) 8 := vp_in_nI (by omega) (by omega)
        have n1 : ¬ nI no ≤ nI k := nI_ge (by omega) (by omega)
        rcases hof k hkn with ⟨r, _, rg1⟩ | ⟨r, _, rg1⟩
        · have r' : ¬ xoutRegion (nI k).toNatClampNeg = 1 := by rw [e, r]; decide
          refine br_f n1 ⟨v8, br_f r' (nm_r (nI_1 k) (ih (k + 1) (by omega) m (lq_M_n (fun z => ?_) (fun g hgn z => ?_) hm)))⟩
          · rw [r] at z
            exact absurd z.1 (by decide)
          · rcases hr g hgn with y | ⟨q, hq, y, yg⟩
            · exact lk_nn1 (show k < 2 ^ 31 by omega) (z.symm.trans y)
            · have eq : k = q := (nI_eq (by omega) (by omega)).mp (z.symm.trans y)
              rw [← eq, rg1] at yg
              exact lk_nn1 (show g < 2 ^ 31 by omega) yg.symm
        · have r' : xoutRegion (nI k).toNatClampNeg = 1 := by rw [e]; exact r
          obtain ⟨t8, t9⟩ := t5 r
          have hl : xoutLoaded k = 1 → L k + (D k - V k) ≤ 128 := fun z => by have := t7 z; omega
          rcases rg1 with z | ⟨g, hgn, z⟩
          · have hm2 := lq_M_w hG h8 hkn r (Or.inl z) t8 hl hm
            exact br_f n1 ⟨v8, br_t r' ⟨v8, br_t (by rw [e]; exact z) (lq_ini (by omega) t1 t3 t2 t4 t8 (by omega) hl (nm_r (nI_1 k) (ih (k + 1) (by omega) _ hm2)))⟩⟩
          · have eg : (nI g).toNatClampNeg = g := nI_clamp (by omega)
            have z' : xoutGroup (nI k).toNatClampNeg = nI g := by rw [e]; exact z
            have nz : ¬ xoutGroup (nI k).toNatClampNeg = -1 := by rw [z']; exact lk_nn1 (by omega)
            have vg : vp_in (xoutGroup (nI k).toNatClampNeg) 4 := by rw [z']; exact vp_in_nI (by omega) (by omega)
            by_cases c : xgroupResident g = nI k
            · have hm2 := lq_M_w hG h8 hkn r (Or.inr ⟨g, hgn, z, c⟩) t8 hl hm
              exact br_f n1 ⟨v8, br_t r' ⟨v8, br_f nz ⟨v8, br_f nz ⟨v8, vg, br_t (by rw [z', eg]; exact c) (br_f (by decide) (lq_ini (by omega) t1 t3 t2 t4 t8 (by omega) hl (nm_r (nI_1 k) (ih (k + 1) (by omega) _ hm2))))⟩⟩⟩⟩
            · refine br_f n1 ⟨v8, br_t r' ⟨v8, br_f nz ⟨v8, br_f nz ⟨v8, vg, br_f (by rw [z', eg]; exact c) (br_t rfl (nm_r (nI_1 k) (ih (k + 1) (by omega) m (lq_M_n (fun y => ?_) (fun f hfn y => ?_) hm))))⟩⟩⟩⟩
              · rw [z] at y
                exact lk_nn1 (show g < 2 ^ 31 by omega) y.2
              · rcases hr f hfn with w | ⟨q, hq, w, wg⟩
                · exact lk_nn1 (show k < 2 ^ 31 by omega) (y.symm.trans w)
                · have eq : k = q := (nI_eq (by omega) (by omega)).mp (y.symm.trans w)
                  rw [← eq, z] at wg
                  have ef : g = f := (nI_eq (by omega) (by omega)).mp wg
                  rw [← ef] at y
                  exact c y
    have S1 : ∀ d g, g + d = ng → ∀ m : Nat → Int32, lq_P R1 g G0 GE xmemory m → wX_startup_12 (fun _ u => P u) (d + 1) (nI g) 1 xstmtCount xopenOut xopenGroup (nI no) (nI ng) xinCount xbyteCount xrelocCount xregionSize xcounter m xstmtOp xstmtA xstmtB xstmtOwner xoutRegion xoutLoaded xoutGroup xoutAlign xoutVma xoutLma xoutDot xgroupStart xgroupEnd xgroupResident xinKind xinId xinAlign xinSize xinFirstByte xinStmt xinLive xinVma xfedBytes xrelocOwner xrelocOffset xrelocType xrelocTarget xrelocAddend := by
      intro d
      induction d with
      | zero =>
        intro g hgd m hm
        have e1 : g = ng := hgd
        subst e1
        exact br_t (nI_le (by omega) (by omega)) ⟨_, S2 no 0 (by omega) m (lq_M_0 hm)⟩
      | succ d ih =>
        intro g hgd m hm
        obtain ⟨s1, s2, s3, s4, s5, s6⟩ := hg g (by omega)
        have e : (nI g).toNatClampNeg = g := nI_clamp (by omega)
        have v4 : vp_in (nI g) 4 := vp_in_nI (by omega) (by omega)
        exact br_f (nI_ge (by omega) (by omega)) ⟨v4, v4, lx_fill3 (s := G0 g) (e := GE g) (by rw [e]; exact s1) (by rw [e]; exact s2) (by omega) (by omega) (nm_r (nI_1 g) (ih (g + 1) (by omega) _ (lq_P_s hm s3)))⟩
    exact br_t rfl ⟨_, S1 ng 0 (by omega) xmemory (lq_P_0 hR1 hM)⟩
  · exact absurd z (by decide)
theorem lq_lo {P : St2 → Prop} {no R0 R1 : Nat} {u : St2} {v1 : Int32} (I : lq_L 2 no R0 R1 u) (KK : ∀ u, lq_L 2 no R0 R1 u → P u) : wpX_loadOverlay (fun _ u => P u) u v1 := by
  have J := KK _ I
  obtain ⟨xphase, xstmtCount, xopenOut, xopenGroup, xoutCount, xgroupCount, xinCount, xbyteCount, xrelocCount, xregionSize, xcounter, xmemory, xstmtOp, xstmtA, xstmtB, xstmtOwner, xoutRegion, xoutLoaded, xoutGroup, xoutAlign, xoutVma, xoutLma, xoutDot, xgroupStart, xgroupEnd, xgroupResident, xinKind, xinId, xinAlign, xinSize, xinFirstByte, xinStmt, xinLive, xinVma, xfedBytes, xrelocOwner, xrelocOffset, xrelocType, xrelocTarget, xrelocAddend⟩ := u
  obtain ⟨ng, V, L, D, G0, GE, me, e1, e2, e3, hZ, hK, hM⟩ := I
  subst e1
  subst e2
  subst e3
  obtain ⟨h8, h4, hof, hk, has, hg, ⟨C1, hG⟩, hr⟩ := id hK
  have hR1 : R1 ≤ 128 := hZ.2.2.2.2.2
  have hR0 : R0 ≤ 128 := hZ.2.2.2.1
  rcases hM with ⟨z, _⟩ | ⟨_, hM⟩
  · exact absurd z (by decide)
  rcases pk_ix v1 (n := no) (by omega) with c | c | ⟨k, hkn, rfl⟩
  · exact br_t rfl (br_t c J)
  · by_cases c0 : v1 < 0
    · exact br_t rfl (br_t c0 J)
    · exact br_t rfl (br_f c0 (br_t c J))
  · have e : (nI k).toNatClampNeg = k := nI_clamp (by omega)
    have v8 : vp_in (nI k) 8 := vp_in_nI (by omega) (by omega)
    have p1 : ¬ nI k < 0 := nI_pos (by omega)
    have p2 : ¬ nI no ≤ nI k := nI_ge (by omega) (by omega)
    obtain ⟨t1, t2, t3, t4, t5, t6, t7⟩ := hk k hkn
    have gg : xoutGroup k = -1 ∨ (xoutRegion k = 1 ∧ ∃ g, g < ng ∧ xoutGroup k = nI g) := by
      rcases hof k hkn with ⟨_, _, z⟩ | ⟨r, _, z | z⟩
      · exact Or.inl z
      · exact Or.inl z
      · exact Or.inr ⟨r, z⟩
    rcases gg with z | ⟨r, g, hgn, z⟩
    · exact br_t rfl (br_f p1 (br_f p2 ⟨v8, br_t (by rw [e]; exact z) J⟩))
    · obtain ⟨t8, t9⟩ := t5 r
      obtain ⟨s1, s2, s3, s4, s5, s6⟩ := hg g hgn
      have eg : (nI g).toNatClampNeg = g := nI_clamp (by omega)
      have hl : xoutLoaded k = 1 → L k + (D k - V k) ≤ 128 := fun z => by have := t7 z; omega
      have v4 : vp_in (nI g) 4 := vp_in_nI (by omega) (by omega)
      refine br_t rfl (br_f p1 (br_f p2 ⟨v8, br_f (by rw [e, z]; exact lk_nn1 (by omega)) ⟨v8, nm_r (e' := nI g) (by rw [e]; exact z) ⟨v4, v4, lx_fill3 (s := G0 g) (e := GE g) (by rw [eg]; exact s1) (by rw [eg]; exact s2) (by omega) (by omega) (lq_ini (by omega) t1 t3 t2 t4 t8 (by omega) hl ⟨v4, nm_e (KK _ ?_)⟩)⟩⟩⟩))
      rw [eg]
      refine ⟨ng, V, L, D, G0, GE, me, rfl, rfl, rfl, hZ, ⟨h8, h4, hof, hk, has, hg, ⟨C1, hG⟩, fun f hfn => ?_⟩, Or.inr ⟨rfl, lq_M_o hG h8 hkn hgn r z s3 t8 hl hM⟩⟩
      by_cases c : f = g
      · rw [c, pk_us]
        exact Or.inr ⟨k, hkn, rfl, z⟩
      · rw [pk_un c]
        exact hr f hfn
end
