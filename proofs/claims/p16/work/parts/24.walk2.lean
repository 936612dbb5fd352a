
section
theorem lk_w_end {ns no ng ni nb nr : Nat} {xphase xopenOut xopenGroup : Int32} {xregionSize xcounter xmemory xstmtOp xstmtA xstmtB xstmtOwner xoutRegion xoutLoaded xoutGroup xoutAlign xoutVma xoutLma xoutDot xgroupStart xgroupEnd xgroupResident xinKind xinId xinAlign xinSize xinFirstByte xinStmt xinLive xinVma xfedBytes xrelocOwner xrelocOffset xrelocType xrelocTarget xrelocAddend ystOut youtSize ygStart ygEnd yinBss yinLen yinVma yinLma : Nat → Int32} {i C0 C1 : Nat} {V L D G0 GE IV : Nat → Nat} {c0 c1 g0 yge grp kk dot vma lma ing : Int32} (hS : ∀ i, i < ns → lk_sc xstmtOp xstmtA xstmtB xstmtOwner ystOut xoutRegion xoutLoaded xoutGroup i) (hno : no = lk_no xstmtOp ns) (hng : ng = lk_ng xstmtOp ns) (h8 : no ≤ 8) (h4 : ng ≤ 4) (hN : lk_N ni nb xinKind xinAlign xinSize xinFirstByte yinBss yinLen) (hA : lk_hA ni ns xstmtOp xinStmt xinLive) (hl : lk_hl ni no ns xinStmt xinLive xstmtOwner ystOut) (hi : i < ns) (hW : lk_WI ni xstmtOp xoutRegion xoutLoaded xinStmt xinLive (fun s => (xstmtOwner (xinStmt s).toNatClampNeg).toNatClampNeg) (fun s => (xinSize s).toNatClampNeg) i C0 C1 V L D G0 GE IV xcounter xoutVma xoutLma xoutDot xgroupStart xgroupEnd xinVma youtSize ygStart ygEnd yinVma yinLma c0 c1 g0 yge grp kk dot vma lma ing) (hU : lk_U xstmtOp xoutRegion xoutGroup i C1 V D G0 GE) (ho : xstmtOp i = 2) : ∃ (C0' C1' : Nat) (V' L' D' G0' GE' IV' : Nat → Nat) (ct oa vm lm dt gs ge xv os yg0 yg1 yv yl : Nat → Int32) (d0 d1 d2 d3 d4 d5 d6 d7 d8 d9 : Int32), lk_WI ni xstmtOp xoutRegion xoutLoaded xinStmt xinLive (fun s => (xstmtOwner (xinStmt s).toNatClampNeg).toNatClampNeg) (fun s => (xinSize s).toNatClampNeg) (i + 1) C0' C1' V' L' D' G0' GE' IV' ct vm lm dt gs ge xv os yg0 yg1 yv yl d0 d1 d2 d3 d4 d5 d6 d7 d8 d9 ∧ lk_U xstmtOp xoutRegion xoutGroup (i + 1) C1' V' D' G0' GE' ∧ (∀ post : Int32 → St2 → Prop, post 1 (xphase, (nI ns), xopenOut, xopenGroup, (nI no), (nI ng), (nI ni), (nI nb), (nI nr), xregionSize, ct, xmemory, xstmtOp, xstmtA, xstmtB, xstmtOwner, xoutRegion, xoutLoaded, xoutGroup, oa, vm, lm, dt, gs, ge, xgroupResident, xinKind, xinId, xinAlign, xinSize, xinFirstByte, xinStmt, xinLive, xv, xfedBytes, xrelocOwner, xrelocOffset, xrelocType, xrelocTarget, xrelocAddend) → wpX_place post (xphase, (nI ns), xopenOut, xopenGroup, (nI no), (nI ng), (nI ni), (nI nb), (nI nr), xregionSize, xcounter, xmemory, xstmtOp, xstmtA, xstmtB, xstmtOwner, xoutRegion, xoutLoaded, xoutGroup, xoutAlign, xoutVma, xoutLma, xoutDot, xgroupStart, xgroupEnd, xgroupResident, xinKind, xinId, xinAlign, xinSize, xinFirstByte, xinStmt, xinLive, xinVma, xfedBytes, xrelocOwner, xrelocOffset, xrelocType, xrelocTarget, xrelocAddend) (nI i)) := by
  have n32 := hA.1
  have e : (nI i).toNatClampNeg = i := nI_clamp (by omega)
  have vi : vp_in (nI i) 32 := vp_in_nI (by omega) (by omega)
  have sc : lk_is xstmtOp i = true ∧ xstmtOwner i = nI (lk_no xstmtOp i - 1) := by
    rcases hS i hi with ⟨h, _⟩ | ⟨_, h1, h2, _⟩ | ⟨h | h | h, _⟩ | ⟨h, _⟩ | ⟨h, _⟩
    · rw [ho] at h; exact absurd h (by decide)
    · exact ⟨h1, h2⟩
    all_goals rw [ho] at h; exact absurd h (by decide)
  obtain ⟨his, eox⟩ := sc
  have hgp := lk_S_g hS i (by omega) his
  have nm := lk_no_m (op := xstmtOp) (i := i) (ns - i)
  rw [show i + (ns - i) = ns by omega, ← hno] at nm
  have nglt := lk_ng_m (op := xstmtOp) (i := i) (ns - i)
  rw [show i + (ns - i) = ns by omega, ← hng] at nglt
  have hnt := lk_nc_t his
  have hof := lk_S_o hS ns (Nat.le_refl ns) (lk_nc xstmtOp i) (by omega)
  rw [show lk_no xstmtOp i - 1 = lk_nc xstmtOp i by omega] at eox hgp
  have hW2 := hW
  unfold lk_WI at hW2
  obtain ⟨⟨⟨g1, g2, g3, _, _⟩, g4, _, _, g5, g6, _⟩, ⟨w1, w2, w3, w4⟩, w8, _, w5, _, _, ⟨w6, _, w7⟩, w9, _⟩ := hW2
  obtain ⟨b1, b2, b3, b4, b5⟩ := g4 (lk_nc xstmtOp i) (by omega)
  have b6 := g5 (by omega)
  obtain ⟨ev, el, ed⟩ := w8 (lk_nc xstmtOp i) (by omega)
  obtain ⟨k1, k2, k3, k4⟩ := w9 (by omega)
  have V' := fun {C0' C1' : Nat} {GE' : Nat → Nat} {ct' ge' : Nat → Int32} {c0' c1' yge' : Int32} => lk_V_end (C0' := C0') (C1' := C1') (GE' := GE') (ct' := ct') (ge' := ge') (c0' := c0') (c1' := c1') (yge' := yge') hW hA hi ho his
  have hU2 := hU
  unfold lk_U at hU2
  rw [hnt] at hU2
  have U' := fun {C1' : Nat} {GE' : Nat → Nat} => lk_U_end (C1' := C1') (GE' := GE') (V := V) (D := D) (G0 := G0) (rg := xoutRegion) (gp := xoutGroup) ho his
  generalize lk_nc xstmtOp i = c at *
  have hc8 : c < 8 := by omega
  have ec : (nI c).toNatClampNeg = c := nI_clamp (by omega)
  have vc : vp_in (nI c) 8 := vp_in_nI hc8 (by omega)
  have esz : dot - vma = nI (D c - V c) := by rw [k2, k3, pk_sub b1]
  have evs : vma + nI (D c - V c) = nI (V c + (D c - V c)) := by rw [k3, nI_add]
  have evd : V c + (D c - V c) = D c := by omega
  have hge : ∀ g, g < lk_ng xstmtOp i → xgroupEnd g = nI (GE g) := fun g hg => (w5 g hg).2
  have xpre : ∀ (post : Int32 → St2 → Prop), wpX_endPlacing (fun u => post 1 u) (xphase, (nI ns), xopenOut, xopenGroup, (nI no), (nI ng), (nI ni), (nI nb), (nI nr), xregionSize, xcounter, xmemory, xstmtOp, xstmtA, xstmtB, xstmtOwner, xoutRegion, xoutLoaded, xoutGroup, xoutAlign, xoutVma, xoutLma, xoutDot, xgroupStart, xgroupEnd, xgroupResident, xinKind, xinId, xinAlign, xinSize, xinFirstByte, xinStmt, xinLive, xinVma, xfedBytes, xrelocOwner, xrelocOffset, xrelocType, xrelocTarget, xrelocAddend) (nI c) → wpX_place post (xphase, (nI ns), xopenOut, xopenGroup, (nI no), (nI ng), (nI ni), (nI nb), (nI nr), xregionSize, xcounter, xmemory, xstmtOp, xstmtA, xstmtB, xstmtOwner, xoutRegion, xoutLoaded, xoutGroup, xoutAlign, xoutVma, xoutLma, xoutDot, xgroupStart, xgroupEnd, xgroupResident, xinKind, xinId, xinAlign, xinSize, xinFirstByte, xinStmt, xinLive, xinVma, xfedBytes, xrelocOwner, xrelocOffset, xrelocType, xrelocTarget, xrelocAddend) (nI i) := by
    intro post h
    exact ⟨vi, nm_r (e' := nI c) (by rw [e, eox]) ⟨vi, nm_r (e' := 2) (by rw [e, ho]) (br_f (by decide) (br_f (by decide) (br_f (by decide) (br_t rfl h))))⟩⟩
  rcases hof with ⟨r1, r2, r3⟩ | ⟨r1, r2, r3⟩
  · have W1 := V' (C0' := L c + (D c - V c)) (C1' := C1) (GE' := GE) (ct' := upd (upd xcounter 0 (nI (D c))) 0 (nI (L c + (D c - V c)))) (ge' := xgroupEnd) (c0' := nI (V c + (D c - V c))) (c1' := c1) (yge' := yge) (by omega) (by have := b6 r2; omega) (fun _ => Nat.le_refl _) g2 g3 (fun g _ => Or.inl rfl) ⟨pk_us, by rw [pk_un (by decide), pk_un (by decide)]; exact w2, by rw [b5 r1], w4⟩ hge (fun g _ _ => rfl) (fun z => (w7 z).2.2)
    refine ⟨_, _, _, _, _, _, _, _, _, xoutAlign, _, _, _, _, _, _, _, _, _, _, _, _, _, _, _, _, _, _, _, _, _, W1, U' (lk_G2_e0 hU2 r1), fun post hp => xpre post ?_⟩
    · exact ⟨vc, nm_r (e' := -1) (by rw [ec, r3]) (br_t rfl ⟨vc, vc, by rw [ec, r1]; exact vp_in_iff.mpr (by decide), nm_r (e' := upd xcounter 0 (nI (D c))) (by rw [ec, r1, ed]; rfl) (lx_59 hc8 el ed ev b1 (fun _ => hp) (fun z => absurd r2 z))⟩)⟩
  · have nr0 : ¬ xoutRegion c = 0 := by rw [r1]; decide
    rcases Bool.eq_false_or_eq_true (lk_ig xstmtOp i) with hig | hig
    · obtain ⟨gs, hgs⟩ : ∃ g, lk_ng xstmtOp i = g + 1 := ⟨lk_ng xstmtOp i - 1, by have := (w7 hig).1; omega⟩
      obtain ⟨_, p2, p3⟩ := w7 hig
      rw [hig, if_pos rfl] at hgp w6
      rw [hgs, Nat.add_sub_cancel] at hgp p2 p3
      have ni0 : ¬ ing = 0 := by rw [w6]; decide
      have hgs4 : gs < 4 := by omega
      have vg : vp_in (nI gs) 4 := vp_in_nI hgs4 (by omega)
      have eg : (nI gs).toNatClampNeg = gs := nI_clamp (by omega)
      have egE := hge gs (by omega)
      obtain ⟨q1, q2, q3, _⟩ := g6 gs (by omega)
      by_cases c2 : D c ≤ GE gs
      · have xc : xoutDot (nI c).toNatClampNeg ≤ xgroupEnd (nI gs).toNatClampNeg := by rw [ec, eg, ed, egE, nI_leI (by omega) (by omega)]; exact c2
        have yc : vma + nI (D c - V c) ≤ yge := by rw [evs, p3, nI_leI (by omega) (by omega)]; omega
        by_cases c3 : xoutLoaded c = 1
        · have W1 := V' (C0' := L c + (D c - V c)) (C1' := C1) (GE' := GE) (ct' := upd xcounter 0 (nI (L c + (D c - V c)))) (ge' := xgroupEnd) (c0' := nI (L c + (D c - V c))) (c1' := c1) (yge' := yge) (by omega) (by have := b6 c3; omega) (fun _ => Nat.le_refl _) g2 g3 (fun g _ => Or.inl rfl) ⟨pk_us, by rw [pk_un (by decide)]; exact w2, rfl, w4⟩ hge (fun g _ _ => rfl) (fun z => (w7 z).2.2)
          refine ⟨_, _, _, _, _, _, _, _, _, xoutAlign, _, _, _, _, _, _, _, _, _, _, _, _, _, _, _, _, _, _, _, _, _, W1, U' (by rw [hgs, hig] at hU2 ⊢; exact lk_G2_e2 hU2 r1 hgp (by omega) (fun _ _ => rfl) (Nat.le_refl _) c2), fun post hp => xpre post ?_⟩
          · exact ⟨vc, nm_r (e' := nI gs) (by rw [ec, hgp]) (br_f (lk_nn1 (by omega)) ⟨vc, vg, br_t xc (lx_59 hc8 el ed ev b1 (fun _ => hp) (fun z => absurd c3 z))⟩)⟩
        · have W1 := V' (C0' := C0) (C1' := C1) (GE' := GE) (ct' := xcounter) (ge' := xgroupEnd) (c0' := c0) (c1' := c1) (yge' := yge) g1 (Nat.le_refl _) (fun z => absurd z c3) g2 g3 (fun g _ => Or.inl rfl) ⟨w1, w2, w3, w4⟩ hge (fun g _ _ => rfl) (fun z => (w7 z).2.2)
          refine ⟨_, _, _, _, _, _, _, _, _, xoutAlign, _, _, _, _, _, _, _, _, _, _, _, _, _, _, _, _, _, _, _, _, _, W1, U' (by rw [hgs, hig] at hU2 ⊢; exact lk_G2_e2 hU2 r1 hgp (by omega) (fun _ _ => rfl) (Nat.le_refl _) c2), fun post hp => xpre post ?_⟩
          · exact ⟨vc, nm_r (e' := nI gs) (by rw [ec, hgp]) (br_f (lk_nn1 (by omega)) ⟨vc, vg, br_t xc (lx_59 hc8 el ed ev b1 (fun z => absurd z c3) (fun _ => hp))⟩)⟩
      · have xc : ¬ xoutDot (nI c).toNatClampNeg ≤ xgroupEnd (nI gs).toNatClampNeg := by rw [ec, eg, ed, egE, nI_leI (by omega) (by omega)]; exact c2
        have yc : ¬ vma + nI (D c - V c) ≤ yge := by rw [evs, p3, nI_leI (by omega) (by omega)]; omega
        have G1 : ∀ g, g < lk_ng xstmtOp i → lk_up GE gs (D c) g = GE g ∨ (xoutRegion c = 1 ∧ lk_up GE gs (D c) g = D c ∧ GE g ≤ D c) := by
          intro g hg
          by_cases z : g = gs
          · subst z; exact Or.inr ⟨r1, lk_ups, by omega⟩
          · exact Or.inl (lk_upn z)
        have G2 : ∀ g, g < lk_ng xstmtOp i → upd xgroupEnd gs (nI (D c)) g = nI (lk_up GE gs (D c) g) := by
          intro g hg
          by_cases z : g = gs
          · subst z; rw [pk_us, lk_ups]
          · rw [pk_un z, lk_upn z]; exact hge g hg
        have G3 : ∀ g, g < lk_ng xstmtOp i → (lk_ig xstmtOp i = true → g + 1 < lk_ng xstmtOp i) → lk_up GE gs (D c) g = GE g := fun g _ hh => lk_upn (by have := hh hig; omega)
        have G4 : lk_ig xstmtOp i = true → nI (V c + (D c - V c)) = nI (lk_up GE gs (D c) (lk_ng xstmtOp i - 1)) := fun _ => by rw [hgs, Nat.add_sub_cancel, lk_ups, evd]
        by_cases c3 : xoutLoaded c = 1
        · have W1 := V' (C0' := L c + (D c - V c)) (C1' := C1) (GE' := lk_up GE gs (D c)) (ct' := upd xcounter 0 (nI (L c + (D c - V c)))) (ge' := upd xgroupEnd gs (nI (D c))) (c0' := nI (L c + (D c - V c))) (c1' := c1) (yge' := nI (V c + (D c - V c))) (by omega) (by have := b6 c3; omega) (fun _ => Nat.le_refl _) g2 g3 G1 ⟨pk_us, by rw [pk_un (by decide)]; exact w2, rfl, w4⟩ G2 G3 G4
          refine ⟨_, _, _, _, _, _, _, _, _, xoutAlign, _, _, _, _, _, _, _, _, _, _, _, _, _, _, _, _, _, _, _, _, _, W1, U' (by rw [hgs, hig] at hU2 ⊢; exact lk_G2_e2 hU2 r1 hgp (by omega) (fun g hg => lk_upn (by omega)) (by rw [lk_ups]; omega) (by rw [lk_ups]; exact Nat.le_refl _)), fun post hp => xpre post ?_⟩
          · exact ⟨vc, nm_r (e' := nI gs) (by rw [ec, hgp]) (br_f (lk_nn1 (by omega)) ⟨vc, vg, br_f xc ⟨vc, vg, nm_r (e' := upd xgroupEnd gs (nI (D c))) (by rw [ec, eg, ed]) (lx_59 hc8 el ed ev b1 (fun _ => hp) (fun z => absurd c3 z))⟩⟩)⟩
        · have W1 := V' (C0' := C0) (C1' := C1) (GE' := lk_up GE gs (D c)) (ct' := xcounter) (ge' := upd xgroupEnd gs (nI (D c))) (c0' := c0) (c1' := c1) (yge' := nI (V c + (D c - V c))) g1 (Nat.le_refl _) (fun z => absurd z c3) g2 g3 G1 ⟨w1, w2, w3, w4⟩ G2 G3 G4
          refine ⟨_, _, _, _, _, _, _, _, _, xoutAlign, _, _, _, _, _, _, _, _, _, _, _, _, _, _, _, _, _, _, _, _, _, W1, U' (by rw [hgs, hig] at hU2 ⊢; exact lk_G2_e2 hU2 r1 hgp (by omega) (fun g hg => lk_upn (by omega)) (by rw [lk_ups]; omega) (by rw [lk_ups]; exact Nat.le_refl _)), fun post hp => xpre post ?_⟩
          · exact ⟨vc, nm_r (e' := nI gs) (by rw [ec, hgp]) (br_f (lk_nn1 (by omega)) ⟨vc, vg, br_f xc ⟨vc, vg, nm_r (e' := upd xgroupEnd gs (nI (D c))) (by rw [ec, eg, ed]) (lx_59 hc8 el ed ev b1 (fun z => absurd z c3) (fun _ => hp))⟩⟩)⟩
    · rw [hig, if_neg (by decide)] at hgp w6
      by_cases c3 : xoutLoaded c = 1
      · have W1 := V' (C0' := L c + (D c - V c)) (C1' := D c) (GE' := GE) (ct' := upd (upd xcounter 1 (nI (D c))) 0 (nI (L c + (D c - V c)))) (ge' := xgroupEnd) (c0' := nI (L c + (D c - V c))) (c1' := nI (V c + (D c - V c))) (yge' := yge) (by omega) (by have := b6 c3; omega) (fun _ => Nat.le_refl _) b2 (by have := b4 r1; omega) (fun g _ => Or.inl rfl) ⟨pk_us, by rw [pk_un (by decide), pk_us], rfl, by rw [evd]⟩ hge (fun g _ _ => rfl) (fun z => (w7 z).2.2)
        refine ⟨_, _, _, _, _, _, _, _, _, xoutAlign, _, _, _, _, _, _, _, _, _, _, _, _, _, _, _, _, _, _, _, _, _, W1, U' (by rw [hig] at hU2 ⊢; exact lk_G2_e1 hU2 r1 hgp (by omega) b1), fun post hp => xpre post ?_⟩
        · exact ⟨vc, nm_r (e' := -1) (by rw [ec, hgp]) (br_t rfl ⟨vc, vc, by rw [ec, r1]; exact vp_in_iff.mpr (by decide), nm_r (e' := upd xcounter 1 (nI (D c))) (by rw [ec, r1, ed]; rfl) (lx_59 hc8 el ed ev b1 (fun _ => hp) (fun z => absurd c3 z))⟩)⟩
      · have W1 := V' (C0' := C0) (C1' := D c) (GE' := GE) (ct' := upd xcounter 1 (nI (D c))) (ge' := xgroupEnd) (c0' := c0) (c1' := nI (V c + (D c - V c))) (yge' := yge) g1 (Nat.le_refl _) (fun z => absurd z c3) b2 (by have := b4 r1; omega) (fun g _ => Or.inl rfl) ⟨by rw [pk_un (by decide)]; exact w1, pk_us, w3, by rw [evd]⟩ hge (fun g _ _ => rfl) (fun z => (w7 z).2.2)
        refine ⟨_, _, _, _, _, _, _, _, _, xoutAlign, _, _, _, _, _, _, _, _, _, _, _, _, _, _, _, _, _, _, _, _, _, W1, U' (by rw [hig] at hU2 ⊢; exact lk_G2_e1 hU2 r1 hgp (by omega) b1), fun post hp => xpre post ?_⟩
        · exact ⟨vc, nm_r (e' := -1) (by rw [ec, hgp]) (br_t rfl ⟨vc, vc, by rw [ec, r1]; exact vp_in_iff.mpr (by decide), nm_r (e' := upd xcounter 1 (nI (D c))) (by rw [ec, r1, ed]; rfl) (lx_59 hc8 el ed ev b1 (fun z => absurd z c3) (fun _ => hp))⟩)⟩
end
