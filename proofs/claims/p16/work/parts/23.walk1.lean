
section
theorem lk_w_sec {ns no ng ni nb nr : Nat} {xphase xopenOut xopenGroup : Int32} {xregionSize xcounter xmemory xstmtOp xstmtA xstmtB xstmtOwner xoutRegion xoutLoaded xoutGroup xoutAlign xoutVma xoutLma xoutDot xgroupStart xgroupEnd xgroupResident xinKind xinId xinAlign xinSize xinFirstByte xinStmt xinLive xinVma xfedBytes xrelocOwner xrelocOffset xrelocType xrelocTarget xrelocAddend ystOut youtSize ygStart ygEnd yinBss yinLen yinVma yinLma : Nat → Int32} {i C0 C1 : Nat} {V L D G0 GE IV : Nat → Nat} {c0 c1 g0 yge grp kk dot vma lma ing : Int32} (hS : ∀ i, i < ns → lk_sc xstmtOp xstmtA xstmtB xstmtOwner ystOut xoutRegion xoutLoaded xoutGroup i) (hno : no = lk_no xstmtOp ns) (hng : ng = lk_ng xstmtOp ns) (h8 : no ≤ 8) (h4 : ng ≤ 4) (hN : lk_N ni nb xinKind xinAlign xinSize xinFirstByte yinBss yinLen) (hA : lk_hA ni ns xstmtOp xinStmt xinLive) (hl : lk_hl ni no ns xinStmt xinLive xstmtOwner ystOut) (hi : i < ns) (hW : lk_WI ni xstmtOp xoutRegion xoutLoaded xinStmt xinLive (fun s => (xstmtOwner (xinStmt s).toNatClampNeg).toNatClampNeg) (fun s => (xinSize s).toNatClampNeg) i C0 C1 V L D G0 GE IV xcounter xoutVma xoutLma xoutDot xgroupStart xgroupEnd xinVma youtSize ygStart ygEnd yinVma yinLma c0 c1 g0 yge grp kk dot vma lma ing) (hU : lk_U xstmtOp xoutRegion xoutGroup i C1 V D G0 GE) (ho : xstmtOp i = 1) : ∃ (C0' C1' : Nat) (V' L' D' G0' GE' IV' : Nat → Nat) (ct oa vm lm dt gs ge xv os yg0 yg1 yv yl : Nat → Int32) (d0 d1 d2 d3 d4 d5 d6 d7 d8 d9 : Int32), lk_WI ni xstmtOp xoutRegion xoutLoaded xinStmt xinLive (fun s => (xstmtOwner (xinStmt s).toNatClampNeg).toNatClampNeg) (fun s => (xinSize s).toNatClampNeg) (i + 1) C0' C1' V' L' D' G0' GE' IV' ct vm lm dt gs ge xv os yg0 yg1 yv yl d0 d1 d2 d3 d4 d5 d6 d7 d8 d9 ∧ lk_U xstmtOp xoutRegion xoutGroup (i + 1) C1' V' D' G0' GE' ∧ (∀ post : Int32 → St2 → Prop, post 1 (xphase, (nI ns), xopenOut, xopenGroup, (nI no), (nI ng), (nI ni), (nI nb), (nI nr), xregionSize, ct, xmemory, xstmtOp, xstmtA, xstmtB, xstmtOwner, xoutRegion, xoutLoaded, xoutGroup, oa, vm, lm, dt, gs, ge, xgroupResident, xinKind, xinId, xinAlign, xinSize, xinFirstByte, xinStmt, xinLive, xv, xfedBytes, xrelocOwner, xrelocOffset, xrelocType, xrelocTarget, xrelocAddend) → wpX_place post (xphase, (nI ns), xopenOut, xopenGroup, (nI no), (nI ng), (nI ni), (nI nb), (nI nr), xregionSize, xcounter, xmemory, xstmtOp, xstmtA, xstmtB, xstmtOwner, xoutRegion, xoutLoaded, xoutGroup, xoutAlign, xoutVma, xoutLma, xoutDot, xgroupStart, xgroupEnd, xgroupResident, xinKind, xinId, xinAlign, xinSize, xinFirstByte, xinStmt, xinLive, xinVma, xfedBytes, xrelocOwner, xrelocOffset, xrelocType, xrelocTarget, xrelocAddend) (nI i)) := by
  have n32 := hA.1
  have e : (nI i).toNatClampNeg = i := nI_clamp (by omega)
  have vi : vp_in (nI i) 32 := vp_in_nI (by omega) (by omega)
  have sc : xstmtOp i = 1 ∧ lk_is xstmtOp i = false ∧ ((xstmtA i = 0 ∧ xstmtB i = 1 ∧ lk_ig xstmtOp i = false) ∨ (xstmtA i = 1 ∧ (xstmtB i = 0 ∨ xstmtB i = 1))) ∧ xstmtOwner i = nI (lk_no xstmtOp i) ∧ ystOut i = nI (lk_no xstmtOp i) ∧ xoutRegion (lk_no xstmtOp i) = xstmtA i ∧ xoutLoaded (lk_no xstmtOp i) = xstmtB i ∧ xoutGroup (lk_no xstmtOp i) = (if lk_ig xstmtOp i = true then nI (lk_ng xstmtOp i - 1) else -1) := by
    rcases hS i hi with h | ⟨h | h | h, _⟩ | ⟨h | h | h, _⟩ | ⟨h, _⟩ | ⟨h, _⟩
    · exact h
    all_goals rw [ho] at h; exact absurd h (by decide)
  obtain ⟨_, his, hab, eox, eoy, erg, eld, egp⟩ := sc
  have hlt := lk_no_lt ho hi
  rw [← hno] at hlt
  obtain ⟨m, hm, em⟩ := lk_ga_A (p := lk_gp xstmtOwner xinStmt xinLive (nI (lk_no xstmtOp i))) (al := xinAlign) ni (fun s hs => by obtain ⟨A, _, _, _, a1, a2, _⟩ := hN.2.2 s hs; exact ⟨A, a1, a2⟩)
  have emy : lk_ga (lk_gp ystOut xinStmt xinLive (nI (lk_no xstmtOp i))) xinAlign ni = nI m := by rw [lk_ga_cg ni (lk_gp_cg hl), em]
  have hW2 := hW
  unfold lk_WI at hW2
  obtain ⟨⟨⟨g1, g2, g3, _, _⟩, _, _, _, _, g6, _⟩, ⟨w1, w2, w3, w4⟩, _, _, w5, _, _, ⟨w6, _, w7⟩, _⟩ := hW2
  have nglt := lk_ng_m (op := xstmtOp) (i := i) (ns - i)
  rw [show i + (ns - i) = ns by omega, ← hng] at nglt
  have hmb := lk_A_b hm
  have hU4 : lk_ig xstmtOp i = true → C1 = G0 (lk_ng xstmtOp i - 1) := fun z => by
    have h9 := hU
    unfold lk_U at h9
    exact (h9.2.2.2.1 z).2.symm
  -- the base
  have base : ∃ b, 0 ≤ b ∧ b ≤ 2000 + 4700 * i ∧ (xstmtA i = 1 → 256 ≤ b ∧ C1 ≤ b) ∧ (xstmtA i = 0 → b = C0) ∧
      ((lk_ig xstmtOp i = false ∧ xoutGroup (lk_no xstmtOp i) = -1 ∧ ing = 0 ∧ xcounter (xstmtA i).toNatClampNeg = nI b ∧ ((xstmtA i = 0 ∧ c0 = nI b) ∨ (¬ xstmtA i = 0 ∧ c1 = nI b))) ∨
       (xstmtA i = 1 ∧ ∃ g, g < 4 ∧ xoutGroup (lk_no xstmtOp i) = nI g ∧ ¬ ing = 0 ∧ xgroupStart g = nI b ∧ g0 = nI b)) := by
    rcases Bool.eq_false_or_eq_true (lk_ig xstmtOp i) with hig | hig
    · have ha : xstmtA i = 1 := by
        rcases hab with ⟨_, _, z⟩ | ⟨z, _⟩
        · rw [hig] at z; exact Bool.noConfusion z
        · exact z
      obtain ⟨p1, p2, _⟩ := w7 hig
      obtain ⟨q1, q2, q3, _⟩ := g6 (lk_ng xstmtOp i - 1) (by omega)
      refine ⟨G0 (lk_ng xstmtOp i - 1), Nat.zero_le _, by omega, fun _ => ⟨q1, Nat.le_of_eq (hU4 hig)⟩, fun z => ?_, Or.inr ⟨ha, lk_ng xstmtOp i - 1, by omega, ?_, ?_, (w5 _ (by omega)).1, p2⟩⟩
      · rw [ha] at z; exact absurd z (by decide)
      · rw [egp, if_pos hig]
      · rw [w6, if_pos hig]; decide
    · rcases hab with ⟨ha, _, _⟩ | ⟨ha, _⟩
      · refine ⟨C0, Nat.zero_le _, g1, fun z => ?_, fun _ => rfl, Or.inl ⟨hig, ?_, ?_, ?_, Or.inl ⟨ha, w3⟩⟩⟩
        · rw [ha] at z; exact absurd z (by decide)
        · rw [egp, hig, if_neg (by decide)]
        · rw [w6, hig, if_neg (by decide)]
        · rw [ha]; exact w1
      · refine ⟨C1, Nat.zero_le _, g2, fun _ => ⟨g3, Nat.le_refl _⟩, fun z => ?_, Or.inl ⟨hig, ?_, ?_, ?_, Or.inr ⟨?_, w4⟩⟩⟩
        · rw [ha] at z; exact absurd z (by decide)
        · rw [egp, hig, if_neg (by decide)]
        · rw [w6, hig, if_neg (by decide)]
        · rw [ha]; exact w2
        · rw [ha]; decide
  obtain ⟨b, _, hb, hb256, hb0, hbase⟩ := base
  have hv := lk_al_b (x := b) hm
  have hc := lk_al_b (x := C0) hm
  obtain ⟨l, el⟩ : ∃ l, l = if xstmtA i = 1 ∧ xstmtB i = 1 then lk_al C0 m else lk_al b m := ⟨_, rfl⟩
  have hl1 : l ≤ 2000 + 4700 * i + 15 := by
    rw [el]; split <;> omega
  have hl2 : xoutRegion (lk_no xstmtOp i) = 0 → l = lk_al b m := by
    intro z
    rw [erg] at z
    rw [el, if_neg]
    intro y
    rw [z] at y
    exact absurd y.1 (by decide)
  have hl3 : xoutLoaded (lk_no xstmtOp i) = 1 → C0 ≤ l := by
    intro z
    rw [eld] at z
    rcases hab with ⟨ha, _, _⟩ | ⟨ha, _⟩
    · rw [el, if_neg (by rw [ha]; intro y; exact absurd y.1 (by decide)), hb0 ha]
      exact hc.1
    · rw [el, if_pos ⟨ha, z⟩]
      exact hc.1
  have WI' := lk_V_sec (v := lk_al b m) (l := l) hW hA hi ho his (by omega) hl1 (fun z => by have := (hb256 (erg ▸ z)).1; omega) hl2 hl3
  refine ⟨_, _, _, _, _, _, _, _, _, upd xoutAlign (lk_no xstmtOp i) (nI m), _, _, _, _, _, _, _, _, _, _, _, _, _, _, _, _, _, _, _, _, _, WI', lk_U_sec hU ho his (by omega) egp (lk_S_oi hS i (by omega)) (fun z => by have := (hb256 (erg ▸ z)).2; omega), fun post hp => ?_⟩
  · have en : (nI (lk_no xstmtOp i)).toNatClampNeg = lk_no xstmtOp i := nI_clamp (by omega)
    have vn : vp_in (nI (lk_no xstmtOp i)) 8 := vp_in_nI (by omega) (by omega)
    have el' : l = if xoutRegion (lk_no xstmtOp i) = 1 ∧ xoutLoaded (lk_no xstmtOp i) = 1 then lk_al C0 m else lk_al b m := by rw [erg, eld]; exact el
    refine ⟨vi, nm_r (e' := nI (lk_no xstmtOp i)) (by rw [e, eox]) ⟨vi, nm_r (e' := 1) (by rw [e, ho]) ?_⟩⟩
    refine br_f (by decide) (br_f (by decide) (br_t rfl ?_))
    refine lx_ga hN.1 hl ⟨vn, ?_⟩
    rcases hbase with ⟨hig, z1, z2, z3, _⟩ | ⟨ha, g, hg, z1, z2, z3, _⟩
    · refine br_t (by rw [en]; exact z1) ⟨vn, ?_, lx_41 (by omega) (by rw [en, erg]; exact z3) em hm (by omega) w1 (by omega) rfl el' hp⟩
      rw [en, erg]
      rcases hab with ⟨ha, _, _⟩ | ⟨ha, _⟩
      · rw [ha]; exact vp_in_iff.mpr (by decide)
      · rw [ha]; exact vp_in_iff.mpr (by decide)
    · refine br_f (by rw [en, z1]; exact lk_nn1 (by omega)) ⟨vn, ?_, lx_41 (by omega) (by rw [en, z1, nI_clamp (by omega)]; exact z3) em hm (by omega) w1 (by omega) rfl el' hp⟩
      rw [en, z1]
      exact vp_in_nI hg (by omega)
end
