
section
theorem lx_rom3 {ns no ng ni nb nr : Nat} {xphase xopenOut xopenGroup : Int32} {xregionSize xcounter xstmtOp xstmtA xstmtB xstmtOwner xoutRegion xoutLoaded xoutGroup xoutAlign xoutVma xoutLma xoutDot xgroupStart xgroupEnd xgroupResident xinKind xinId xinAlign xinSize xinFirstByte xinStmt xinLive xinVma xfedBytes xrelocOwner xrelocOffset xrelocType xrelocTarget xrelocAddend : Nat → Int32} {V L D IV : Nat → Nat} {oy yv yl yinBss yinLen m1 : Nat → Int32} (hk : lk_hk no xoutRegion xoutVma xoutLma V L D) (hd : ∀ k, k < no → xoutDot k = nI (D k)) (h128 : ∀ k, k < no → xoutLoaded k = 1 → L k + (D k - V k) ≤ 128) (n32 : ns ≤ 32) (hF : ∀ s, s < ni → xinLive s = 1 → ∃ q k, q < ns ∧ xinStmt s = nI q ∧ xstmtOwner q = nI k ∧ oy q = nI k ∧ k < no ∧ xinVma s = nI (IV s) ∧ yv s = nI (IV s) ∧ IV s < 2 ^ 30 ∧ yl s = nI (IV s) + (xoutLma k - xoutVma k)) (hG : ∀ s, s < ni → xinLive s = 1 → V (xstmtOwner (xinStmt s).toNatClampNeg).toNatClampNeg ≤ IV s ∧ IV s + (xinSize s).toNatClampNeg ≤ D (xstmtOwner (xinStmt s).toNatClampNeg).toNatClampNeg) (hLd : ∀ s, s < ni → xinLive s = 1 → ¬ xinKind s = 3 → xoutLoaded (xstmtOwner (xinStmt s).toNatClampNeg).toNatClampNeg = 1) (hN : lk_N ni nb xinKind xinAlign xinSize xinFirstByte yinBss yinLen) (hQ : lk_Q nr ni xinKind yinLen xrelocOwner xrelocOffset xrelocTarget) (hcl : ∀ r, r < nr → xinLive (xrelocOwner r).toNatClampNeg = 1 → ∃ t, t < ni ∧ xrelocTarget r = nI t ∧ xinLive t = 1) (dj : lk_dj ni (fun s => xinLive s = 1 ∧ ¬ xinKind s = 3) (fun s => L (xstmtOwner (xinStmt s).toNatClampNeg).toNatClampNeg + (IV s - V (xstmtOwner (xinStmt s).toNatClampNeg).toNatClampNeg)) (fun s => (xinSize s).toNatClampNeg)) : ∀ d r, r + d = nr → ∀ m : Nat → Int32, lk_I3 ni (fun s => xinLive s = 1 ∧ ¬ xinKind s = 3) (fun s => L (xstmtOwner (xinStmt s).toNatClampNeg).toNatClampNeg + (IV s - V (xstmtOwner (xinStmt s).toNatClampNeg).toNatClampNeg)) (fun s => (xinSize s).toNatClampNeg) xrelocOwner xrelocOffset (lk_lo ni xrelocOwner xrelocOffset xrelocType xrelocTarget xrelocAddend yv yl) (lk_hi ni xrelocOwner xrelocOffset xrelocType xrelocTarget xrelocAddend yv yl) (fun s p => xfedBytes (xinFirstByte s + nI p).toNatClampNeg) m1 r m → ∃ m' : Nat → Int32, lk_I3 ni (fun s => xinLive s = 1 ∧ ¬ xinKind s = 3) (fun s => L (xstmtOwner (xinStmt s).toNatClampNeg).toNatClampNeg + (IV s - V (xstmtOwner (xinStmt s).toNatClampNeg).toNatClampNeg)) (fun s => (xinSize s).toNatClampNeg) xrelocOwner xrelocOffset (lk_lo ni xrelocOwner xrelocOffset xrelocType xrelocTarget xrelocAddend yv yl) (lk_hi ni xrelocOwner xrelocOffset xrelocType xrelocTarget xrelocAddend yv yl) (fun s p => xfedBytes (xinFirstByte s + nI p).toNatClampNeg) m1 nr m' ∧ ∀ post : St2 → Prop, post (xphase, (nI ns), xopenOut, xopenGroup, (nI no), (nI ng), (nI ni), (nI nb), (nI nr), xregionSize, xcounter, m', xstmtOp, xstmtA, xstmtB, xstmtOwner, xoutRegion, xoutLoaded, xoutGroup, xoutAlign, xoutVma, xoutLma, xoutDot, xgroupStart, xgroupEnd, xgroupResident, xinKind, xinId, xinAlign, xinSize, xinFirstByte, xinStmt, xinLive, xinVma, xfedBytes, xrelocOwner, xrelocOffset, xrelocType, xrelocTarget, xrelocAddend) → wX_writeRom_87 post (d + 1) (nI r) xphase (nI ns) xopenOut xopenGroup (nI no) (nI ng) (nI ni) (nI nb) (nI nr) xregionSize xcounter m xstmtOp xstmtA xstmtB xstmtOwner xoutRegion xoutLoaded xoutGroup xoutAlign xoutVma xoutLma xoutDot xgroupStart xgroupEnd xgroupResident xinKind xinId xinAlign xinSize xinFirstByte xinStmt xinLive xinVma xfedBytes xrelocOwner xrelocOffset xrelocType xrelocTarget xrelocAddend := by
  obtain ⟨h8, hk⟩ := hk
  have h16 := hN.1
  have hnb := hN.2.1
  have hr32 := hQ.1
  have hlen : ∀ s, s < ni → (fun s => (xinSize s).toNatClampNeg) s < 2 ^ 30 := by
    intro s hs
    obtain ⟨A, T, Z, Q, _, _, _, _, hTZ, ez, d7⟩ := hN.2.2 s hs
    show (xinSize s).toNatClampNeg < 2 ^ 30
    have : Q ≤ 256 := by rcases d7 with ⟨_, _, z, _⟩ | ⟨_, z⟩ <;> omega
    rw [ez, nI_clamp (by omega)]
    omega
  intro d
  induction d with
  | zero =>
    intro r hr m hm
    have e1 : r = nr := hr
    subst e1
    exact ⟨m, hm, fun post hp => br_t (nI_le (by omega) (by omega)) hp⟩
  | succ d ih =>
    intro r hr m hm
    obtain ⟨o, f, t0, Z, ho, eo, nk3, eln, hZ, hf, ef, _, _⟩ := hQ.2 r (by omega)
    have e : (nI r).toNatClampNeg = r := nI_clamp (by omega)
    have eoc : (nI o).toNatClampNeg = o := nI_clamp (by omega)
    have v32 : vp_in (nI r) 32 := vp_in_nI (by omega) (by omega)
    have v16 : vp_in (xrelocOwner (nI r).toNatClampNeg) 16 := by rw [e, eo]; exact vp_in_nI (by omega) (by omega)
    have n1 : ¬ nI nr ≤ nI r := nI_ge (by omega) (by omega)
    by_cases a : xinLive o = 1
    · obtain ⟨t, ht, et, lt⟩ := hcl r (by omega) (by rw [eo, eoc]; exact a)
      obtain ⟨q, k, hq, es, eq, _, hkn, ei, ey, _, eyl⟩ := hF t ht lt
      obtain ⟨q2, k2, hq2, es2, eq2, _, hkn2, ei2, ey2, _, _⟩ := hF o ho a
      obtain ⟨_, ev, el, hvd, _, _, _⟩ := hk k2 hkn2
      obtain ⟨A, T, Z', Q, _, _, _, eln2, hTZ, ez, d7⟩ := hN.2.2 o ho
      have hZZ : Z' = Z := (nI_eq (by omega) (by omega)).mp (eln2.symm.trans eln)
      have hQZ : Q = Z := by
        rcases d7 with ⟨z, _⟩ | ⟨_, z⟩
        · exact absurd z nk3
        · omega
      have own : (xstmtOwner (xinStmt o).toNatClampNeg).toNatClampNeg = k2 := by rw [es2, nI_clamp (by omega), eq2, nI_clamp (by omega)]
      have g := hG o ho a
      have gl := hLd o ho a nk3
      rw [own] at g gl
      have hb := h128 k2 hkn2 gl
      have esz : (xinSize o).toNatClampNeg = Z := by rw [ez, nI_clamp (by omega), hQZ]
      rw [esz] at g
      have hI := lk_I3_s dj (by omega) hlen ho eo ef (show f + 2 ≤ (xinSize o).toNatClampNeg by rw [esz]; exact hf) (show xinLive o = 1 ∧ ¬ xinKind o = 3 from ⟨a, nk3⟩) hm
      rw [own] at hI
      obtain ⟨m', j1, j2⟩ := ih (r + 1) (by omega) _ hI
      refine ⟨m', j1, fun post hp => br_f n1 ⟨v32, v16, br_t (by rw [e, eo, eoc]; exact a) (lx_wr (yv := yv) (yl := yl) (by omega) h16 eo ho ef et ht (by omega) (by omega) es eq (by rw [ey, ei]) (by rw [ey2, ei2]) (by rw [eyl, ei, lk_asc]) (by omega) (by omega) es2 eq2 ei2 el ev g.1 (by omega) (nm_r (nI_1 r) (j2 post hp)))⟩⟩
    · obtain ⟨m', j1, j2⟩ := ih (r + 1) (by omega) m (lk_I3_n (by omega) ho eo (fun z => a z.1) hm)
      exact ⟨m', j1, fun post hp => br_f n1 ⟨v32, v16, br_f (by rw [e, eo, eoc]; exact a) (nm_r (nI_1 r) (j2 post hp))⟩⟩
theorem lx_rom {ns no ng ni nb nr : Nat} {xphase xopenOut xopenGroup : Int32} {xregionSize xcounter xmemory xstmtOp xstmtA xstmtB xstmtOwner xoutRegion xoutLoaded xoutGroup xoutAlign xoutVma xoutLma xoutDot xgroupStart xgroupEnd xgroupResident xinKind xinId xinAlign xinSize xinFirstByte xinStmt xinLive xinVma xfedBytes xrelocOwner xrelocOffset xrelocType xrelocTarget xrelocAddend : Nat → Int32} {V L D IV : Nat → Nat} {oy yv yl yinBss yinLen : Nat → Int32} (hk : lk_hk no xoutRegion xoutVma xoutLma V L D) (hd : ∀ k, k < no → xoutDot k = nI (D k)) (h128 : ∀ k, k < no → xoutLoaded k = 1 → L k + (D k - V k) ≤ 128) (n32 : ns ≤ 32) (hF : ∀ s, s < ni → xinLive s = 1 → ∃ q k, q < ns ∧ xinStmt s = nI q ∧ xstmtOwner q = nI k ∧ oy q = nI k ∧ k < no ∧ xinVma s = nI (IV s) ∧ yv s = nI (IV s) ∧ IV s < 2 ^ 30 ∧ yl s = nI (IV s) + (xoutLma k - xoutVma k)) (hG : ∀ s, s < ni → xinLive s = 1 → V (xstmtOwner (xinStmt s).toNatClampNeg).toNatClampNeg ≤ IV s ∧ IV s + (xinSize s).toNatClampNeg ≤ D (xstmtOwner (xinStmt s).toNatClampNeg).toNatClampNeg) (hLd : ∀ s, s < ni → xinLive s = 1 → ¬ xinKind s = 3 → xoutLoaded (xstmtOwner (xinStmt s).toNatClampNeg).toNatClampNeg = 1) (hN : lk_N ni nb xinKind xinAlign xinSize xinFirstByte yinBss yinLen) (hQ : lk_Q nr ni xinKind yinLen xrelocOwner xrelocOffset xrelocTarget) (hcl : ∀ r, r < nr → xinLive (xrelocOwner r).toNatClampNeg = 1 → ∃ t, t < ni ∧ xrelocTarget r = nI t ∧ xinLive t = 1) (dj : lk_dj ni (fun s => xinLive s = 1 ∧ ¬ xinKind s = 3) (fun s => L (xstmtOwner (xinStmt s).toNatClampNeg).toNatClampNeg + (IV s - V (xstmtOwner (xinStmt s).toNatClampNeg).toNatClampNeg)) (fun s => (xinSize s).toNatClampNeg)) : ∃ m1 mf : Nat → Int32, lk_I1 xoutLoaded L D V xmemory no m1 ∧ lk_I3 ni (fun s => xinLive s = 1 ∧ ¬ xinKind s = 3) (fun s => L (xstmtOwner (xinStmt s).toNatClampNeg).toNatClampNeg + (IV s - V (xstmtOwner (xinStmt s).toNatClampNeg).toNatClampNeg)) (fun s => (xinSize s).toNatClampNeg) xrelocOwner xrelocOffset (lk_lo ni xrelocOwner xrelocOffset xrelocType xrelocTarget xrelocAddend yv yl) (lk_hi ni xrelocOwner xrelocOffset xrelocType xrelocTarget xrelocAddend yv yl) (fun s p => xfedBytes (xinFirstByte s + nI p).toNatClampNeg) m1 nr mf ∧ ∀ post : St2 → Prop, post (xphase, (nI ns), xopenOut, xopenGroup, (nI no), (nI ng), (nI ni), (nI nb), (nI nr), xregionSize, xcounter, mf, xstmtOp, xstmtA, xstmtB, xstmtOwner, xoutRegion, xoutLoaded, xoutGroup, xoutAlign, xoutVma, xoutLma, xoutDot, xgroupStart, xgroupEnd, xgroupResident, xinKind, xinId, xinAlign, xinSize, xinFirstByte, xinStmt, xinLive, xinVma, xfedBytes, xrelocOwner, xrelocOffset, xrelocType, xrelocTarget, xrelocAddend) → wpX_writeRom post (xphase, (nI ns), xopenOut, xopenGroup, (nI no), (nI ng), (nI ni), (nI nb), (nI nr), xregionSize, xcounter, xmemory, xstmtOp, xstmtA, xstmtB, xstmtOwner, xoutRegion, xoutLoaded, xoutGroup, xoutAlign, xoutVma, xoutLma, xoutDot, xgroupStart, xgroupEnd, xgroupResident, xinKind, xinId, xinAlign, xinSize, xinFirstByte, xinStmt, xinLive, xinVma, xfedBytes, xrelocOwner, xrelocOffset, xrelocType, xrelocTarget, xrelocAddend) := by
  obtain ⟨m1, a1, a2⟩ := lx_rom1 (xphase := xphase) (xopenOut := xopenOut) (xopenGroup := xopenGroup) (ns := ns) (ng := ng) (ni := ni) (nb := nb) (nr := nr) (xregionSize := xregionSize) (xcounter := xcounter) (xmemory := xmemory) (xstmtOp := xstmtOp) (xstmtA := xstmtA) (xstmtB := xstmtB) (xstmtOwner := xstmtOwner) (xoutGroup := xoutGroup) (xoutAlign := xoutAlign) (xgroupStart := xgroupStart) (xgroupEnd := xgroupEnd) (xgroupResident := xgroupResident) (xinKind := xinKind) (xinId := xinId) (xinAlign := xinAlign) (xinSize := xinSize) (xinFirstByte := xinFirstByte) (xinStmt := xinStmt) (xinLive := xinLive) (xinVma := xinVma) (xfedBytes := xfedBytes) (xrelocOwner := xrelocOwner) (xrelocOffset := xrelocOffset) (xrelocType := xrelocType) (xrelocTarget := xrelocTarget) (xrelocAddend := xrelocAddend) hk hd h128 n32 no 0 (by omega) xmemory lk_I1_0
  obtain ⟨m2, b1, b2⟩ := lx_rom2 (m1 := m1) (xphase := xphase) (xopenOut := xopenOut) (xopenGroup := xopenGroup) (ng := ng) (nr := nr) (xregionSize := xregionSize) (xcounter := xcounter) (xstmtOp := xstmtOp) (xstmtA := xstmtA) (xstmtB := xstmtB) (xoutGroup := xoutGroup) (xoutAlign := xoutAlign) (xgroupStart := xgroupStart) (xgroupEnd := xgroupEnd) (xgroupResident := xgroupResident) (xinId := xinId) (xfedBytes := xfedBytes) (xrelocOwner := xrelocOwner) (xrelocOffset := xrelocOffset) (xrelocType := xrelocType) (xrelocTarget := xrelocTarget) (xrelocAddend := xrelocAddend) hk hd h128 n32 hF hG hLd hN dj ni 0 (by omega) m1 lk_I2_0
  obtain ⟨mf, c1, c2⟩ := lx_rom3 (m1 := m1) (xphase := xphase) (xopenOut := xopenOut) (xopenGroup := xopenGroup) (ng := ng) (xregionSize := xregionSize) (xcounter := xcounter) (xstmtOp := xstmtOp) (xstmtA := xstmtA) (xstmtB := xstmtB) (xoutGroup := xoutGroup) (xoutAlign := xoutAlign) (xgroupStart := xgroupStart) (xgroupEnd := xgroupEnd) (xgroupResident := xgroupResident) (xinId := xinId) (xfedBytes := xfedBytes) (xrelocType := xrelocType) (xrelocAddend := xrelocAddend) hk hd h128 n32 hF hG hLd hN hQ hcl dj nr 0 (by omega) m2 (lk_I3_0 b1)
  exact ⟨m1, mf, a1, c1, fun post hp => ⟨_, a2 post ⟨_, b2 post ⟨_, c2 post hp⟩⟩⟩⟩
end
