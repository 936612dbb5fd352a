
section
/-! the law: cells, answers of info and outInfo, the rounds -/
theorem lq_cell {P : Int32 → Prop} {L p : Nat} {xs : Nat → Int32} (hL : L ≤ 260) (hp : p < 2 ^ 30) (h : ∀ r, P r) : wpL_cell P L xs () (nI p) := by
  by_cases c : L ≤ p
  · exact br_t (nI_le c (by omega)) (h 0)
  · exact br_f (nI_ge (by omega) (by omega)) ⟨vp_in_nI (by omega) (by omega), h _⟩
theorem lq_pos {P : Int32 → Prop} {v y : Int32} (M : Nat) (e : y = nI M) (h0 : 0 < M) (hM : M < 2 ^ 31) (h : ∀ j : Nat, j < M → P (nI j)) : wpL_pos P () v y := by
  subst e
  have t : (nI M).toInt = M := nI_toInt hM
  obtain ⟨c, e, hc⟩ := fmv_nat (a := v) (m := nI M) (by rw [t]; omega)
  rw [t] at hc
  have hp : P (fmv v (nI M)) := by
    rw [e]
    exact h c (by omega)
  refine ⟨fun z => ?_, nm_e ?_⟩
  · have z2 := congrArg Int32.toInt z
    rw [t, show (0 : Int32).toInt = 0 from by decide] at z2
    omega
  · by_cases q : 0 ≤ v - v / nI M * nI M
    · rw [show fmv v (nI M) = v - v / nI M * nI M from if_pos q] at hp
      exact br_t q hp
    · rw [show fmv v (nI M) = v - v / nI M * nI M + nI M from if_neg q] at hp
      exact br_f q hp
theorem lq_i0 {post : Int32 → Prop} {xphase xstmtCount xopenOut xopenGroup xoutCount xgroupCount xinCount xbyteCount xrelocCount : Int32} {xregionSize xcounter xmemory xstmtOp xstmtA xstmtB xstmtOwner xoutRegion xoutLoaded xoutGroup xoutAlign xoutVma xoutLma xoutDot xgroupStart xgroupEnd xgroupResident xinKind xinId xinAlign xinSize xinFirstByte xinStmt xinLive xinVma xfedBytes xrelocOwner xrelocOffset xrelocType xrelocTarget xrelocAddend : Nat → Int32} (h : post xphase) : wpX_info post (xphase, xstmtCount, xopenOut, xopenGroup, xoutCount, xgroupCount, xinCount, xbyteCount, xrelocCount, xregionSize, xcounter, xmemory, xstmtOp, xstmtA, xstmtB, xstmtOwner, xoutRegion, xoutLoaded, xoutGroup, xoutAlign, xoutVma, xoutLma, xoutDot, xgroupStart, xgroupEnd, xgroupResident, xinKind, xinId, xinAlign, xinSize, xinFirstByte, xinStmt, xinLive, xinVma, xfedBytes, xrelocOwner, xrelocOffset, xrelocType, xrelocTarget, xrelocAddend) 0 := by
  repeat (first | refine br_t (by decide) ?_ | refine br_f (by decide) ?_)
  exact h
theorem lq_i2 {post : Int32 → Prop} {xphase xstmtCount xopenOut xopenGroup xoutCount xgroupCount xinCount xbyteCount xrelocCount : Int32} {xregionSize xcounter xmemory xstmtOp xstmtA xstmtB xstmtOwner xoutRegion xoutLoaded xoutGroup xoutAlign xoutVma xoutLma xoutDot xgroupStart xgroupEnd xgroupResident xinKind xinId xinAlign xinSize xinFirstByte xinStmt xinLive xinVma xfedBytes xrelocOwner xrelocOffset xrelocType xrelocTarget xrelocAddend : Nat → Int32} {y : Int32} (e : xoutCount = y) (h : post y) : wpX_info post (xphase, xstmtCount, xopenOut, xopenGroup, xoutCount, xgroupCount, xinCount, xbyteCount, xrelocCount, xregionSize, xcounter, xmemory, xstmtOp, xstmtA, xstmtB, xstmtOwner, xoutRegion, xoutLoaded, xoutGroup, xoutAlign, xoutVma, xoutLma, xoutDot, xgroupStart, xgroupEnd, xgroupResident, xinKind, xinId, xinAlign, xinSize, xinFirstByte, xinStmt, xinLive, xinVma, xfedBytes, xrelocOwner, xrelocOffset, xrelocType, xrelocTarget, xrelocAddend) 2 := by
  subst e
  repeat (first | refine br_t (by decide) ?_ | refine br_f (by decide) ?_)
  exact h
theorem lq_i7 {post : Int32 → Prop} {xphase xstmtCount xopenOut xopenGroup xoutCount xgroupCount xinCount xbyteCount xrelocCount : Int32} {xregionSize xcounter xmemory xstmtOp xstmtA xstmtB xstmtOwner xoutRegion xoutLoaded xoutGroup xoutAlign xoutVma xoutLma xoutDot xgroupStart xgroupEnd xgroupResident xinKind xinId xinAlign xinSize xinFirstByte xinStmt xinLive xinVma xfedBytes xrelocOwner xrelocOffset xrelocType xrelocTarget xrelocAddend : Nat → Int32} {y : Int32} (e : xregionSize 0 = y) (h : post y) : wpX_info post (xphase, xstmtCount, xopenOut, xopenGroup, xoutCount, xgroupCount, xinCount, xbyteCount, xrelocCount, xregionSize, xcounter, xmemory, xstmtOp, xstmtA, xstmtB, xstmtOwner, xoutRegion, xoutLoaded, xoutGroup, xoutAlign, xoutVma, xoutLma, xoutDot, xgroupStart, xgroupEnd, xgroupResident, xinKind, xinId, xinAlign, xinSize, xinFirstByte, xinStmt, xinLive, xinVma, xfedBytes, xrelocOwner, xrelocOffset, xrelocType, xrelocTarget, xrelocAddend) 7 := by
  subst e
  repeat (first | refine br_t (by decide) ?_ | refine br_f (by decide) ?_)
  exact h
theorem lq_i8 {post : Int32 → Prop} {xphase xstmtCount xopenOut xopenGroup xoutCount xgroupCount xinCount xbyteCount xrelocCount : Int32} {xregionSize xcounter xmemory xstmtOp xstmtA xstmtB xstmtOwner xoutRegion xoutLoaded xoutGroup xoutAlign xoutVma xoutLma xoutDot xgroupStart xgroupEnd xgroupResident xinKind xinId xinAlign xinSize xinFirstByte xinStmt xinLive xinVma xfedBytes xrelocOwner xrelocOffset xrelocType xrelocTarget xrelocAddend : Nat → Int32} {y : Int32} (e : xregionSize 1 = y) (h : post y) : wpX_info post (xphase, xstmtCount, xopenOut, xopenGroup, xoutCount, xgroupCount, xinCount, xbyteCount, xrelocCount, xregionSize, xcounter, xmemory, xstmtOp, xstmtA, xstmtB, xstmtOwner, xoutRegion, xoutLoaded, xoutGroup, xoutAlign, xoutVma, xoutLma, xoutDot, xgroupStart, xgroupEnd, xgroupResident, xinKind, xinId, xinAlign, xinSize, xinFirstByte, xinStmt, xinLive, xinVma, xfedBytes, xrelocOwner, xrelocOffset, xrelocType, xrelocTarget, xrelocAddend) 8 := by
  subst e
  repeat (first | refine br_t (by decide) ?_ | refine br_f (by decide) ?_)
  exact h
theorem lq_F_f {no R0 R1 : Nat} {xphase xstmtCount xopenOut xopenGroup xoutCount xgroupCount xinCount xbyteCount xrelocCount : Int32} {xregionSize xcounter xmemory xstmtOp xstmtA xstmtB xstmtOwner xoutRegion xoutLoaded xoutGroup xoutAlign xoutVma xoutLma xoutDot xgroupStart xgroupEnd xgroupResident xinKind xinId xinAlign xinSize xinFirstByte xinStmt xinLive xinVma xfedBytes xrelocOwner xrelocOffset xrelocType xrelocTarget xrelocAddend : Nat → Int32} (I : lq_F no R0 R1 (xphase, xstmtCount, xopenOut, xopenGroup, xoutCount, xgroupCount, xinCount, xbyteCount, xrelocCount, xregionSize, xcounter, xmemory, xstmtOp, xstmtA, xstmtB, xstmtOwner, xoutRegion, xoutLoaded, xoutGroup, xoutAlign, xoutVma, xoutLma, xoutDot, xgroupStart, xgroupEnd, xgroupResident, xinKind, xinId, xinAlign, xinSize, xinFirstByte, xinStmt, xinLive, xinVma, xfedBytes, xrelocOwner, xrelocOffset, xrelocType, xrelocTarget, xrelocAddend)) : xphase = 0 ∧ xoutCount = nI no ∧ lk_Z xregionSize R0 R1 ∧ no ≤ 8 := by
  unfold lq_F at I
  obtain ⟨ns, ng, ni, nb, nr, zz, I⟩ := I
  iterate 36 obtain ⟨_, I⟩ := I
  obtain ⟨e, hS, _, _, hZ, _⟩ := I
  have e1 : xphase = 0 := congrArg (fun u : St2 => u.1) e
  have e2 : xoutCount = nI no := congrArg (fun u : St2 => u.2.2.2.2.1) e
  have e3 := congrArg (fun u : St2 => u.2.2.2.2.2.2.2.2.2.1) e
  refine ⟨e1, e2, ?_, hS.2.1⟩
  have e4 : xregionSize = _ := e3
  rw [e4]
  exact hZ
def lq_T (no R0 R1 : Nat) (u : St2) : Prop := lq_F no R0 R1 u ∨ lq_L 1 no R0 R1 u ∨ lq_L 2 no R0 R1 u
theorem lq_T_su {P : St2 → Prop} {no R0 R1 : Nat} {u : St2} (I : lq_T no R0 R1 u) (KK : ∀ u, lq_T no R0 R1 u → P u) : wpX_startup (fun _ u => P u) u := by
  rcases I with I | I | I
  · have J := KK _ (Or.inl I)
    obtain ⟨xphase, xstmtCount, xopenOut, xopenGroup, xoutCount, xgroupCount, xinCount, xbyteCount, xrelocCount, xregionSize, xcounter, xmemory, xstmtOp, xstmtA, xstmtB, xstmtOwner, xoutRegion, xoutLoaded, xoutGroup, xoutAlign, xoutVma, xoutLma, xoutDot, xgroupStart, xgroupEnd, xgroupResident, xinKind, xinId, xinAlign, xinSize, xinFirstByte, xinStmt, xinLive, xinVma, xfedBytes, xrelocOwner, xrelocOffset, xrelocType, xrelocTarget, xrelocAddend⟩ := u
    exact br_f (by rw [(lq_F_f I).1]; decide) J
  · exact lq_su I (fun u hu => KK u (Or.inr (Or.inr hu)))
  · have J := KK _ (Or.inr (Or.inr I))
    obtain ⟨xphase, xstmtCount, xopenOut, xopenGroup, xoutCount, xgroupCount, xinCount, xbyteCount, xrelocCount, xregionSize, xcounter, xmemory, xstmtOp, xstmtA, xstmtB, xstmtOwner, xoutRegion, xoutLoaded, xoutGroup, xoutAlign, xoutVma, xoutLma, xoutDot, xgroupStart, xgroupEnd, xgroupResident, xinKind, xinId, xinAlign, xinSize, xinFirstByte, xinStmt, xinLive, xinVma, xfedBytes, xrelocOwner, xrelocOffset, xrelocType, xrelocTarget, xrelocAddend⟩ := u
    obtain ⟨ng, V, L, D, G0, GE, me, e1, e2, e3, _⟩ := I
    exact br_f (by rw [e1]; decide) J
theorem lq_T_lo {P : St2 → Prop} {no R0 R1 : Nat} {u : St2} {v1 : Int32} (I : lq_T no R0 R1 u) (KK : ∀ u, lq_T no R0 R1 u → P u) : wpX_loadOverlay (fun _ u => P u) u v1 := by
  rcases I with I | I | I
  · have J := KK _ (Or.inl I)
    obtain ⟨xphase, xstmtCount, xopenOut, xopenGroup, xoutCount, xgroupCount, xinCount, xbyteCount, xrelocCount, xregionSize, xcounter, xmemory, xstmtOp, xstmtA, xstmtB, xstmtOwner, xoutRegion, xoutLoaded, xoutGroup, xoutAlign, xoutVma, xoutLma, xoutDot, xgroupStart, xgroupEnd, xgroupResident, xinKind, xinId, xinAlign, xinSize, xinFirstByte, xinStmt, xinLive, xinVma, xfedBytes, xrelocOwner, xrelocOffset, xrelocType, xrelocTarget, xrelocAddend⟩ := u
    exact br_f (by rw [(lq_F_f I).1]; decide) J
  · have J := KK _ (Or.inr (Or.inl I))
    obtain ⟨xphase, xstmtCount, xopenOut, xopenGroup, xoutCount, xgroupCount, xinCount, xbyteCount, xrelocCount, xregionSize, xcounter, xmemory, xstmtOp, xstmtA, xstmtB, xstmtOwner, xoutRegion, xoutLoaded, xoutGroup, xoutAlign, xoutVma, xoutLma, xoutDot, xgroupStart, xgroupEnd, xgroupResident, xinKind, xinId, xinAlign, xinSize, xinFirstByte, xinStmt, xinLive, xinVma, xfedBytes, xrelocOwner, xrelocOffset, xrelocType, xrelocTarget, xrelocAddend⟩ := u
    obtain ⟨ng, V, L, D, G0, GE, me, e1, e2, e3, _⟩ := I
    exact br_f (by rw [e1]; decide) J
  · exact lq_lo I (fun u hu => KK u (Or.inr (Or.inr hu)))
end
