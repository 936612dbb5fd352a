section
/-! the class in FEED -/
def lq_F (no R0 R1 : Nat) (u : St2) : Prop := ∃ (ns ng ni nb nr : Nat) (xopenOut xopenGroup : Int32) (xregionSize xcounter xmemory xstmtOp xstmtA xstmtB xstmtOwner xoutRegion xoutLoaded xoutGroup xoutAlign xoutVma xoutLma xoutDot xgroupStart xgroupEnd xgroupResident xinKind xinId xinAlign xinSize xinFirstByte xinStmt xinLive xinVma xfedBytes xrelocOwner xrelocOffset xrelocType xrelocTarget xrelocAddend : Nat → Int32) (yinGroup : Int32) (ystOut yinBss yinLen : Nat → Int32), u = (0, (nI ns), xopenOut, xopenGroup, (nI no), (nI ng), (nI ni), (nI nb), (nI nr), xregionSize, xcounter, xmemory, xstmtOp, xstmtA, xstmtB, xstmtOwner, xoutRegion, xoutLoaded, xoutGroup, xoutAlign, xoutVma, xoutLma, xoutDot, xgroupStart, xgroupEnd, xgroupResident, xinKind, xinId, xinAlign, xinSize, xinFirstByte, xinStmt, xinLive, xinVma, xfedBytes, xrelocOwner, xrelocOffset, xrelocType, xrelocTarget, xrelocAddend) ∧ lk_S ns no ng xstmtOp xstmtA xstmtB xstmtOwner ystOut xoutRegion xoutLoaded xoutGroup xopenOut xopenGroup yinGroup ∧ lk_N ni nb xinKind xinAlign xinSize xinFirstByte yinBss yinLen ∧ lk_Q nr ni xinKind yinLen xrelocOwner xrelocOffset xrelocTarget ∧ lk_Z xregionSize R0 R1 ∧ ∀ j, j < 384 → xmemory j = 255
def lq_Fx (R0 R1 : Nat) (u : St2) : Prop := ∃ no, lq_F no R0 R1 u
theorem lq_byte {P : St2 → Prop} {R0 R1 : Nat} {u : St2} {v1 : Int32} (I : lq_Fx R0 R1 u) (KK : ∀ u, lq_Fx R0 R1 u → P u) : wpX_addByte (fun _ u => P u) u v1 := by
  have J := KK _ I
  obtain ⟨no, ns, ng, ni, nb, nr, xopenOut, xopenGroup, xregionSize, xcounter, xmemory, xstmtOp, xstmtA, xstmtB, xstmtOwner, xoutRegion, xoutLoaded, xoutGroup, xoutAlign, xoutVma, xoutLma, xoutDot, xgroupStart, xgroupEnd, xgroupResident, xinKind, xinId, xinAlign, xinSize, xinFirstByte, xinStmt, xinLive, xinVma, xfedBytes, xrelocOwner, xrelocOffset, xrelocType, xrelocTarget, xrelocAddend, yinGroup, ystOut, yinBss, yinLen, rfl, hS, hN, hQ, hZ, hM⟩ := I
  exact lk_fbyte J hN hQ (fun hN hQ => KK _ ⟨no, _, _, _, _, _, _, _, _, _, _, _, _, _, _, _, _, _, _, _, _, _, _, _, _, _, _, _, _, _, _, _, _, _, _, _, _, _, _, _, _, _, _, rfl, hS, hN, hQ, hZ, hM⟩) rfl
theorem lq_reloc {P : St2 → Prop} {R0 R1 : Nat} {u : St2} {v1 v2 v3 v4 : Int32} (I : lq_Fx R0 R1 u) (KK : ∀ u, lq_Fx R0 R1 u → P u) : wpX_addReloc (fun _ u => P u) u v1 v2 v3 v4 := by
  have J := KK _ I
  obtain ⟨no, ns, ng, ni, nb, nr, xopenOut, xopenGroup, xregionSize, xcounter, xmemory, xstmtOp, xstmtA, xstmtB, xstmtOwner, xoutRegion, xoutLoaded, xoutGroup, xoutAlign, xoutVma, xoutLma, xoutDot, xgroupStart, xgroupEnd, xgroupResident, xinKind, xinId, xinAlign, xinSize, xinFirstByte, xinStmt, xinLive, xinVma, xfedBytes, xrelocOwner, xrelocOffset, xrelocType, xrelocTarget, xrelocAddend, yinGroup, ystOut, yinBss, yinLen, rfl, hS, hN, hQ, hZ, hM⟩ := I
  exact lk_freloc J hN hQ (fun hQ => KK _ ⟨no, _, _, _, _, _, _, _, _, _, _, _, _, _, _, _, _, _, _, _, _, _, _, _, _, _, _, _, _, _, _, _, _, _, _, _, _, _, _, _, _, _, _, rfl, hS, hN, hQ, hZ, hM⟩) rfl
theorem lq_begin {P : St2 → Prop} {R0 R1 : Nat} {u : St2} {v1 v2 v3 v4 : Int32} (I : lq_Fx R0 R1 u) (KK : ∀ u, lq_Fx R0 R1 u → P u) : wpX_beginSection (fun _ u => P u) u v1 v2 v3 v4 := by
  have J := KK _ I
  obtain ⟨no, ns, ng, ni, nb, nr, xopenOut, xopenGroup, xregionSize, xcounter, xmemory, xstmtOp, xstmtA, xstmtB, xstmtOwner, xoutRegion, xoutLoaded, xoutGroup, xoutAlign, xoutVma, xoutLma, xoutDot, xgroupStart, xgroupEnd, xgroupResident, xinKind, xinId, xinAlign, xinSize, xinFirstByte, xinStmt, xinLive, xinVma, xfedBytes, xrelocOwner, xrelocOffset, xrelocType, xrelocTarget, xrelocAddend, yinGroup, ystOut, yinBss, yinLen, rfl, hS, hN, hQ, hZ, hM⟩ := I
  exact lk_fbegin J hN hQ (fun hN hQ => KK _ ⟨no, _, _, _, _, _, _, _, _, _, _, _, _, _, _, _, _, _, _, _, _, _, _, _, _, _, _, _, _, _, _, _, _, _, _, _, _, _, _, _, _, _, _, rfl, hS, hN, hQ, hZ, hM⟩) rfl
theorem lq_script {P : St2 → Prop} {R0 R1 : Nat} {u : St2} {v1 v2 v3 : Int32} (I : lq_Fx R0 R1 u) (KK : ∀ u, lq_Fx R0 R1 u → P u) : wpX_script (fun _ u => P u) u v1 v2 v3 := by
  have J := KK _ I
  obtain ⟨no, ns, ng, ni, nb, nr, xopenOut, xopenGroup, xregionSize, xcounter, xmemory, xstmtOp, xstmtA, xstmtB, xstmtOwner, xoutRegion, xoutLoaded, xoutGroup, xoutAlign, xoutVma, xoutLma, xoutDot, xgroupStart, xgroupEnd, xgroupResident, xinKind, xinId, xinAlign, xinSize, xinFirstByte, xinStmt, xinLive, xinVma, xfedBytes, xrelocOwner, xrelocOffset, xrelocType, xrelocTarget, xrelocAddend, yinGroup, ystOut, yinBss, yinLen, rfl, hS, hN, hQ, hZ, hM⟩ := I
  by_cases b1 : v1 < 1
  · repeat (first | refine br_t (by assumption) ?_ | refine br_f (by assumption) ?_ | refine br_t (by decide) ?_ | refine br_f (by decide) ?_ | refine nm_e ?_ | refine And.intro (by assumption) ?_ | refine And.intro rfl ?_ | refine lx_isA (by assumption) ?_ | refine lx_nA (by assumption) ?_)
    exact J
  by_cases b2 : v1 ≤ 9
  · have K : ∀ {ns no ng : Nat} {xopenOut xopenGroup yinGroup : Int32} {xstmtOp xstmtA xstmtB xstmtOwner xoutRegion xoutLoaded xoutGroup ystOut : Nat → Int32}, lk_S ns no ng xstmtOp xstmtA xstmtB xstmtOwner ystOut xoutRegion xoutLoaded xoutGroup xopenOut xopenGroup yinGroup → P (0, (nI ns), xopenOut, xopenGroup, (nI no), (nI ng), (nI ni), (nI nb), (nI nr), xregionSize, xcounter, xmemory, xstmtOp, xstmtA, xstmtB, xstmtOwner, xoutRegion, xoutLoaded, xoutGroup, xoutAlign, xoutVma, xoutLma, xoutDot, xgroupStart, xgroupEnd, xgroupResident, xinKind, xinId, xinAlign, xinSize, xinFirstByte, xinStmt, xinLive, xinVma, xfedBytes, xrelocOwner, xrelocOffset, xrelocType, xrelocTarget, xrelocAddend) := by
      intro ns no ng xopenOut xopenGroup yinGroup xstmtOp xstmtA xstmtB xstmtOwner xoutRegion xoutLoaded xoutGroup ystOut hS
      exact KK _ ⟨no, ns, ng, ni, nb, nr, xopenOut, xopenGroup, xregionSize, xcounter, xmemory, xstmtOp, xstmtA, xstmtB, xstmtOwner, xoutRegion, xoutLoaded, xoutGroup, xoutAlign, xoutVma, xoutLma, xoutDot, xgroupStart, xgroupEnd, xgroupResident, xinKind, xinId, xinAlign, xinSize, xinFirstByte, xinStmt, xinLive, xinVma, xfedBytes, xrelocOwner, xrelocOffset, xrelocType, xrelocTarget, xrelocAddend, yinGroup, ystOut, yinBss, yinLen, rfl, hS, hN, hQ, hZ, hM⟩
    rcases lk_19 b1 b2 with rfl | rfl | rfl | rfl | rfl | rfl | rfl | rfl | rfl
    · exact lk_scr1 J hS K rfl
    · exact lk_scr2 J hS K rfl
    · exact lk_scr3 J hS K rfl
    · exact lk_scr4 J hS K rfl
    · exact lk_scr5 J hS K rfl
    · exact lk_scr6 J hS K rfl
    · exact lk_scr7 J hS K rfl
    · exact lk_scr8 J hS K rfl
    · exact lk_scr9 J hS K rfl
  · repeat (first | refine br_t (by assumption) ?_ | refine br_f (by assumption) ?_ | refine br_t (by decide) ?_ | refine br_f (by decide) ?_ | refine nm_e ?_ | refine And.intro (by assumption) ?_ | refine And.intro rfl ?_ | refine lx_isA (by assumption) ?_ | refine lx_nA (by assumption) ?_)
    exact J
end
