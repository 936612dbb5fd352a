
section
def lk_hk (no : Nat) (rg vm lm : Nat → Int32) (V L D : Nat → Nat) : Prop := no ≤ 8 ∧ ∀ k, k < no → (rg k = 0 ∨ rg k = 1) ∧ vm k = nI (V k) ∧ lm k = nI (L k) ∧ V k ≤ D k ∧ D k < 2 ^ 29 ∧ L k + (D k - V k) < 2 ^ 29 ∧ (rg k = 0 → L k = V k)
theorem lx_re {post : Int32 → Prop} {ns no ng ni nb nr : Nat} {xphase xopenOut xopenGroup : Int32} {xregionSize xcounter xmemory xstmtOp xstmtA xstmtB xstmtOwner xoutRegion xoutLoaded xoutGroup xoutAlign xoutVma xoutLma xoutDot xgroupStart xgroupEnd xgroupResident xinKind xinId xinAlign xinSize xinFirstByte xinStmt xinLive xinVma xfedBytes xrelocOwner xrelocOffset xrelocType xrelocTarget xrelocAddend : Nat → Int32} {R0 R1 : Nat} {z : Int32} (hZ : lk_Z xregionSize R0 R1) (hz : z = 0 ∨ z = 1) (h : post (nI (if z = 0 then R0 else 256 + R1))) : wpX_regionEnd post (xphase, (nI ns), xopenOut, xopenGroup, (nI no), (nI ng), (nI ni), (nI nb), (nI nr), xregionSize, xcounter, xmemory, xstmtOp, xstmtA, xstmtB, xstmtOwner, xoutRegion, xoutLoaded, xoutGroup, xoutAlign, xoutVma, xoutLma, xoutDot, xgroupStart, xgroupEnd, xgroupResident, xinKind, xinId, xinAlign, xinSize, xinFirstByte, xinStmt, xinLive, xinVma, xfedBytes, xrelocOwner, xrelocOffset, xrelocType, xrelocTarget, xrelocAddend) z := by
  rcases hz with e | e
  · subst e
    rw [if_pos rfl] at h
    refine br_t rfl ⟨vp_in_iff.mpr (by decide), ?_⟩
    rw [lk_e0, hZ.1, Int32.zero_add]
    exact h
  · subst e
    rw [if_neg (by decide)] at h
    refine br_f (by decide) ⟨vp_in_iff.mpr (by decide), ?_⟩
    rw [lk_e1, hZ.2.1, lk_256]
    exact h
theorem lx_le {post : Int32 → Prop} {ns no ng ni nb nr : Nat} {xphase xopenOut xopenGroup : Int32} {xregionSize xcounter xmemory xstmtOp xstmtA xstmtB xstmtOwner xoutRegion xoutLoaded xoutGroup xoutAlign xoutVma xoutLma xoutDot xgroupStart xgroupEnd xgroupResident xinKind xinId xinAlign xinSize xinFirstByte xinStmt xinLive xinVma xfedBytes xrelocOwner xrelocOffset xrelocType xrelocTarget xrelocAddend : Nat → Int32} {k l d v : Nat} (hk : k < 8) (el : xoutLma k = nI l) (ed : xoutDot k = nI d) (ev : xoutVma k = nI v) (hvd : v ≤ d) (h : post (nI (l + (d - v)))) : wpX_loadEnd post (xphase, (nI ns), xopenOut, xopenGroup, (nI no), (nI ng), (nI ni), (nI nb), (nI nr), xregionSize, xcounter, xmemory, xstmtOp, xstmtA, xstmtB, xstmtOwner, xoutRegion, xoutLoaded, xoutGroup, xoutAlign, xoutVma, xoutLma, xoutDot, xgroupStart, xgroupEnd, xgroupResident, xinKind, xinId, xinAlign, xinSize, xinFirstByte, xinStmt, xinLive, xinVma, xfedBytes, xrelocOwner, xrelocOffset, xrelocType, xrelocTarget, xrelocAddend) (nI k) := by
  have e : (nI k).toNatClampNeg = k := nI_clamp (by omega)
  have v8 : vp_in (nI k) 8 := vp_in_nI hk (by omega)
  refine ⟨v8, v8, v8, ?_⟩
  rw [e, el, ed, ev, pk_sub hvd]
  show post (nI l + nI (d - v))
  rw [nI_add]
  exact h
theorem lx_ov {post : Int32 → Prop} {ns no ng ni nb nr : Nat} {xphase xopenOut xopenGroup : Int32} {xregionSize xcounter xmemory xstmtOp xstmtA xstmtB xstmtOwner xoutRegion xoutLoaded xoutGroup xoutAlign xoutVma xoutLma xoutDot xgroupStart xgroupEnd xgroupResident xinKind xinId xinAlign xinSize xinFirstByte xinStmt xinLive xinVma xfedBytes xrelocOwner xrelocOffset xrelocType xrelocTarget xrelocAddend : Nat → Int32} {R0 R1 : Nat} {V L D : Nat → Nat} (hZ : lk_Z xregionSize R0 R1) (hk : lk_hk no xoutRegion xoutVma xoutLma V L D) (hd : ∀ k, k < no → xoutDot k = nI (D k)) (h1 : lk_ex (lk_ov R0 R1 xoutRegion xoutLoaded V L D) no 0 = true → post 1) (h0 : lk_ex (lk_ov R0 R1 xoutRegion xoutLoaded V L D) no 0 = false → post 0) : wpX_overflows post (xphase, (nI ns), xopenOut, xopenGroup, (nI no), (nI ng), (nI ni), (nI nb), (nI nr), xregionSize, xcounter, xmemory, xstmtOp, xstmtA, xstmtB, xstmtOwner, xoutRegion, xoutLoaded, xoutGroup, xoutAlign, xoutVma, xoutLma, xoutDot, xgroupStart, xgroupEnd, xgroupResident, xinKind, xinId, xinAlign, xinSize, xinFirstByte, xinStmt, xinLive, xinVma, xfedBytes, xrelocOwner, xrelocOffset, xrelocType, xrelocTarget, xrelocAddend) := by
  obtain ⟨h8, hk⟩ := hk
  have hZ2 := hZ
  obtain ⟨_, _, z1, z2, z3, z4⟩ := hZ2
  have H : ∀ d k, k + d = no → (lk_ex (lk_ov R0 R1 xoutRegion xoutLoaded V L D) d k = true → post 1) → (lk_ex (lk_ov R0 R1 xoutRegion xoutLoaded V L D) d k = false → post 0) → wX_overflows_8 post (nI R0) xphase (nI ns) xopenOut xopenGroup (nI no) (nI ng) (nI ni) (nI nb) (nI nr) xregionSize xcounter xmemory xstmtOp xstmtA xstmtB xstmtOwner xoutRegion xoutLoaded xoutGroup xoutAlign xoutVma xoutLma xoutDot xgroupStart xgroupEnd xgroupResident xinKind xinId xinAlign xinSize xinFirstByte xinStmt xinLive xinVma xfedBytes xrelocOwner xrelocOffset xrelocType xrelocTarget xrelocAddend (d + 1) (nI k) := by
    intro d
    induction d with
    | zero => intro k hkd _ h0; exact br_t (nI_le (by omega) (by omega)) (h0 rfl)
    | succ d ih =>
      intro k hkd h1 h0
      obtain ⟨r1, e1, e2, e3, e4, e5, e6⟩ := hk k (by omega)
      have e7 := hd k (by omega)
      have e : (nI k).toNatClampNeg = k := nI_clamp (by omega)
      have v8 : vp_in (nI k) 8 := vp_in_nI (by omega) (by omega)
      have hn : ¬ lk_ov R0 R1 xoutRegion xoutLoaded V L D k = true → wX_overflows_8 post (nI R0) xphase (nI ns) xopenOut xopenGroup (nI no) (nI ng) (nI ni) (nI nb) (nI nr) xregionSize xcounter xmemory xstmtOp xstmtA xstmtB xstmtOwner xoutRegion xoutLoaded xoutGroup xoutAlign xoutVma xoutLma xoutDot xgroupStart xgroupEnd xgroupResident xinKind xinId xinAlign xinSize xinFirstByte xinStmt xinLive xinVma xfedBytes xrelocOwner xrelocOffset xrelocType xrelocTarget xrelocAddend (d + 1) (nI (k + 1)) := by
        intro z
        rw [lk_ex_f z] at h1 h0
        exact ih (k + 1) (by omega) h1 h0
      have hy : lk_ov R0 R1 xoutRegion xoutLoaded V L D k = true → post 1 := fun z => h1 (lk_ex_t z)
      obtain ⟨rg, hrg⟩ : ∃ rg, rg = if xoutRegion k = 0 then R0 else 256 + R1 := ⟨_, rfl⟩
      have hrg2 : rg ≤ 384 := by rw [hrg]; split <;> omega
      refine br_f (nI_ge (by omega) (by omega)) ⟨v8, v8, lx_re hZ (by rw [e]; exact r1) ?_⟩
      rw [e, ← hrg]
      by_cases a : D k ≤ rg
      · refine br_t (by rw [e7, nI_leI (by omega) (by omega)]; exact a) ⟨v8, ?_⟩
        by_cases b : xoutLoaded k = 1
        · refine br_t b (lx_le (by omega) e2 e7 e1 e3 ?_)
          by_cases c : L k + (D k - V k) ≤ R0
          · refine br_t (nI_le c (by omega)) (nm_r (nI_1 k) (hn (fun z => ?_)))
            rcases of_decide_eq_true z with y | y
            · rw [← hrg] at y; omega
            · have := y.2; omega
          · exact br_f (nI_ge (by omega) (by omega)) (hy (decide_eq_true (Or.inr ⟨b, by omega⟩)))
        · refine br_f b (nm_r (nI_1 k) (hn (fun z => ?_)))
          rcases of_decide_eq_true z with y | y
          · rw [← hrg] at y; omega
          · exact b y.1
      · exact br_f (by rw [e7, nI_leI (by omega) (by omega)]; exact a) (hy (decide_eq_true (Or.inl (by rw [← hrg]; omega))))
  unfold wpX_overflows
  refine lx_re hZ (Or.inl rfl) ?_
  rw [if_pos rfl]
  exact ⟨_, H no 0 (by omega) h1 h0⟩
def lk_f1 (gp : Nat → Int32) (no : Nat) (z : Int32) : Int32 := lk_ff (fun k => decide (gp k = z)) no 0
theorem lx_f1 {post : Int32 → Prop} {ns no ng ni nb nr : Nat} {xphase xopenOut xopenGroup : Int32} {xregionSize xcounter xmemory xstmtOp xstmtA xstmtB xstmtOwner xoutRegion xoutLoaded xoutGroup xoutAlign xoutVma xoutLma xoutDot xgroupStart xgroupEnd xgroupResident xinKind xinId xinAlign xinSize xinFirstByte xinStmt xinLive xinVma xfedBytes xrelocOwner xrelocOffset xrelocType xrelocTarget xrelocAddend : Nat → Int32} {z : Int32} (h8 : no ≤ 8) (h : post (lk_f1 xoutGroup no z)) : wpX_firstMember post (xphase, (nI ns), xopenOut, xopenGroup, (nI no), (nI ng), (nI ni), (nI nb), (nI nr), xregionSize, xcounter, xmemory, xstmtOp, xstmtA, xstmtB, xstmtOwner, xoutRegion, xoutLoaded, xoutGroup, xoutAlign, xoutVma, xoutLma, xoutDot, xgroupStart, xgroupEnd, xgroupResident, xinKind, xinId, xinAlign, xinSize, xinFirstByte, xinStmt, xinLive, xinVma, xfedBytes, xrelocOwner, xrelocOffset, xrelocType, xrelocTarget, xrelocAddend) z := by
  have H : ∀ d k, k + d = no → post (lk_ff (fun k => decide (xoutGroup k = z)) d k) → wX_firstMember_2 post z xphase (nI ns) xopenOut xopenGroup (nI no) (nI ng) (nI ni) (nI nb) (nI nr) xregionSize xcounter xmemory xstmtOp xstmtA xstmtB xstmtOwner xoutRegion xoutLoaded xoutGroup xoutAlign xoutVma xoutLma xoutDot xgroupStart xgroupEnd xgroupResident xinKind xinId xinAlign xinSize xinFirstByte xinStmt xinLive xinVma xfedBytes xrelocOwner xrelocOffset xrelocType xrelocTarget xrelocAddend (d + 1) (nI k) := by
    intro d
    induction d with
    | zero => intro k hk h; exact br_t (nI_le (by omega) (by omega)) h
    | succ d ih =>
      intro k hk h
      have e : (nI k).toNatClampNeg = k := nI_clamp (by omega)
      have v8 : vp_in (nI k) 8 := vp_in_nI (by omega) (by omega)
      refine br_f (nI_ge (by omega) (by omega)) ⟨v8, ?_⟩
      by_cases a : xoutGroup k = z
      · rw [lk_ff_t (show (fun k => decide (xoutGroup k = z)) k = true from decide_eq_true a)] at h
        exact br_t (by rw [e]; exact a) h
      · rw [lk_ff_f (show ¬ (fun k => decide (xoutGroup k = z)) k = true from fun y => a (of_decide_eq_true y))] at h
        exact br_f (by rw [e]; exact a) (nm_r (nI_1 k) (ih (k + 1) (by omega) h))
  exact ⟨_, H no 0 (by omega) h⟩
theorem lx_res {post : St2 → Prop} {ns no ng ni nb nr : Nat} {xphase xopenOut xopenGroup : Int32} {xregionSize xcounter xmemory xstmtOp xstmtA xstmtB xstmtOwner xoutRegion xoutLoaded xoutGroup xoutAlign xoutVma xoutLma xoutDot xgroupStart xgroupEnd xgroupResident xinKind xinId xinAlign xinSize xinFirstByte xinStmt xinLive xinVma xfedBytes xrelocOwner xrelocOffset xrelocType xrelocTarget xrelocAddend : Nat → Int32} (h8 : no ≤ 8) (h4 : ng ≤ 4) (h : post (xphase, (nI ns), xopenOut, xopenGroup, (nI no), (nI ng), (nI ni), (nI nb), (nI nr), xregionSize, xcounter, xmemory, xstmtOp, xstmtA, xstmtB, xstmtOwner, xoutRegion, xoutLoaded, xoutGroup, xoutAlign, xoutVma, xoutLma, xoutDot, xgroupStart, xgroupEnd, (lk_as xgroupResident ng (fun g => lk_f1 xoutGroup no (nI g))), xinKind, xinId, xinAlign, xinSize, xinFirstByte, xinStmt, xinLive, xinVma, xfedBytes, xrelocOwner, xrelocOffset, xrelocType, xrelocTarget, xrelocAddend)) : wpX_makeFirstMembersResident post (xphase, (nI ns), xopenOut, xopenGroup, (nI no), (nI ng), (nI ni), (nI nb), (nI nr), xregionSize, xcounter, xmemory, xstmtOp, xstmtA, xstmtB, xstmtOwner, xoutRegion, xoutLoaded, xoutGroup, xoutAlign, xoutVma, xoutLma, xoutDot, xgroupStart, xgroupEnd, xgroupResident, xinKind, xinId, xinAlign, xinSize, xinFirstByte, xinStmt, xinLive, xinVma, xfedBytes, xrelocOwner, xrelocOffset, xrelocType, xrelocTarget, xrelocAddend) := by
  have H : ∀ d g, g + d = ng → wX_makeFirstMembersResident_2 post xphase (nI ns) xopenOut xopenGroup (nI no) (nI ng) (nI ni) (nI nb) (nI nr) (d + 1) (nI g) xregionSize xcounter xmemory xstmtOp xstmtA xstmtB xstmtOwner xoutRegion xoutLoaded xoutGroup xoutAlign xoutVma xoutLma xoutDot xgroupStart xgroupEnd (lk_as xgroupResident g (fun g => lk_f1 xoutGroup no (nI g))) xinKind xinId xinAlign xinSize xinFirstByte xinStmt xinLive xinVma xfedBytes xrelocOwner xrelocOffset xrelocType xrelocTarget xrelocAddend := by
    intro d
    induction d with
    | zero =>
      intro g hg
      have e1 : g = ng := hg
      subst e1
      exact br_t (nI_le (by omega) (by omega)) h
    | succ d ih =>
      intro g hg
      exact br_f (nI_ge (by omega) (by omega)) (lx_f1 h8 ⟨vp_in_nI (by omega) (by omega), nm_r (by rw [nI_clamp (by omega)]; exact lk_as_s rfl) (nm_r (nI_1 g) (ih (g + 1) (by omega)))⟩)
  have H2 := H ng 0 (by omega)
  rw [lk_as_0] at H2
  exact ⟨_, H2⟩
def lk_r1 (gp : Nat → Int32) (no k : Nat) : Int32 := if ¬ gp k = -1 ∧ lk_f1 gp no (gp k) = nI k then 1 else 0
end
