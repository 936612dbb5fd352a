
section
theorem lx_fm {post : Int32 → Prop} {ns no ng ni nb nr : Nat} {xphase xopenOut xopenGroup : Int32} {xregionSize xcounter xmemory xstmtOp xstmtA xstmtB xstmtOwner xoutRegion xoutLoaded xoutGroup xoutAlign xoutVma xoutLma xoutDot xgroupStart xgroupEnd xgroupResident xinKind xinId xinAlign xinSize xinFirstByte xinStmt xinLive xinVma xfedBytes xrelocOwner xrelocOffset xrelocType xrelocTarget xrelocAddend : Nat → Int32} {s : Nat} (hs : s < 16) (hn : ns ≤ 32) (h : post (lk_fm xstmtOp xstmtA xstmtB xinKind xinId ns s)) : wpX_firstMatch post (xphase, (nI ns), xopenOut, xopenGroup, (nI no), (nI ng), (nI ni), (nI nb), (nI nr), xregionSize, xcounter, xmemory, xstmtOp, xstmtA, xstmtB, xstmtOwner, xoutRegion, xoutLoaded, xoutGroup, xoutAlign, xoutVma, xoutLma, xoutDot, xgroupStart, xgroupEnd, xgroupResident, xinKind, xinId, xinAlign, xinSize, xinFirstByte, xinStmt, xinLive, xinVma, xfedBytes, xrelocOwner, xrelocOffset, xrelocType, xrelocTarget, xrelocAddend) (nI s) := by
  have es : (nI s).toNatClampNeg = s := nI_clamp (by omega)
  have vs : vp_in (nI s) 16 := vp_in_nI hs (by omega)
  have H : ∀ d i, i + d = ns → post (lk_ff (lk_mt xstmtOp xstmtA xstmtB xinKind xinId s) d i) → wX_firstMatch_2 post (nI s) xphase (nI ns) xopenOut xopenGroup (nI no) (nI ng) (nI ni) (nI nb) (nI nr) xregionSize xcounter xmemory xstmtOp xstmtA xstmtB xstmtOwner xoutRegion xoutLoaded xoutGroup xoutAlign xoutVma xoutLma xoutDot xgroupStart xgroupEnd xgroupResident xinKind xinId xinAlign xinSize xinFirstByte xinStmt xinLive xinVma xfedBytes xrelocOwner xrelocOffset xrelocType xrelocTarget xrelocAddend (d + 1) (nI i) := by
    intro d
    induction d with
    | zero => intro i hi h; exact br_t (nI_le (by omega) (by omega)) h
    | succ d ih =>
      intro i hi h
      have e : (nI i).toNatClampNeg = i := nI_clamp (by omega)
      have vi : vp_in (nI i) 32 := vp_in_nI (by omega) (by omega)
      have n1 : ¬ nI ns ≤ nI i := nI_ge (by omega) (by omega)
      have H1 : ((xstmtOp (nI i).toNatClampNeg = 3 ∨ xstmtOp (nI i).toNatClampNeg = 4) ∧ (xstmtA (nI i).toNatClampNeg = -1 ∨ xstmtA (nI i).toNatClampNeg = xinId (nI s).toNatClampNeg) ∧ (xstmtB (nI i).toNatClampNeg = 0 ∨ xstmtB (nI i).toNatClampNeg = xinKind (nI s).toNatClampNeg)) → post (nI i) := by
        rw [e, es]
        intro z
        rw [lk_ff_t (decide_eq_true z)] at h
        exact h
      have H2 : ¬ ((xstmtOp (nI i).toNatClampNeg = 3 ∨ xstmtOp (nI i).toNatClampNeg = 4) ∧ (xstmtA (nI i).toNatClampNeg = -1 ∨ xstmtA (nI i).toNatClampNeg = xinId (nI s).toNatClampNeg) ∧ (xstmtB (nI i).toNatClampNeg = 0 ∨ xstmtB (nI i).toNatClampNeg = xinKind (nI s).toNatClampNeg)) → wX_firstMatch_2 post (nI s) xphase (nI ns) xopenOut xopenGroup (nI no) (nI ng) (nI ni) (nI nb) (nI nr) xregionSize xcounter xmemory xstmtOp xstmtA xstmtB xstmtOwner xoutRegion xoutLoaded xoutGroup xoutAlign xoutVma xoutLma xoutDot xgroupStart xgroupEnd xgroupResident xinKind xinId xinAlign xinSize xinFirstByte xinStmt xinLive xinVma xfedBytes xrelocOwner xrelocOffset xrelocType xrelocTarget xrelocAddend (d + 1) (nI i + 1) := by
        rw [e, es]
        intro z
        rw [nI_1]
        rw [lk_ff_f (fun y => z (of_decide_eq_true y))] at h
        exact ih (i + 1) (by omega) h
      clear h ih
      by_cases t1 : xstmtOp (nI i).toNatClampNeg = 3
      · by_cases a1 : xstmtA (nI i).toNatClampNeg = -1
        · by_cases b1 : xstmtB (nI i).toNatClampNeg = 0
          · repeat (first | refine br_t (by assumption) ?_ | refine br_f (by assumption) ?_ | refine br_t (by decide) ?_ | refine br_f (by decide) ?_ | refine nm_e ?_ | refine And.intro (by assumption) ?_)
            exact H1 ⟨Or.inl t1, Or.inl a1, Or.inl b1⟩
          by_cases b2 : xstmtB (nI i).toNatClampNeg = xinKind (nI s).toNatClampNeg
          · repeat (first | refine br_t (by assumption) ?_ | refine br_f (by assumption) ?_ | refine br_t (by decide) ?_ | refine br_f (by decide) ?_ | refine nm_e ?_ | refine And.intro (by assumption) ?_)
            exact H1 ⟨Or.inl t1, Or.inl a1, Or.inr b2⟩
          repeat (first | refine br_t (by assumption) ?_ | refine br_f (by assumption) ?_ | refine br_t (by decide) ?_ | refine br_f (by decide) ?_ | refine nm_e ?_ | refine And.intro (by assumption) ?_)
          exact H2 (fun z => z.2.2.elim b1 b2)
        by_cases a2 : xstmtA (nI i).toNatClampNeg = xinId (nI s).toNatClampNeg
        · by_cases b1 : xstmtB (nI i).toNatClampNeg = 0
          · repeat (first | refine br_t (by assumption) ?_ | refine br_f (by assumption) ?_ | refine br_t (by decide) ?_ | refine br_f (by decide) ?_ | refine nm_e ?_ | refine And.intro (by assumption) ?_)
            exact H1 ⟨Or.inl t1, Or.inr a2, Or.inl b1⟩
          by_cases b2 : xstmtB (nI i).toNatClampNeg = xinKind (nI s).toNatClampNeg
          · repeat (first | refine br_t (by assumption) ?_ | refine br_f (by assumption) ?_ | refine br_t (by decide) ?_ | refine br_f (by decide) ?_ | refine nm_e ?_ | refine And.intro (by assumption) ?_)
            exact H1 ⟨Or.inl t1, Or.inr a2, Or.inr b2⟩
          repeat (first | refine br_t (by assumption) ?_ | refine br_f (by assumption) ?_ | refine br_t (by decide) ?_ | refine br_f (by decide) ?_ | refine nm_e ?_ | refine And.intro (by assumption) ?_)
          exact H2 (fun z => z.2.2.elim b1 b2)
        by_cases b1 : xstmtB (nI i).toNatClampNeg = 0
        · repeat (first | refine br_t (by assumption) ?_ | refine br_f (by assumption) ?_ | refine br_t (by decide) ?_ | refine br_f (by decide) ?_ | refine nm_e ?_ | refine And.intro (by assumption) ?_)
          exact H2 (fun z => z.2.1.elim a1 a2)
        by_cases b2 : xstmtB (nI i).toNatClampNeg = xinKind (nI s).toNatClampNeg
        · repeat (first | refine br_t (by assumption) ?_ | refine br_f (by assumption) ?_ | refine br_t (by decide) ?_ | refine br_f (by decide) ?_ | refine nm_e ?_ | refine And.intro (by assumption) ?_)
          exact H2 (fun z => z.2.1.elim a1 a2)
        repeat (first | refine br_t (by assumption) ?_ | refine br_f (by assumption) ?_ | refine br_t (by decide) ?_ | refine br_f (by decide) ?_ | refine nm_e ?_ | refine And.intro (by assumption) ?_)
        exact H2 (fun z => z.2.1.elim a1 a2)
      by_cases t2 : xstmtOp (nI i).toNatClampNeg = 4
      · by_cases a1 : xstmtA (nI i).toNatClampNeg = -1
        · by_cases b1 : xstmtB (nI i).toNatClampNeg = 0
          · repeat (first | refine br_t (by assumption) ?_ | refine br_f (by assumption) ?_ | refine br_t (by decide) ?_ | refine br_f (by decide) ?_ | refine nm_e ?_ | refine And.intro (by assumption) ?_)
            exact H1 ⟨Or.inr t2, Or.inl a1, Or.inl b1⟩
          by_cases b2 : xstmtB (nI i).toNatClampNeg = xinKind (nI s).toNatClampNeg
          · repeat (first | refine br_t (by assumption) ?_ | refine br_f (by assumption) ?_ | refine br_t (by decide) ?_ | refine br_f (by decide) ?_ | refine nm_e ?_ | refine And.intro (by assumption) ?_)
            exact H1 ⟨Or.inr t2, Or.inl a1, Or.inr b2⟩
          repeat (first | refine br_t (by assumption) ?_ | refine br_f (by assumption) ?_ | refine br_t (by decide) ?_ | refine br_f (by decide) ?_ | refine nm_e ?_ | refine And.intro (by assumption) ?_)
          exact H2 (fun z => z.2.2.elim b1 b2)
        by_cases a2 : xstmtA (nI i).toNatClampNeg = xinId (nI s).toNatClampNeg
        · by_cases b1 : xstmtB (nI i).toNatClampNeg = 0
          · repeat (first | refine br_t (by assumption) ?_ | refine br_f (by assumption) ?_ | refine br_t (by decide) ?_ | refine br_f (by decide) ?_ | refine nm_e ?_ | refine And.intro (by assumption) ?_)
            exact H1 ⟨Or.inr t2, Or.inr a2, Or.inl b1⟩
          by_cases b2 : xstmtB (nI i).toNatClampNeg = xinKind (nI s).toNatClampNeg
          · repeat (first | refine br_t (by assumption) ?_ | refine br_f (by assumption) ?_ | refine br_t (by decide) ?_ | refine br_f (by decide) ?_ | refine nm_e ?_ | refine And.intro (by assumption) ?_)
            exact H1 ⟨Or.inr t2, Or.inr a2, Or.inr b2⟩
          repeat (first | refine br_t (by assumption) ?_ | refine br_f (by assumption) ?_ | refine br_t (by decide) ?_ | refine br_f (by decide) ?_ | refine nm_e ?_ | refine And.intro (by assumption) ?_)
          exact H2 (fun z => z.2.2.elim b1 b2)
        by_cases b1 : xstmtB (nI i).toNatClampNeg = 0
        · repeat (first | refine br_t (by assumption) ?_ | refine br_f (by assumption) ?_ | refine br_t (by decide) ?_ | refine br_f (by decide) ?_ | refine nm_e ?_ | refine And.intro (by assumption) ?_)
          exact H2 (fun z => z.2.1.elim a1 a2)
        by_cases b2 : xstmtB (nI i).toNatClampNeg = xinKind (nI s).toNatClampNeg
        · repeat (first | refine br_t (by assumption) ?_ | refine br_f (by assumption) ?_ | refine br_t (by decide) ?_ | refine br_f (by decide) ?_ | refine nm_e ?_ | refine And.intro (by assumption) ?_)
          exact H2 (fun z => z.2.1.elim a1 a2)
        repeat (first | refine br_t (by assumption) ?_ | refine br_f (by assumption) ?_ | refine br_t (by decide) ?_ | refine br_f (by decide) ?_ | refine nm_e ?_ | refine And.intro (by assumption) ?_)
        exact H2 (fun z => z.2.1.elim a1 a2)
      by_cases a1 : xstmtA (nI i).toNatClampNeg = -1
      · by_cases b1 : xstmtB (nI i).toNatClampNeg = 0
        · repeat (first | refine br_t (by assumption) ?_ | refine br_f (by assumption) ?_ | refine br_t (by decide) ?_ | refine br_f (by decide) ?_ | refine nm_e ?_ | refine And.intro (by assumption) ?_)
          exact H2 (fun z => z.1.elim t1 t2)
        by_cases b2 : xstmtB (nI i).toNatClampNeg = xinKind (nI s).toNatClampNeg
        · repeat (first | refine br_t (by assumption) ?_ | refine br_f (by assumption) ?_ | refine br_t (by decide) ?_ | refine br_f (by decide) ?_ | refine nm_e ?_ | refine And.intro (by assumption) ?_)
          exact H2 (fun z => z.1.elim t1 t2)
        repeat (first | refine br_t (by assumption) ?_ | refine br_f (by assumption) ?_ | refine br_t (by decide) ?_ | refine br_f (by decide) ?_ | refine nm_e ?_ | refine And.intro (by assumption) ?_)
        exact H2 (fun z => z.1.elim t1 t2)
      by_cases a2 : xstmtA (nI i).toNatClampNeg = xinId (nI s).toNatClampNeg
      · by_cases b1 : xstmtB (nI i).toNatClampNeg = 0
        · repeat (first | refine br_t (by assumption) ?_ | refine br_f (by assumption) ?_ | refine br_t (by decide) ?_ | refine br_f (by decide) ?_ | refine nm_e ?_ | refine And.intro (by assumption) ?_)
          exact H2 (fun z => z.1.elim t1 t2)
        by_cases b2 : xstmtB (nI i).toNatClampNeg = xinKind (nI s).toNatClampNeg
        · repeat (first | refine br_t (by assumption) ?_ | refine br_f (by assumption) ?_ | refine br_t (by decide) ?_ | refine br_f (by decide) ?_ | refine nm_e ?_ | refine And.intro (by assumption) ?_)
          exact H2 (fun z => z.1.elim t1 t2)
        repeat (first | refine br_t (by assumption) ?_ | refine br_f (by assumption) ?_ | refine br_t (by decide) ?_ | refine br_f (by decide) ?_ | refine nm_e ?_ | refine And.intro (by assumption) ?_)
        exact H2 (fun z => z.1.elim t1 t2)
      by_cases b1 : xstmtB (nI i).toNatClampNeg = 0
      · repeat (first | refine br_t (by assumption) ?_ | refine br_f (by assumption) ?_ | refine br_t (by decide) ?_ | refine br_f (by decide) ?_ | refine nm_e ?_ | refine And.intro (by assumption) ?_)
        exact H2 (fun z => z.1.elim t1 t2)
      by_cases b2 : xstmtB (nI i).toNatClampNeg = xinKind (nI s).toNatClampNeg
      · repeat (first | refine br_t (by assumption) ?_ | refine br_f (by assumption) ?_ | refine br_t (by decide) ?_ | refine br_f (by decide) ?_ | refine nm_e ?_ | refine And.intro (by assumption) ?_)
        exact H2 (fun z => z.1.elim t1 t2)
      repeat (first | refine br_t (by assumption) ?_ | refine br_f (by assumption) ?_ | refine br_t (by decide) ?_ | refine br_f (by decide) ?_ | refine nm_e ?_ | refine And.intro (by assumption) ?_)
      exact H2 (fun z => z.1.elim t1 t2)
  exact ⟨_, H ns 0 (by omega) h⟩
theorem lx_as {post : St2 → Prop} {ns no ng ni nb nr : Nat} {xphase xopenOut xopenGroup : Int32} {xregionSize xcounter xmemory xstmtOp xstmtA xstmtB xstmtOwner xoutRegion xoutLoaded xoutGroup xoutAlign xoutVma xoutLma xoutDot xgroupStart xgroupEnd xgroupResident xinKind xinId xinAlign xinSize xinFirstByte xinStmt xinLive xinVma xfedBytes xrelocOwner xrelocOffset xrelocType xrelocTarget xrelocAddend : Nat → Int32} (hi : ni ≤ 16) (hn : ns ≤ 32) (h : post (xphase, (nI ns), xopenOut, xopenGroup, (nI no), (nI ng), (nI ni), (nI nb), (nI nr), xregionSize, xcounter, xmemory, xstmtOp, xstmtA, xstmtB, xstmtOwner, xoutRegion, xoutLoaded, xoutGroup, xoutAlign, xoutVma, xoutLma, xoutDot, xgroupStart, xgroupEnd, xgroupResident, xinKind, xinId, xinAlign, xinSize, xinFirstByte, (lk_as xinStmt ni (lk_fm xstmtOp xstmtA xstmtB xinKind xinId ns)), xinLive, xinVma, xfedBytes, xrelocOwner, xrelocOffset, xrelocType, xrelocTarget, xrelocAddend)) : wpX_assignSections post (xphase, (nI ns), xopenOut, xopenGroup, (nI no), (nI ng), (nI ni), (nI nb), (nI nr), xregionSize, xcounter, xmemory, xstmtOp, xstmtA, xstmtB, xstmtOwner, xoutRegion, xoutLoaded, xoutGroup, xoutAlign, xoutVma, xoutLma, xoutDot, xgroupStart, xgroupEnd, xgroupResident, xinKind, xinId, xinAlign, xinSize, xinFirstByte, xinStmt, xinLive, xinVma, xfedBytes, xrelocOwner, xrelocOffset, xrelocType, xrelocTarget, xrelocAddend) := by
  have H : ∀ d s, s + d = ni → wX_assignSections_2 post xphase (nI ns) xopenOut xopenGroup (nI no) (nI ng) (nI ni) (nI nb) (nI nr) (d + 1) (nI s) xregionSize xcounter xmemory xstmtOp xstmtA xstmtB xstmtOwner xoutRegion xoutLoaded xoutGroup xoutAlign xoutVma xoutLma xoutDot xgroupStart xgroupEnd xgroupResident xinKind xinId xinAlign xinSize xinFirstByte (lk_as xinStmt s (lk_fm xstmtOp xstmtA xstmtB xinKind xinId ns)) xinLive xinVma xfedBytes xrelocOwner xrelocOffset xrelocType xrelocTarget xrelocAddend := by
    intro d
    induction d with
    | zero =>
      intro s hs
      have e1 : s = ni := hs
      subst e1
      exact br_t (nI_le (by omega) (by omega)) h
    | succ d ih =>
      intro s hs
      exact br_f (nI_ge (by omega) (by omega)) (lx_fm (by omega) hn ⟨vp_in_nI (by omega) (by omega), nm_r (by rw [nI_clamp (by omega)]; exact lk_as_s rfl) (nm_r (nI_1 s) (ih (s + 1) (by omega)))⟩)
  have H2 := H ni 0 (by omega)
  rw [lk_as_0] at H2
  exact ⟨_, H2⟩
theorem lx_hat {post : Int32 → Prop} {ns no ng ni nb nr : Nat} {xphase xopenOut xopenGroup : Int32} {xregionSize xcounter xmemory xstmtOp xstmtA xstmtB xstmtOwner xoutRegion xoutLoaded xoutGroup xoutAlign xoutVma xoutLma xoutDot xgroupStart xgroupEnd xgroupResident xinKind xinId xinAlign xinSize xinFirstByte xinStmt xinLive xinVma xfedBytes xrelocOwner xrelocOffset xrelocType xrelocTarget xrelocAddend : Nat → Int32} {r t : Nat} (hr : r < 32) (ht : t < 16) (hn : ni ≤ 16) (et : xrelocTarget r = nI t) (h1 : lk_on xrelocTarget xinStmt ni r = true → post 1) (h0 : ¬ lk_on xrelocTarget xinStmt ni r = true → post 0) : wpX_hasAssignedTarget post (xphase, (nI ns), xopenOut, xopenGroup, (nI no), (nI ng), (nI ni), (nI nb), (nI nr), xregionSize, xcounter, xmemory, xstmtOp, xstmtA, xstmtB, xstmtOwner, xoutRegion, xoutLoaded, xoutGroup, xoutAlign, xoutVma, xoutLma, xoutDot, xgroupStart, xgroupEnd, xgroupResident, xinKind, xinId, xinAlign, xinSize, xinFirstByte, xinStmt, xinLive, xinVma, xfedBytes, xrelocOwner, xrelocOffset, xrelocType, xrelocTarget, xrelocAddend) (nI r) := by
  have c := lk_on_t (st := xinStmt) (ni := ni) (by omega) (by omega) et
  have e : (nI r).toNatClampNeg = r := nI_clamp (by omega)
  have v1 : vp_in (nI r) 32 := vp_in_nI hr (by omega)
  have v2 : vp_in (xrelocTarget (nI r).toNatClampNeg) 16 := by rw [e, et]; exact vp_in_nI ht (by omega)
  by_cases a : nI ni ≤ xrelocTarget (nI r).toNatClampNeg
  · refine ⟨v1, br_t a (h0 (fun z => ?_))⟩
    rw [e, et, nI_leI (by omega) (by omega)] at a
    have := (c.mp z).1
    omega
  · by_cases b : xinStmt (xrelocTarget (nI r).toNatClampNeg).toNatClampNeg = -1
    · refine ⟨v1, br_f a ⟨v1, v2, br_t b (h0 (fun z => ?_))⟩⟩
      rw [e, et, nI_clamp (by omega)] at b
      exact (c.mp z).2 b
    · refine ⟨v1, br_f a ⟨v1, v2, br_f b (h1 (c.mpr ⟨?_, ?_⟩))⟩⟩
      · rw [e, et, nI_leI (by omega) (by omega)] at a
        omega
      · rw [e, et, nI_clamp (by omega)] at b
        exact b
def lk_hq (ni nr : Nat) (ro rt : Nat → Int32) : Prop := ni ≤ 16 ∧ nr ≤ 32 ∧ ∀ r, r < nr → ∃ o t, o < ni ∧ ro r = nI o ∧ t < 16 ∧ rt r = nI t
theorem lx_pass {post : St2 → Prop} {ns no ng ni nb nr : Nat} {xphase xopenOut xopenGroup : Int32} {xregionSize xcounter xmemory xstmtOp xstmtA xstmtB xstmtOwner xoutRegion xoutLoaded xoutGroup xoutAlign xoutVma xoutLma xoutDot xgroupStart xgroupEnd xgroupResident xinKind xinId xinAlign xinSize xinFirstByte xinStmt xinLive xinVma xfedBytes xrelocOwner xrelocOffset xrelocType xrelocTarget xrelocAddend : Nat → Int32} (hq : lk_hq ni nr xrelocOwner xrelocTarget) (h : post (xphase, (nI ns), xopenOut, xopenGroup, (nI no), (nI ng), (nI ni), (nI nb), (nI nr), xregionSize, xcounter, xmemory, xstmtOp, xstmtA, xstmtB, xstmtOwner, xoutRegion, xoutLoaded, xoutGroup, xoutAlign, xoutVma, xoutLma, xoutDot, xgroupStart, xgroupEnd, xgroupResident, xinKind, xinId, xinAlign, xinSize, xinFirstByte, xinStmt, (lk_ps (lk_sp xrelocOwner xrelocTarget xinStmt ni) nr xinLive), xinVma, xfedBytes, xrelocOwner, xrelocOffset, xrelocType, xrelocTarget, xrelocAddend)) : wpX_markTargetsOfLive post (xphase, (nI ns), xopenOut, xopenGroup, (nI no), (nI ng), (nI ni), (nI nb), (nI nr), xregionSize, xcounter, xmemory, xstmtOp, xstmtA, xstmtB, xstmtOwner, xoutRegion, xoutLoaded, xoutGroup, xoutAlign, xoutVma, xoutLma, xoutDot, xgroupStart, xgroupEnd, xgroupResident, xinKind, xinId, xinAlign, xinSize, xinFirstByte, xinStmt, xinLive, xinVma, xfedBytes, xrelocOwner, xrelocOffset, xrelocType, xrelocTarget, xrelocAddend) := by
  obtain ⟨q1, q2, q3⟩ := hq
  have H : ∀ d r, r + d = nr → wX_markTargetsOfLive_2 post xphase (nI ns) xopenOut xopenGroup (nI no) (nI ng) (nI ni) (nI nb) (nI nr) (d + 1) (nI r) xregionSize xcounter xmemory xstmtOp xstmtA xstmtB xstmtOwner xoutRegion xoutLoaded xoutGroup xoutAlign xoutVma xoutLma xoutDot xgroupStart xgroupEnd xgroupResident xinKind xinId xinAlign xinSize xinFirstByte xinStmt (lk_ps (lk_sp xrelocOwner xrelocTarget xinStmt ni) r xinLive) xinVma xfedBytes xrelocOwner xrelocOffset xrelocType xrelocTarget xrelocAddend := by
    intro d
    induction d with
    | zero =>
      intro r hr
      have e1 : r = nr := hr
      subst e1
      exact br_t (nI_le (by omega) (by omega)) h
    | succ d ih =>
      intro r hr
      obtain ⟨o, t, ho, eo, ht, et⟩ := q3 r (by omega)
      have e : (nI r).toNatClampNeg = r := nI_clamp (by omega)
      have v1 : vp_in (nI r) 32 := vp_in_nI (by omega) (by omega)
      have v2 : vp_in (xrelocOwner (nI r).toNatClampNeg) 16 := by rw [e, eo]; exact vp_in_nI (by omega) (by omega)
      have v3 : vp_in (xrelocTarget (nI r).toNatClampNeg) 16 := by rw [e, et]; exact vp_in_nI (by omega) (by omega)
      have hi := ih (r + 1) (by omega)
      have es : lk_ps (lk_sp xrelocOwner xrelocTarget xinStmt ni) (r + 1) xinLive = lk_sp xrelocOwner xrelocTarget xinStmt ni r (lk_ps (lk_sp xrelocOwner xrelocTarget xinStmt ni) r xinLive) := rfl
      rw [es] at hi
      refine br_f (nI_ge (by omega) (by omega)) ⟨v1, v2, ?_⟩
      by_cases a : lk_ps (lk_sp xrelocOwner xrelocTarget xinStmt ni) r xinLive (xrelocOwner (nI r).toNatClampNeg).toNatClampNeg = 1
      · refine br_t a (lx_hat (by omega) ht q1 et (fun z => ?_) (fun z => ?_))
        · refine br_f (by decide) ⟨v1, v3, nm_r ?_ (nm_r (nI_1 r) hi)⟩
          rw [e] at a ⊢
          exact (if_pos ⟨a, z⟩).symm
        · refine br_t rfl (nm_r (nI_1 r) ?_)
          have e2 : lk_sp xrelocOwner xrelocTarget xinStmt ni r (lk_ps (lk_sp xrelocOwner xrelocTarget xinStmt ni) r xinLive) = lk_ps (lk_sp xrelocOwner xrelocTarget xinStmt ni) r xinLive := if_neg (fun y => z y.2)
          rw [e2] at hi
          exact hi
      · refine br_f a (nm_r (nI_1 r) ?_)
        rw [e] at a
        have e2 : lk_sp xrelocOwner xrelocTarget xinStmt ni r (lk_ps (lk_sp xrelocOwner xrelocTarget xinStmt ni) r xinLive) = lk_ps (lk_sp xrelocOwner xrelocTarget xinStmt ni) r xinLive := if_neg (fun y => a y.1)
        rw [e2] at hi
        exact hi
  exact ⟨_, H nr 0 (by omega)⟩
theorem lx_rounds {post : St2 → Prop} {ns no ng ni nb nr : Nat} {xphase xopenOut xopenGroup : Int32} {xregionSize xcounter xmemory xstmtOp xstmtA xstmtB xstmtOwner xoutRegion xoutLoaded xoutGroup xoutAlign xoutVma xoutLma xoutDot xgroupStart xgroupEnd xgroupResident xinKind xinId xinAlign xinSize xinFirstByte xinStmt xinLive xinVma xfedBytes xrelocOwner xrelocOffset xrelocType xrelocTarget xrelocAddend : Nat → Int32} (hq : lk_hq ni nr xrelocOwner xrelocTarget) (h : post (xphase, (nI ns), xopenOut, xopenGroup, (nI no), (nI ng), (nI ni), (nI nb), (nI nr), xregionSize, xcounter, xmemory, xstmtOp, xstmtA, xstmtB, xstmtOwner, xoutRegion, xoutLoaded, xoutGroup, xoutAlign, xoutVma, xoutLma, xoutDot, xgroupStart, xgroupEnd, xgroupResident, xinKind, xinId, xinAlign, xinSize, xinFirstByte, xinStmt, (lk_it (lk_sp xrelocOwner xrelocTarget xinStmt ni) nr ni xinLive), xinVma, xfedBytes, xrelocOwner, xrelocOffset, xrelocType, xrelocTarget, xrelocAddend)) : ∃ n, wX_markLive_68 post n 0 xphase (nI ns) xopenOut xopenGroup (nI no) (nI ng) (nI ni) (nI nb) (nI nr) xregionSize xcounter xmemory xstmtOp xstmtA xstmtB xstmtOwner xoutRegion xoutLoaded xoutGroup xoutAlign xoutVma xoutLma xoutDot xgroupStart xgroupEnd xgroupResident xinKind xinId xinAlign xinSize xinFirstByte xinStmt xinLive xinVma xfedBytes xrelocOwner xrelocOffset xrelocType xrelocTarget xrelocAddend := by
  have h16 := hq.1
  have H : ∀ d x, x + d = ni → wX_markLive_68 post (d + 1) (nI x) xphase (nI ns) xopenOut xopenGroup (nI no) (nI ng) (nI ni) (nI nb) (nI nr) xregionSize xcounter xmemory xstmtOp xstmtA xstmtB xstmtOwner xoutRegion xoutLoaded xoutGroup xoutAlign xoutVma xoutLma xoutDot xgroupStart xgroupEnd xgroupResident xinKind xinId xinAlign xinSize xinFirstByte xinStmt (lk_it (lk_sp xrelocOwner xrelocTarget xinStmt ni) nr x xinLive) xinVma xfedBytes xrelocOwner xrelocOffset xrelocType xrelocTarget xrelocAddend := by
    intro d
    induction d with
    | zero =>
      intro x hx
      have e1 : x = ni := hx
      subst e1
      exact br_t (nI_le (by omega) (by omega)) h
    | succ d ih =>
      intro x hx
      exact br_f (nI_ge (by omega) (by omega)) (lx_pass hq (nm_r (nI_1 x) (ih (x + 1) (by omega))))
  exact ⟨_, H ni 0 (by omega)⟩
def lk_ht (ni : Nat) (st : Nat → Int32) : Prop := ∀ s, s < ni → st s = -1 ∨ ∃ q, q < 32 ∧ st s = nI q
theorem lx_live {post : St2 → Prop} {ns no ng ni nb nr : Nat} {xphase xopenOut xopenGroup : Int32} {xregionSize xcounter xmemory xstmtOp xstmtA xstmtB xstmtOwner xoutRegion xoutLoaded xoutGroup xoutAlign xoutVma xoutLma xoutDot xgroupStart xgroupEnd xgroupResident xinKind xinId xinAlign xinSize xinFirstByte xinStmt xinLive xinVma xfedBytes xrelocOwner xrelocOffset xrelocType xrelocTarget xrelocAddend : Nat → Int32} {gc : Int32} (hq : lk_hq ni nr xrelocOwner xrelocTarget) (ht : lk_ht ni xinStmt) (h : post (xphase, (nI ns), xopenOut, xopenGroup, (nI no), (nI ng), (nI ni), (nI nb), (nI nr), xregionSize, xcounter, xmemory, xstmtOp, xstmtA, xstmtB, xstmtOwner, xoutRegion, xoutLoaded, xoutGroup, xoutAlign, xoutVma, xoutLma, xoutDot, xgroupStart, xgroupEnd, xgroupResident, xinKind, xinId, xinAlign, xinSize, xinFirstByte, xinStmt, (lk_lv xstmtOp xinStmt xrelocOwner xrelocTarget gc ni nr xinLive), xinVma, xfedBytes, xrelocOwner, xrelocOffset, xrelocType, xrelocTarget, xrelocAddend)) : wpX_markLive post (xphase, (nI ns), xopenOut, xopenGroup, (nI no), (nI ng), (nI ni), (nI nb), (nI nr), xregionSize, xcounter, xmemory, xstmtOp, xstmtA, xstmtB, xstmtOwner, xoutRegion, xoutLoaded, xoutGroup, xoutAlign, xoutVma, xoutLma, xoutDot, xgroupStart, xgroupEnd, xgroupResident, xinKind, xinId, xinAlign, xinSize, xinFirstByte, xinStmt, xinLive, xinVma, xfedBytes, xrelocOwner, xrelocOffset, xrelocType, xrelocTarget, xrelocAddend) gc := by
  have h16 := hq.1
  have H : ∀ d s, s + d = ni → wX_markLive_2 post gc xphase (nI ns) xopenOut xopenGroup (nI no) (nI ng) (nI ni) (nI nb) (nI nr) (d + 1) (nI s) xregionSize xcounter xmemory xstmtOp xstmtA xstmtB xstmtOwner xoutRegion xoutLoaded xoutGroup xoutAlign xoutVma xoutLma xoutDot xgroupStart xgroupEnd xgroupResident xinKind xinId xinAlign xinSize xinFirstByte xinStmt (lk_as xinLive s (lk_l0 xstmtOp xinStmt gc)) xinVma xfedBytes xrelocOwner xrelocOffset xrelocType xrelocTarget xrelocAddend := by
    intro d
    induction d with
    | zero =>
      intro s hs
      have e1 : s = ni := hs
      subst e1
      exact br_t (nI_le (by omega) (by omega)) (lx_rounds hq h)
    | succ d ih =>
      intro s hs
      have e : (nI s).toNatClampNeg = s := nI_clamp (by omega)
      have v1 : vp_in (nI s) 16 := vp_in_nI (by omega) (by omega)
      have hi := ih (s + 1) (by omega)
      refine br_f (nI_ge (by omega) (by omega)) ⟨v1, ?_⟩
      by_cases a : xinStmt (nI s).toNatClampNeg = -1
      · refine br_t a (br_t rfl ⟨v1, nm_r ?_ (nm_r (nI_1 s) hi)⟩)
        rw [e] at a ⊢
        exact lk_as_s (if_neg (fun y => y.1 a)).symm
      · have v2 : vp_in (xinStmt (nI s).toNatClampNeg) 32 := by
          rw [e] at a ⊢
          rcases ht s (by omega) with z | ⟨q, hq2, z⟩
          · exact absurd z a
          · rw [z]; exact vp_in_nI hq2 (by omega)
        refine br_f a (br_f (by decide) ?_)
        by_cases b : gc = 0
        · refine br_t b ⟨v1, nm_r ?_ (nm_r (nI_1 s) hi)⟩
          rw [e] at a ⊢
          exact lk_as_s (if_pos ⟨a, Or.inl b⟩).symm
        · refine br_f b ⟨v1, v2, ?_⟩
          by_cases c : xstmtOp (xinStmt (nI s).toNatClampNeg).toNatClampNeg = 4
          · refine br_t c ⟨v1, nm_r ?_ (nm_r (nI_1 s) hi)⟩
            rw [e] at a c ⊢
            exact lk_as_s (if_pos ⟨a, Or.inr c⟩).symm
          · refine br_f c ⟨v1, nm_r ?_ (nm_r (nI_1 s) hi)⟩
            rw [e] at c ⊢
            exact lk_as_s (if_neg (fun y => y.2.elim b c)).symm
  have H2 := H ni 0 (by omega)
  rw [lk_as_0] at H2
  exact ⟨_, H2⟩
theorem lx_ud {post : Int32 → Prop} {ns no ng ni nb nr : Nat} {xphase xopenOut xopenGroup : Int32} {xregionSize xcounter xmemory xstmtOp xstmtA xstmtB xstmtOwner xoutRegion xoutLoaded xoutGroup xoutAlign xoutVma xoutLma xoutDot xgroupStart xgroupEnd xgroupResident xinKind xinId xinAlign xinSize xinFirstByte xinStmt xinLive xinVma xfedBytes xrelocOwner xrelocOffset xrelocType xrelocTarget xrelocAddend : Nat → Int32} (hq : lk_hq ni nr xrelocOwner xrelocTarget) (h1 : lk_ex (lk_ud xrelocOwner xrelocTarget xinStmt xinLive ni) nr 0 = true → post 1) (h0 : lk_ex (lk_ud xrelocOwner xrelocTarget xinStmt xinLive ni) nr 0 = false → post 0) : wpX_hasUndefinedTarget post (xphase, (nI ns), xopenOut, xopenGroup, (nI no), (nI ng), (nI ni), (nI nb), (nI nr), xregionSize, xcounter, xmemory, xstmtOp, xstmtA, xstmtB, xstmtOwner, xoutRegion, xoutLoaded, xoutGroup, xoutAlign, xoutVma, xoutLma, xoutDot, xgroupStart, xgroupEnd, xgroupResident, xinKind, xinId, xinAlign, xinSize, xinFirstByte, xinStmt, xinLive, xinVma, xfedBytes, xrelocOwner, xrelocOffset, xrelocType, xrelocTarget, xrelocAddend) := by
  obtain ⟨q1, q2, q3⟩ := hq
  have H : ∀ d r, r + d = nr → (lk_ex (lk_ud xrelocOwner xrelocTarget xinStmt xinLive ni) d r = true → post 1) → (lk_ex (lk_ud xrelocOwner xrelocTarget xinStmt xinLive ni) d r = false → post 0) → wX_hasUndefinedTarget_2 post xphase (nI ns) xopenOut xopenGroup (nI no) (nI ng) (nI ni) (nI nb) (nI nr) xregionSize xcounter xmemory xstmtOp xstmtA xstmtB xstmtOwner xoutRegion xoutLoaded xoutGroup xoutAlign xoutVma xoutLma xoutDot xgroupStart xgroupEnd xgroupResident xinKind xinId xinAlign xinSize xinFirstByte xinStmt xinLive xinVma xfedBytes xrelocOwner xrelocOffset xrelocType xrelocTarget xrelocAddend (d + 1) (nI r) := by
    intro d
    induction d with
    | zero => intro r hr _ h0; exact br_t (nI_le (by omega) (by omega)) (h0 rfl)
    | succ d ih =>
      intro r hr h1 h0
      obtain ⟨o, t, ho, eo, ht, et⟩ := q3 r (by omega)
      have e : (nI r).toNatClampNeg = r := nI_clamp (by omega)
      have v1 : vp_in (nI r) 32 := vp_in_nI (by omega) (by omega)
      have v2 : vp_in (xrelocOwner (nI r).toNatClampNeg) 16 := by rw [e, eo]; exact vp_in_nI (by omega) (by omega)
      have hn : ¬ lk_ud xrelocOwner xrelocTarget xinStmt xinLive ni r = true → wX_hasUndefinedTarget_2 post xphase (nI ns) xopenOut xopenGroup (nI no) (nI ng) (nI ni) (nI nb) (nI nr) xregionSize xcounter xmemory xstmtOp xstmtA xstmtB xstmtOwner xoutRegion xoutLoaded xoutGroup xoutAlign xoutVma xoutLma xoutDot xgroupStart xgroupEnd xgroupResident xinKind xinId xinAlign xinSize xinFirstByte xinStmt xinLive xinVma xfedBytes xrelocOwner xrelocOffset xrelocType xrelocTarget xrelocAddend (d + 1) (nI (r + 1)) := by
        intro z
        rw [lk_ex_f z] at h1 h0
        exact ih (r + 1) (by omega) h1 h0
      refine br_f (nI_ge (by omega) (by omega)) ⟨v1, v2, ?_⟩
      by_cases a : xinLive (xrelocOwner (nI r).toNatClampNeg).toNatClampNeg = 1
      · refine br_t a (lx_hat (by omega) ht q1 et (fun z => ?_) (fun z => ?_))
        · refine br_f (by decide) (nm_r (nI_1 r) (hn (fun y => (of_decide_eq_true y).2 z)))
        · rw [e] at a
          exact br_t rfl (h1 (lk_ex_t (decide_eq_true ⟨a, z⟩)))
      · rw [e] at a
        refine br_f (by rw [e]; exact a) (nm_r (nI_1 r) (hn (fun y => a (of_decide_eq_true y).1)))
  exact ⟨_, H nr 0 (by omega) h1 h0⟩
def lk_hl (ni no ns : Nat) (st lv ox oy : Nat → Int32) : Prop := no ≤ 8 ∧ ns ≤ 32 ∧ ∀ s, s < ni → lv s = 1 → ∃ q k, q < ns ∧ st s = nI q ∧ k < no ∧ ox q = nI k ∧ oy q = nI k
theorem lx_nl {post : Int32 → Prop} {ns no ng ni nb nr : Nat} {xphase xopenOut xopenGroup : Int32} {xregionSize xcounter xmemory xstmtOp xstmtA xstmtB xstmtOwner xoutRegion xoutLoaded xoutGroup xoutAlign xoutVma xoutLma xoutDot xgroupStart xgroupEnd xgroupResident xinKind xinId xinAlign xinSize xinFirstByte xinStmt xinLive xinVma xfedBytes xrelocOwner xrelocOffset xrelocType xrelocTarget xrelocAddend : Nat → Int32} {oy : Nat → Int32} (h16 : ni ≤ 16) (hl : lk_hl ni no ns xinStmt xinLive xstmtOwner oy) (h1 : lk_ex (lk_nl xinKind xinStmt xinLive xoutLoaded xstmtOwner) ni 0 = true → post 1) (h0 : lk_ex (lk_nl xinKind xinStmt xinLive xoutLoaded xstmtOwner) ni 0 = false → post 0) : wpX_hasBytesInNoload post (xphase, (nI ns), xopenOut, xopenGroup, (nI no), (nI ng), (nI ni), (nI nb), (nI nr), xregionSize, xcounter, xmemory, xstmtOp, xstmtA, xstmtB, xstmtOwner, xoutRegion, xoutLoaded, xoutGroup, xoutAlign, xoutVma, xoutLma, xoutDot, xgroupStart, xgroupEnd, xgroupResident, xinKind, xinId, xinAlign, xinSize, xinFirstByte, xinStmt, xinLive, xinVma, xfedBytes, xrelocOwner, xrelocOffset, xrelocType, xrelocTarget, xrelocAddend) := by
  obtain ⟨l1, l2, l3⟩ := hl
  have H : ∀ d s, s + d = ni → (lk_ex (lk_nl xinKind xinStmt xinLive xoutLoaded xstmtOwner) d s = true → post 1) → (lk_ex (lk_nl xinKind xinStmt xinLive xoutLoaded xstmtOwner) d s = false → post 0) → wX_hasBytesInNoload_2 post xphase (nI ns) xopenOut xopenGroup (nI no) (nI ng) (nI ni) (nI nb) (nI nr) xregionSize xcounter xmemory xstmtOp xstmtA xstmtB xstmtOwner xoutRegion xoutLoaded xoutGroup xoutAlign xoutVma xoutLma xoutDot xgroupStart xgroupEnd xgroupResident xinKind xinId xinAlign xinSize xinFirstByte xinStmt xinLive xinVma xfedBytes xrelocOwner xrelocOffset xrelocType xrelocTarget xrelocAddend (d + 1) (nI s) := by
    intro d
    induction d with
    | zero => intro s hs _ h0; exact br_t (nI_le (by omega) (by omega)) (h0 rfl)
    | succ d ih =>
      intro s hs h1 h0
      have e : (nI s).toNatClampNeg = s := nI_clamp (by omega)
      have v1 : vp_in (nI s) 16 := vp_in_nI (by omega) (by omega)
      have hn : ¬ lk_nl xinKind xinStmt xinLive xoutLoaded xstmtOwner s = true → wX_hasBytesInNoload_2 post xphase (nI ns) xopenOut xopenGroup (nI no) (nI ng) (nI ni) (nI nb) (nI nr) xregionSize xcounter xmemory xstmtOp xstmtA xstmtB xstmtOwner xoutRegion xoutLoaded xoutGroup xoutAlign xoutVma xoutLma xoutDot xgroupStart xgroupEnd xgroupResident xinKind xinId xinAlign xinSize xinFirstByte xinStmt xinLive xinVma xfedBytes xrelocOwner xrelocOffset xrelocType xrelocTarget xrelocAddend (d + 1) (nI (s + 1)) := by
        intro z
        rw [lk_ex_f z] at h1 h0
        exact ih (s + 1) (by omega) h1 h0
      refine br_f (nI_ge (by omega) (by omega)) ⟨v1, ?_⟩
      by_cases a : xinKind (nI s).toNatClampNeg = 3
      · refine br_t a (nm_r (nI_1 s) (hn (fun y => (of_decide_eq_true y).2.1 ?_)))
        rw [e] at a
        exact a
      · refine br_f a ⟨v1, ?_⟩
        by_cases b : xinLive (nI s).toNatClampNeg = 1
        · obtain ⟨q, k, hq, eq, hk, ek, _⟩ := l3 s (by omega) (by rw [e] at b; exact b)
          have v2 : vp_in (xinStmt (nI s).toNatClampNeg) 32 := by rw [e, eq]; exact vp_in_nI (by omega) (by omega)
          have v3 : vp_in (xstmtOwner (xinStmt (nI s).toNatClampNeg).toNatClampNeg) 8 := by rw [e, eq, nI_clamp (by omega), ek]; exact vp_in_nI (by omega) (by omega)
          refine br_t b ⟨v1, v2, v3, ?_⟩
          by_cases c : xoutLoaded (xstmtOwner (xinStmt (nI s).toNatClampNeg).toNatClampNeg).toNatClampNeg = 0
          · refine br_t c (h1 (lk_ex_t (decide_eq_true ?_)))
            rw [e] at a b c
            exact ⟨b, a, c⟩
          · refine br_f c (nm_r (nI_1 s) (hn (fun y => ?_)))
            rw [e] at c
            exact c (of_decide_eq_true y).2.2
        · refine br_f b (nm_r (nI_1 s) (hn (fun y => b ?_)))
          rw [e]
          exact (of_decide_eq_true y).1
  exact ⟨_, H ni 0 (by omega) h1 h0⟩
end
