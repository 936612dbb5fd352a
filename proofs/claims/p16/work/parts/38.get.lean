
section
/-! what the getters answer -/
theorem lq_cov {post : Int32 → Prop} {xphase xstmtCount xopenOut xopenGroup xoutCount xgroupCount xinCount xbyteCount xrelocCount : Int32} {xregionSize xcounter xmemory xstmtOp xstmtA xstmtB xstmtOwner xoutRegion xoutLoaded xoutGroup xoutAlign xoutVma xoutLma xoutDot xgroupStart xgroupEnd xgroupResident xinKind xinId xinAlign xinSize xinFirstByte xinStmt xinLive xinVma xfedBytes xrelocOwner xrelocOffset xrelocType xrelocTarget xrelocAddend : Nat → Int32} {k x v d : Nat} (hk : k < 8) (hx : x < 2 ^ 30) (hd : d < 2 ^ 30) (hv : v < 2 ^ 30) (ev : xoutVma k = nI v) (ed : xoutDot k = nI d) (h1 : v ≤ x → x < d → post 1) (h0 : ¬ (v ≤ x ∧ x < d) → post 0) : wpX_covers post (xphase, xstmtCount, xopenOut, xopenGroup, xoutCount, xgroupCount, xinCount, xbyteCount, xrelocCount, xregionSize, xcounter, xmemory, xstmtOp, xstmtA, xstmtB, xstmtOwner, xoutRegion, xoutLoaded, xoutGroup, xoutAlign, xoutVma, xoutLma, xoutDot, xgroupStart, xgroupEnd, xgroupResident, xinKind, xinId, xinAlign, xinSize, xinFirstByte, xinStmt, xinLive, xinVma, xfedBytes, xrelocOwner, xrelocOffset, xrelocType, xrelocTarget, xrelocAddend) (nI k) (nI x) := by
  have e : (nI k).toNatClampNeg = k := nI_clamp (by omega)
  have v8 : vp_in (nI k) 8 := vp_in_nI hk (by omega)
  refine ⟨v8, ?_⟩
  by_cases a : v ≤ x
  · refine br_f (by rw [e, ev]; exact nI_nlt a (by omega)) ⟨v8, ?_⟩
    by_cases b : x < d
    · exact br_f (by rw [e, ed]; exact nI_ge b (by omega)) (h1 a b)
    · exact br_t (by rw [e, ed]; exact nI_le (by omega) (by omega)) (h0 (fun z => b z.2))
  · exact br_t (by rw [e, ev]; exact nI_lt (by omega) (by omega)) (h0 (fun z => a z.1))
theorem lq_re {post : Int32 → Prop} {xphase xstmtCount xopenOut xopenGroup xoutCount xgroupCount xinCount xbyteCount xrelocCount : Int32} {xregionSize xcounter xmemory xstmtOp xstmtA xstmtB xstmtOwner xoutRegion xoutLoaded xoutGroup xoutAlign xoutVma xoutLma xoutDot xgroupStart xgroupEnd xgroupResident xinKind xinId xinAlign xinSize xinFirstByte xinStmt xinLive xinVma xfedBytes xrelocOwner xrelocOffset xrelocType xrelocTarget xrelocAddend : Nat → Int32} {R0 R1 : Nat} {z : Int32} (hZ : lk_Z xregionSize R0 R1) (hz : z = 0 ∨ z = 1) (h : post (nI (if z = 0 then R0 else 256 + R1))) : wpX_regionEnd post (xphase, xstmtCount, xopenOut, xopenGroup, xoutCount, xgroupCount, xinCount, xbyteCount, xrelocCount, xregionSize, xcounter, xmemory, xstmtOp, xstmtA, xstmtB, xstmtOwner, xoutRegion, xoutLoaded, xoutGroup, xoutAlign, xoutVma, xoutLma, xoutDot, xgroupStart, xgroupEnd, xgroupResident, xinKind, xinId, xinAlign, xinSize, xinFirstByte, xinStmt, xinLive, xinVma, xfedBytes, xrelocOwner, xrelocOffset, xrelocType, xrelocTarget, xrelocAddend) z := by
  rcases hz with e | e
  · subst e
    rw [if_pos rfl] at h
    refine br_t rfl ⟨vp_in_iff.mpr (by decide), ?_⟩
    rw [lk_e0, hZ.1, Int32.zero_add]
    exact h
  · subst e
    rw [if_neg (by decide)] at h
    refine br_f (by decide) ⟨vp_in_iff.mpr (by decide), ?_⟩
    rw [lk_e1, hZ.2.1, lk_256]
    exact h
theorem lq_r0 {post : Int32 → Prop} {xphase xstmtCount xopenOut xopenGroup xoutCount xgroupCount xinCount xbyteCount xrelocCount : Int32} {xregionSize xcounter xmemory xstmtOp xstmtA xstmtB xstmtOwner xoutRegion xoutLoaded xoutGroup xoutAlign xoutVma xoutLma xoutDot xgroupStart xgroupEnd xgroupResident xinKind xinId xinAlign xinSize xinFirstByte xinStmt xinLive xinVma xfedBytes xrelocOwner xrelocOffset xrelocType xrelocTarget xrelocAddend : Nat → Int32} {R0 R1 x : Nat} (hZ : lk_Z xregionSize R0 R1) (hx : x < 2 ^ 30) (h1 : x < R0 → post 1) (h0 : ¬ x < R0 → post 0) : wpX_isInRegion post (xphase, xstmtCount, xopenOut, xopenGroup, xoutCount, xgroupCount, xinCount, xbyteCount, xrelocCount, xregionSize, xcounter, xmemory, xstmtOp, xstmtA, xstmtB, xstmtOwner, xoutRegion, xoutLoaded, xoutGroup, xoutAlign, xoutVma, xoutLma, xoutDot, xgroupStart, xgroupEnd, xgroupResident, xinKind, xinId, xinAlign, xinSize, xinFirstByte, xinStmt, xinLive, xinVma, xfedBytes, xrelocOwner, xrelocOffset, xrelocType, xrelocTarget, xrelocAddend) 0 (nI x) := by
  obtain ⟨_, _, z1, z2, z3, z4⟩ := id hZ
  refine br_t rfl (br_f (nI_pos (by omega)) (lq_re hZ (Or.inl rfl) ?_))
  rw [if_pos rfl]
  by_cases c : x < R0
  · exact br_f (nI_ge c (by omega)) (h1 c)
  · exact br_t (nI_le (by omega) (by omega)) (h0 c)
theorem lq_r1 {post : Int32 → Prop} {xphase xstmtCount xopenOut xopenGroup xoutCount xgroupCount xinCount xbyteCount xrelocCount : Int32} {xregionSize xcounter xmemory xstmtOp xstmtA xstmtB xstmtOwner xoutRegion xoutLoaded xoutGroup xoutAlign xoutVma xoutLma xoutDot xgroupStart xgroupEnd xgroupResident xinKind xinId xinAlign xinSize xinFirstByte xinStmt xinLive xinVma xfedBytes xrelocOwner xrelocOffset xrelocType xrelocTarget xrelocAddend : Nat → Int32} {R0 R1 x : Nat} (hZ : lk_Z xregionSize R0 R1) (h1 : 256 ≤ x) (h2 : x < 256 + R1) (h : post 1) : wpX_isInRegion post (xphase, xstmtCount, xopenOut, xopenGroup, xoutCount, xgroupCount, xinCount, xbyteCount, xrelocCount, xregionSize, xcounter, xmemory, xstmtOp, xstmtA, xstmtB, xstmtOwner, xoutRegion, xoutLoaded, xoutGroup, xoutAlign, xoutVma, xoutLma, xoutDot, xgroupStart, xgroupEnd, xgroupResident, xinKind, xinId, xinAlign, xinSize, xinFirstByte, xinStmt, xinLive, xinVma, xfedBytes, xrelocOwner, xrelocOffset, xrelocType, xrelocTarget, xrelocAddend) 1 (nI x) := by
  obtain ⟨_, _, z1, z2, z3, z4⟩ := id hZ
  refine br_f (by decide) (br_f (nI_nlt (b := 256) h1 (by omega)) (lq_re hZ (Or.inr rfl) ?_))
  rw [if_neg (by decide)]
  exact br_f (nI_ge h2 (by omega)) h
theorem lq_rom {post : Int32 → Prop} {R0 R1 x : Nat} {xphase xstmtCount xopenOut xopenGroup xoutCount xgroupCount xinCount xbyteCount xrelocCount : Int32} {xregionSize xcounter xmemory xstmtOp xstmtA xstmtB xstmtOwner xoutRegion xoutLoaded xoutGroup xoutAlign xoutVma xoutLma xoutDot xgroupStart xgroupEnd xgroupResident xinKind xinId xinAlign xinSize xinFirstByte xinStmt xinLive xinVma xfedBytes xrelocOwner xrelocOffset xrelocType xrelocTarget xrelocAddend : Nat → Int32} (hZ : lk_Z xregionSize R0 R1) (hp : ¬ xphase = 0) (hx : x < R0) (h : post (xmemory x)) : wpX_romByte post (xphase, xstmtCount, xopenOut, xopenGroup, xoutCount, xgroupCount, xinCount, xbyteCount, xrelocCount, xregionSize, xcounter, xmemory, xstmtOp, xstmtA, xstmtB, xstmtOwner, xoutRegion, xoutLoaded, xoutGroup, xoutAlign, xoutVma, xoutLma, xoutDot, xgroupStart, xgroupEnd, xgroupResident, xinKind, xinId, xinAlign, xinSize, xinFirstByte, xinStmt, xinLive, xinVma, xfedBytes, xrelocOwner, xrelocOffset, xrelocType, xrelocTarget, xrelocAddend) (nI x) := by
  have z2 := hZ.2.2.2.1
  refine br_f hp (lq_r0 hZ (by omega) (fun _ => br_f (by decide) ⟨vp_in_nI (by omega) (by omega), ?_⟩) (fun z => absurd hx z))
  rw [nI_clamp (by omega)]
  exact h
theorem lq_runrom {post : Int32 → Prop} {R0 R1 x : Nat} {xphase xstmtCount xopenOut xopenGroup xoutCount xgroupCount xinCount xbyteCount xrelocCount : Int32} {xregionSize xcounter xmemory xstmtOp xstmtA xstmtB xstmtOwner xoutRegion xoutLoaded xoutGroup xoutAlign xoutVma xoutLma xoutDot xgroupStart xgroupEnd xgroupResident xinKind xinId xinAlign xinSize xinFirstByte xinStmt xinLive xinVma xfedBytes xrelocOwner xrelocOffset xrelocType xrelocTarget xrelocAddend : Nat → Int32} (hZ : lk_Z xregionSize R0 R1) (hp : ¬ xphase = 0) (hx : x < R0) (h : post (xmemory x)) : wpX_runByte post (xphase, xstmtCount, xopenOut, xopenGroup, xoutCount, xgroupCount, xinCount, xbyteCount, xrelocCount, xregionSize, xcounter, xmemory, xstmtOp, xstmtA, xstmtB, xstmtOwner, xoutRegion, xoutLoaded, xoutGroup, xoutAlign, xoutVma, xoutLma, xoutDot, xgroupStart, xgroupEnd, xgroupResident, xinKind, xinId, xinAlign, xinSize, xinFirstByte, xinStmt, xinLive, xinVma, xfedBytes, xrelocOwner, xrelocOffset, xrelocType, xrelocTarget, xrelocAddend) (nI x) := by
  have z2 := hZ.2.2.2.1
  refine br_f hp (lq_r0 hZ (by omega) (fun _ => br_f (by decide) ⟨vp_in_nI (by omega) (by omega), ?_⟩) (fun z => absurd hx z))
  rw [nI_clamp (by omega)]
  exact h
theorem lq_ram {post : Int32 → Prop} {R0 R1 x : Nat} {xphase xstmtCount xopenOut xopenGroup xoutCount xgroupCount xinCount xbyteCount xrelocCount : Int32} {xregionSize xcounter xmemory xstmtOp xstmtA xstmtB xstmtOwner xoutRegion xoutLoaded xoutGroup xoutAlign xoutVma xoutLma xoutDot xgroupStart xgroupEnd xgroupResident xinKind xinId xinAlign xinSize xinFirstByte xinStmt xinLive xinVma xfedBytes xrelocOwner xrelocOffset xrelocType xrelocTarget xrelocAddend : Nat → Int32} (hZ : lk_Z xregionSize R0 R1) (h1 : 256 ≤ x) (h2 : x < 256 + R1) (h : post (xmemory x)) : wpX_ramByte post (xphase, xstmtCount, xopenOut, xopenGroup, xoutCount, xgroupCount, xinCount, xbyteCount, xrelocCount, xregionSize, xcounter, xmemory, xstmtOp, xstmtA, xstmtB, xstmtOwner, xoutRegion, xoutLoaded, xoutGroup, xoutAlign, xoutVma, xoutLma, xoutDot, xgroupStart, xgroupEnd, xgroupResident, xinKind, xinId, xinAlign, xinSize, xinFirstByte, xinStmt, xinLive, xinVma, xfedBytes, xrelocOwner, xrelocOffset, xrelocType, xrelocTarget, xrelocAddend) (nI x) := by
  have z2 := hZ.2.2.2.2.2
  unfold wpX_ramByte
  refine lq_r1 hZ h1 h2 (br_f (by decide) ⟨vp_in_nI (by omega) (by omega), ?_⟩)
  rw [nI_clamp (by omega)]
  exact h
theorem lq_runram {post : Int32 → Prop} {no ng R0 R1 x : Nat} {xphase xstmtCount xopenOut xopenGroup : Int32} {xinCount xbyteCount xrelocCount : Int32} {xregionSize xcounter xmemory xstmtOp xstmtA xstmtB xstmtOwner xoutRegion xoutLoaded xoutGroup xoutAlign xoutVma xoutLma xoutDot xgroupStart xgroupEnd xgroupResident xinKind xinId xinAlign xinSize xinFirstByte xinStmt xinLive xinVma xfedBytes xrelocOwner xrelocOffset xrelocType xrelocTarget xrelocAddend : Nat → Int32} {V L D G0 GE : Nat → Nat} {me : Nat → Int32} (hZ : lk_Z xregionSize R0 R1) (hK : lq_K no ng R0 R1 xoutRegion xoutLoaded xoutGroup xoutVma xoutLma xoutDot xgroupStart xgroupEnd xgroupResident V L D G0 GE) (hM : lq_M R1 no ng xoutRegion xoutLoaded xoutGroup xgroupResident V L D G0 GE me xmemory) (hp : ¬ xphase = 0) (h1 : 256 ≤ x) (h2 : x < 256 + R1) (h : post (xmemory x)) : wpX_runByte post (xphase, xstmtCount, xopenOut, xopenGroup, (nI no), (nI ng), xinCount, xbyteCount, xrelocCount, xregionSize, xcounter, xmemory, xstmtOp, xstmtA, xstmtB, xstmtOwner, xoutRegion, xoutLoaded, xoutGroup, xoutAlign, xoutVma, xoutLma, xoutDot, xgroupStart, xgroupEnd, xgroupResident, xinKind, xinId, xinAlign, xinSize, xinFirstByte, xinStmt, xinLive, xinVma, xfedBytes, xrelocOwner, xrelocOffset, xrelocType, xrelocTarget, xrelocAddend) (nI x) := by
  obtain ⟨h8, h4, hof, hk, has, hg, ⟨C1, hG⟩, hr⟩ := hK
  have hR1 : R1 ≤ 128 := hZ.2.2.2.2.2
  have hR0 : R0 ≤ 128 := hZ.2.2.2.1
  obtain ⟨hm, hx⟩ := hM
  obtain ⟨a, b1, b2, c⟩ := hx x h1 h2
  have hD : ∀ k, k < no → V k ≤ D k ∧ D k < 2 ^ 29 := by
    intro k hkn
    obtain ⟨t1, t2, t3, t4, t5, t6, t7⟩ := hk k hkn
    refine ⟨t4, ?_⟩
    rcases hof k hkn with ⟨r, _⟩ | ⟨r, _⟩
    · have := (t6 r).1; omega
    · have := (t5 r).2; omega
  have im : ∀ k, k < no → V k ≤ x → x < D k → xmemory x = lq_im xoutLoaded L V me k x → post (if xoutLoaded k = 1 then xmemory (L k + (x - V k)) else 0) := by
    intro k hkn v1 v2 e
    rw [e] at h
    unfold lq_im at h
    by_cases l1 : xoutLoaded k = 1
    · have t7 := (hk k hkn).2.2.2.2.2.2 l1
      rw [if_pos l1] at h ⊢
      rw [hm _ (by omega)]
      exact h
    · rw [if_neg l1] at h ⊢
      exact h
  have HG : (∀ q, q < no → xoutRegion q = 1 → xoutGroup q = -1 → ¬ (V q ≤ x ∧ x < D q)) → ∀ d g, g + d = ng → (∀ f, f < g → ¬ (G0 f ≤ x ∧ x < GE f)) → wX_runRamByte_54 post (nI x) xphase xstmtCount xopenOut xopenGroup (nI no) (nI ng) xinCount xbyteCount xrelocCount xregionSize xcounter xmemory xstmtOp xstmtA xstmtB xstmtOwner xoutRegion xoutLoaded xoutGroup xoutAlign xoutVma xoutLma xoutDot xgroupStart xgroupEnd xgroupResident xinKind xinId xinAlign xinSize xinFirstByte xinStmt xinLive xinVma xfedBytes xrelocOwner xrelocOffset xrelocType xrelocTarget xrelocAddend (d + 1) (nI g) := by
    intro nA d
    induction d with
    | zero =>
      intro g hgd nB
      have e1 : g = ng := hgd
      subst e1
      rw [c nA nB] at h
      exact br_t (nI_le (by omega) (by omega)) h
    | succ d ih =>
      intro g hgd nB
      obtain ⟨s1, s2, s3, s4, s5, s6⟩ := hg g (by omega)
      have e : (nI g).toNatClampNeg = g := nI_clamp (by omega)
      have v4 : vp_in (nI g) 4 := vp_in_nI (by omega) (by omega)
      have n1 : ¬ nI ng ≤ nI g := nI_ge (by omega) (by omega)
      have nx : ¬ (G0 g ≤ x ∧ x < GE g) → wX_runRamByte_54 post (nI x) xphase xstmtCount xopenOut xopenGroup (nI no) (nI ng) xinCount xbyteCount xrelocCount xregionSize xcounter xmemory xstmtOp xstmtA xstmtB xstmtOwner xoutRegion xoutLoaded xoutGroup xoutAlign xoutVma xoutLma xoutDot xgroupStart xgroupEnd xgroupResident xinKind xinId xinAlign xinSize xinFirstByte xinStmt xinLive xinVma xfedBytes xrelocOwner xrelocOffset xrelocType xrelocTarget xrelocAddend (d + 1) (nI (g + 1)) := by
        intro z
        refine ih (g + 1) (by omega) (fun f hf => ?_)
        by_cases cf : f = g
        · rw [cf]; exact z
        · exact nB f (by omega)
      by_cases c1 : G0 g ≤ x
      · have xa : ¬ nI x < xgroupStart (nI g).toNatClampNeg := by rw [e, s1]; exact nI_nlt c1 (by omega)
        by_cases c2 : x < GE g
        · have xb : ¬ xgroupEnd (nI g).toNatClampNeg ≤ nI x := by rw [e, s2]; exact nI_ge c2 (by omega)
          rcases hr g (by omega) with z | ⟨k0, hk0, z, zg⟩
          · have v0 := b2 g (by omega) c1 c2 (fun q hq hqn => absurd (hq.symm.trans z) (lk_nn1 (by omega)))
            rw [v0] at h
            exact br_f n1 ⟨v4, br_f xa ⟨v4, br_f xb ⟨v4, nm_r (e' := -1) (by rw [e, z]) (br_t rfl h)⟩⟩⟩
          · obtain ⟨t1, t2, t3, t4, t5, t6, t7⟩ := hk k0 hk0
            obtain ⟨_, hDk⟩ := hD k0 hk0
            refine br_f n1 ⟨v4, br_f xa ⟨v4, br_f xb ⟨v4, nm_r (e' := nI k0) (by rw [e, z]) (br_f (lk_nn1 (by omega)) (lq_cov (by omega) (by omega) (by omega) (by omega) t1 t3 (fun q1 q2 => br_f (by decide) (lq_ib (by omega) t1 t2 q1 (fun q => by have := t7 q; omega) (im k0 hk0 q1 q2 (b1 g k0 (by omega) c1 c2 z hk0 q1 q2)))) (fun q => br_t rfl ?_)))⟩⟩⟩
            have v0 := b2 g (by omega) c1 c2 (fun q' hq hqn => by
              have eq : q' = k0 := (nI_eq (by omega) (by omega)).mp (hq.symm.trans z)
              rw [eq]; exact q)
            rw [v0] at h
            exact h
        · exact br_f n1 ⟨v4, br_f xa ⟨v4, br_t (by rw [e, s2]; exact nI_le (by omega) (by omega)) (nm_r (nI_1 g) (nx (fun z => c2 z.2)))⟩⟩
      · exact br_f n1 ⟨v4, br_t (by rw [e, s1]; exact nI_lt (by omega) (by omega)) (nm_r (nI_1 g) (nx (fun z => c1 z.1)))⟩
  have HO : ∀ d k, k + d = no → (∀ q, q < k → xoutRegion q = 1 → xoutGroup q = -1 → ¬ (V q ≤ x ∧ x < D q)) → wX_runRamByte_2 post (nI x) xphase xstmtCount xopenOut xopenGroup (nI no) (nI ng) xinCount xbyteCount xrelocCount xregionSize xcounter xmemory xstmtOp xstmtA xstmtB xstmtOwner xoutRegion xoutLoaded xoutGroup xoutAlign xoutVma xoutLma xoutDot xgroupStart xgroupEnd xgroupResident xinKind xinId xinAlign xinSize xinFirstByte xinStmt xinLive xinVma xfedBytes xrelocOwner xrelocOffset xrelocType xrelocTarget xrelocAddend (d + 1) (nI k) := by
    intro d
    induction d with
    | zero =>
      intro k hkd nA
      have e1 : k = no := hkd
      subst e1
      exact br_t (nI_le (by omega) (by omega)) ⟨_, HG nA ng 0 (by omega) (fun f hf => absurd hf (Nat.not_lt_zero f))⟩
    | succ d ih =>
      intro k hkd nA
      have hkn : k < no := by omega
      obtain ⟨t1, t2, t3, t4, t5, t6, t7⟩ := hk k hkn
      obtain ⟨_, hDk⟩ := hD k hkn
      have e : (nI k).toNatClampNeg = k := nI_clamp (by omega)
      have v8 : vp_in (nI k) 8 := vp_in_nI (by omega) (by omega)
      have n1 : ¬ nI no ≤ nI k := nI_ge (by omega) (by omega)
      have nx : ¬ (xoutRegion k = 1 ∧ xoutGroup k = -1 ∧ V k ≤ x ∧ x < D k) → wX_runRamByte_2 post (nI x) xphase xstmtCount xopenOut xopenGroup (nI no) (nI ng) xinCount xbyteCount xrelocCount xregionSize xcounter xmemory xstmtOp xstmtA xstmtB xstmtOwner xoutRegion xoutLoaded xoutGroup xoutAlign xoutVma xoutLma xoutDot xgroupStart xgroupEnd xgroupResident xinKind xinId xinAlign xinSize xinFirstByte xinStmt xinLive xinVma xfedBytes xrelocOwner xrelocOffset xrelocType xrelocTarget xrelocAddend (d + 1) (nI (k + 1)) := by
        intro z
        refine ih (k + 1) (by omega) (fun q hq r1 g1 => ?_)
        by_cases cf : q = k
        · rw [cf] at r1 g1 ⊢
          exact fun y => z ⟨r1, g1, y.1, y.2⟩
        · exact nA q (by omega) r1 g1
      by_cases r : xoutRegion k = 1
      · have r' : xoutRegion (nI k).toNatClampNeg = 1 := by rw [e]; exact r
        by_cases z : xoutGroup k = -1
        · have z' : xoutGroup (nI k).toNatClampNeg = -1 := by rw [e]; exact z
          exact br_f n1 ⟨v8, br_t r' ⟨v8, br_t z' (lq_cov (by omega) (by omega) (by omega) (by omega) t1 t3 (fun q1 q2 => br_f (by decide) (lq_ib (by omega) t1 t2 q1 (fun q => by have := t7 q; omega) (im k hkn q1 q2 (a k hkn r z q1 q2)))) (fun q => br_t rfl (nm_r (nI_1 k) (nx (fun y => q y.2.2)))))⟩⟩
        · exact br_f n1 ⟨v8, br_t r' ⟨v8, br_f (by rw [e]; exact z) (nm_r (nI_1 k) (nx (fun y => z y.2.1)))⟩⟩
      · exact br_f n1 ⟨v8, br_f (by rw [e]; exact r) (nm_r (nI_1 k) (nx (fun y => r y.1)))⟩
  exact br_f hp (lq_r0 hZ (by omega) (fun z => absurd z (by omega)) (fun _ => br_t rfl (lq_r1 hZ h1 h2 (br_f (by decide) ⟨_, HO no 0 (by omega) (fun q hq => absurd hq (Nat.not_lt_zero q))⟩))))
end
