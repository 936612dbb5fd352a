
section
/-! the law: the checks over the output sections -/
theorem lq_o0 {post : Int32 → Prop} {xphase xstmtCount xopenOut xopenGroup xoutCount xgroupCount xinCount xbyteCount xrelocCount : Int32} {xregionSize xcounter xmemory xstmtOp xstmtA xstmtB xstmtOwner xoutRegion xoutLoaded xoutGroup xoutAlign xoutVma xoutLma xoutDot xgroupStart xgroupEnd xgroupResident xinKind xinId xinAlign xinSize xinFirstByte xinStmt xinLive xinVma xfedBytes xrelocOwner xrelocOffset xrelocType xrelocTarget xrelocAddend : Nat → Int32} {no k : Nat} {y : Int32} (hp : ¬ xphase = 0) (h8 : no ≤ 8) (hk : k < no) (e2 : xoutCount = nI no) (ey : xoutVma k = y) (h : post y) : wpX_outInfo post (xphase, xstmtCount, xopenOut, xopenGroup, xoutCount, xgroupCount, xinCount, xbyteCount, xrelocCount, xregionSize, xcounter, xmemory, xstmtOp, xstmtA, xstmtB, xstmtOwner, xoutRegion, xoutLoaded, xoutGroup, xoutAlign, xoutVma, xoutLma, xoutDot, xgroupStart, xgroupEnd, xgroupResident, xinKind, xinId, xinAlign, xinSize, xinFirstByte, xinStmt, xinLive, xinVma, xfedBytes, xrelocOwner, xrelocOffset, xrelocType, xrelocTarget, xrelocAddend) (nI k) 0 := by
  subst e2
  subst ey
  have e : (nI k).toNatClampNeg = k := nI_clamp (by omega)
  refine br_f hp (br_f (nI_pos (by omega)) (br_t (nI_lt hk (by omega)) ?_))
  repeat (first | refine br_t (by decide) ?_ | refine br_f (by decide) ?_)
  refine ⟨vp_in_nI (by omega) (by omega), ?_⟩
  rw [e]
  exact h
theorem lq_o1 {post : Int32 → Prop} {xphase xstmtCount xopenOut xopenGroup xoutCount xgroupCount xinCount xbyteCount xrelocCount : Int32} {xregionSize xcounter xmemory xstmtOp xstmtA xstmtB xstmtOwner xoutRegion xoutLoaded xoutGroup xoutAlign xoutVma xoutLma xoutDot xgroupStart xgroupEnd xgroupResident xinKind xinId xinAlign xinSize xinFirstByte xinStmt xinLive xinVma xfedBytes xrelocOwner xrelocOffset xrelocType xrelocTarget xrelocAddend : Nat → Int32} {no k : Nat} {y : Int32} (hp : ¬ xphase = 0) (h8 : no ≤ 8) (hk : k < no) (e2 : xoutCount = nI no) (ey : xoutLma k = y) (h : post y) : wpX_outInfo post (xphase, xstmtCount, xopenOut, xopenGroup, xoutCount, xgroupCount, xinCount, xbyteCount, xrelocCount, xregionSize, xcounter, xmemory, xstmtOp, xstmtA, xstmtB, xstmtOwner, xoutRegion, xoutLoaded, xoutGroup, xoutAlign, xoutVma, xoutLma, xoutDot, xgroupStart, xgroupEnd, xgroupResident, xinKind, xinId, xinAlign, xinSize, xinFirstByte, xinStmt, xinLive, xinVma, xfedBytes, xrelocOwner, xrelocOffset, xrelocType, xrelocTarget, xrelocAddend) (nI k) 1 := by
  subst e2
  subst ey
  have e : (nI k).toNatClampNeg = k := nI_clamp (by omega)
  refine br_f hp (br_f (nI_pos (by omega)) (br_t (nI_lt hk (by omega)) ?_))
  repeat (first | refine br_t (by decide) ?_ | refine br_f (by decide) ?_)
  refine ⟨vp_in_nI (by omega) (by omega), ?_⟩
  rw [e]
  exact h
theorem lq_o3 {post : Int32 → Prop} {xphase xstmtCount xopenOut xopenGroup xoutCount xgroupCount xinCount xbyteCount xrelocCount : Int32} {xregionSize xcounter xmemory xstmtOp xstmtA xstmtB xstmtOwner xoutRegion xoutLoaded xoutGroup xoutAlign xoutVma xoutLma xoutDot xgroupStart xgroupEnd xgroupResident xinKind xinId xinAlign xinSize xinFirstByte xinStmt xinLive xinVma xfedBytes xrelocOwner xrelocOffset xrelocType xrelocTarget xrelocAddend : Nat → Int32} {no k : Nat} {y : Int32} (hp : ¬ xphase = 0) (h8 : no ≤ 8) (hk : k < no) (e2 : xoutCount = nI no) (ey : xoutRegion k = y) (h : post y) : wpX_outInfo post (xphase, xstmtCount, xopenOut, xopenGroup, xoutCount, xgroupCount, xinCount, xbyteCount, xrelocCount, xregionSize, xcounter, xmemory, xstmtOp, xstmtA, xstmtB, xstmtOwner, xoutRegion, xoutLoaded, xoutGroup, xoutAlign, xoutVma, xoutLma, xoutDot, xgroupStart, xgroupEnd, xgroupResident, xinKind, xinId, xinAlign, xinSize, xinFirstByte, xinStmt, xinLive, xinVma, xfedBytes, xrelocOwner, xrelocOffset, xrelocType, xrelocTarget, xrelocAddend) (nI k) 3 := by
  subst e2
  subst ey
  have e : (nI k).toNatClampNeg = k := nI_clamp (by omega)
  refine br_f hp (br_f (nI_pos (by omega)) (br_t (nI_lt hk (by omega)) ?_))
  repeat (first | refine br_t (by decide) ?_ | refine br_f (by decide) ?_)
  refine ⟨vp_in_nI (by omega) (by omega), ?_⟩
  rw [e]
  exact h
theorem lq_o4 {post : Int32 → Prop} {xphase xstmtCount xopenOut xopenGroup xoutCount xgroupCount xinCount xbyteCount xrelocCount : Int32} {xregionSize xcounter xmemory xstmtOp xstmtA xstmtB xstmtOwner xoutRegion xoutLoaded xoutGroup xoutAlign xoutVma xoutLma xoutDot xgroupStart xgroupEnd xgroupResident xinKind xinId xinAlign xinSize xinFirstByte xinStmt xinLive xinVma xfedBytes xrelocOwner xrelocOffset xrelocType xrelocTarget xrelocAddend : Nat → Int32} {no k : Nat} {y : Int32} (hp : ¬ xphase = 0) (h8 : no ≤ 8) (hk : k < no) (e2 : xoutCount = nI no) (ey : xoutLoaded k = y) (h : post y) : wpX_outInfo post (xphase, xstmtCount, xopenOut, xopenGroup, xoutCount, xgroupCount, xinCount, xbyteCount, xrelocCount, xregionSize, xcounter, xmemory, xstmtOp, xstmtA, xstmtB, xstmtOwner, xoutRegion, xoutLoaded, xoutGroup, xoutAlign, xoutVma, xoutLma, xoutDot, xgroupStart, xgroupEnd, xgroupResident, xinKind, xinId, xinAlign, xinSize, xinFirstByte, xinStmt, xinLive, xinVma, xfedBytes, xrelocOwner, xrelocOffset, xrelocType, xrelocTarget, xrelocAddend) (nI k) 4 := by
  subst e2
  subst ey
  have e : (nI k).toNatClampNeg = k := nI_clamp (by omega)
  refine br_f hp (br_f (nI_pos (by omega)) (br_t (nI_lt hk (by omega)) ?_))
  repeat (first | refine br_t (by decide) ?_ | refine br_f (by decide) ?_)
  refine ⟨vp_in_nI (by omega) (by omega), ?_⟩
  rw [e]
  exact h
theorem lq_o5 {post : Int32 → Prop} {xphase xstmtCount xopenOut xopenGroup xoutCount xgroupCount xinCount xbyteCount xrelocCount : Int32} {xregionSize xcounter xmemory xstmtOp xstmtA xstmtB xstmtOwner xoutRegion xoutLoaded xoutGroup xoutAlign xoutVma xoutLma xoutDot xgroupStart xgroupEnd xgroupResident xinKind xinId xinAlign xinSize xinFirstByte xinStmt xinLive xinVma xfedBytes xrelocOwner xrelocOffset xrelocType xrelocTarget xrelocAddend : Nat → Int32} {no k : Nat} {y : Int32} (hp : ¬ xphase = 0) (h8 : no ≤ 8) (hk : k < no) (e2 : xoutCount = nI no) (ey : xoutGroup k = y) (h : post y) : wpX_outInfo post (xphase, xstmtCount, xopenOut, xopenGroup, xoutCount, xgroupCount, xinCount, xbyteCount, xrelocCount, xregionSize, xcounter, xmemory, xstmtOp, xstmtA, xstmtB, xstmtOwner, xoutRegion, xoutLoaded, xoutGroup, xoutAlign, xoutVma, xoutLma, xoutDot, xgroupStart, xgroupEnd, xgroupResident, xinKind, xinId, xinAlign, xinSize, xinFirstByte, xinStmt, xinLive, xinVma, xfedBytes, xrelocOwner, xrelocOffset, xrelocType, xrelocTarget, xrelocAddend) (nI k) 5 := by
  subst e2
  subst ey
  have e : (nI k).toNatClampNeg = k := nI_clamp (by omega)
  refine br_f hp (br_f (nI_pos (by omega)) (br_t (nI_lt hk (by omega)) ?_))
  repeat (first | refine br_t (by decide) ?_ | refine br_f (by decide) ?_)
  refine ⟨vp_in_nI (by omega) (by omega), ?_⟩
  rw [e]
  exact h
theorem lq_o2 {post : Int32 → Prop} {xphase xstmtCount xopenOut xopenGroup xoutCount xgroupCount xinCount xbyteCount xrelocCount : Int32} {xregionSize xcounter xmemory xstmtOp xstmtA xstmtB xstmtOwner xoutRegion xoutLoaded xoutGroup xoutAlign xoutVma xoutLma xoutDot xgroupStart xgroupEnd xgroupResident xinKind xinId xinAlign xinSize xinFirstByte xinStmt xinLive xinVma xfedBytes xrelocOwner xrelocOffset xrelocType xrelocTarget xrelocAddend : Nat → Int32} {no k v d : Nat} (hp : ¬ xphase = 0) (h8 : no ≤ 8) (hk : k < no) (e2 : xoutCount = nI no) (ev : xoutVma k = nI v) (ed : xoutDot k = nI d) (hvd : v ≤ d) (h : post (nI (d - v))) : wpX_outInfo post (xphase, xstmtCount, xopenOut, xopenGroup, xoutCount, xgroupCount, xinCount, xbyteCount, xrelocCount, xregionSize, xcounter, xmemory, xstmtOp, xstmtA, xstmtB, xstmtOwner, xoutRegion, xoutLoaded, xoutGroup, xoutAlign, xoutVma, xoutLma, xoutDot, xgroupStart, xgroupEnd, xgroupResident, xinKind, xinId, xinAlign, xinSize, xinFirstByte, xinStmt, xinLive, xinVma, xfedBytes, xrelocOwner, xrelocOffset, xrelocType, xrelocTarget, xrelocAddend) (nI k) 2 := by
  subst e2
  have e : (nI k).toNatClampNeg = k := nI_clamp (by omega)
  refine br_f hp (br_f (nI_pos (by omega)) (br_t (nI_lt hk (by omega)) ?_))
  repeat (first | refine br_t (by decide) ?_ | refine br_f (by decide) ?_)
  refine ⟨vp_in_nI (by omega) (by omega), vp_in_nI (by omega) (by omega), ?_⟩
  rw [e, ev, ed, pk_sub hvd]
  exact h
theorem lq_903 {post : Int32 → Prop} {L : Nat} {xs : Nat → Int32} {J641 J778 : Int32 → Prop} {x1 x6 x7 x8 x9 x10 x11 x12 x13 x14 x15 x18 x20 x22 x23 y : Int32} {kc ks : Nat} {xphase xstmtCount xopenOut xopenGroup xoutCount xgroupCount xinCount xbyteCount xrelocCount : Int32} {xregionSize xcounter xmemory xstmtOp xstmtA xstmtB xstmtOwner xoutRegion xoutLoaded xoutGroup xoutAlign xoutVma xoutLma xoutDot xgroupStart xgroupEnd xgroupResident xinKind xinId xinAlign xinSize xinFirstByte xinStmt xinLive xinVma xfedBytes xrelocOwner xrelocOffset xrelocType xrelocTarget xrelocAddend : Nat → Int32} (ey : x18 + 1 = y) (hJ : J778 y) (h : x13 = 1 → x22 = 1 → x14 + x11 ≤ x23) : wL_law_903 post L xs J641 J778 x1 x6 x7 x8 x9 x10 x11 x12 x13 x14 x15 x18 x20 x22 x23 kc ks xphase xstmtCount xopenOut xopenGroup xoutCount xgroupCount xinCount xbyteCount xrelocCount xregionSize xcounter xmemory xstmtOp xstmtA xstmtB xstmtOwner xoutRegion xoutLoaded xoutGroup xoutAlign xoutVma xoutLma xoutDot xgroupStart xgroupEnd xgroupResident xinKind xinId xinAlign xinSize xinFirstByte xinStmt xinLive xinVma xfedBytes xrelocOwner xrelocOffset xrelocType xrelocTarget xrelocAddend := by
  by_cases a : x13 = 1
  · by_cases b : x22 = 1
    · refine br_t a (br_t b ?_)
      by_cases c1 : x11 ≤ 0
      · exact br_t c1 (nm_r ey hJ)
      by_cases c2 : x20 ≤ 0
      · exact br_f c1 (br_t c2 (nm_r ey hJ))
      by_cases c3 : x23 + x20 ≤ x14
      · exact br_f c1 (br_f c2 (br_t c3 (nm_r ey hJ)))
      · exact br_f c1 (br_f c2 (br_f c3 (br_t (h a b) (nm_r ey hJ))))
    · exact br_t a (br_f b (nm_r ey hJ))
  · exact br_f a (nm_r ey hJ)
theorem lq_857 {post : Int32 → Prop} {L : Nat} {xs : Nat → Int32} {J641 J778 : Int32 → Prop} {x1 x6 x7 x8 x9 x10 x11 x12 x13 x14 x15 x18 x19 x20 x21 x22 x23 z0 y : Int32} {kc ks : Nat} {xphase xstmtCount xopenOut xopenGroup xoutCount xgroupCount xinCount xbyteCount xrelocCount : Int32} {xregionSize xcounter xmemory xstmtOp xstmtA xstmtB xstmtOwner xoutRegion xoutLoaded xoutGroup xoutAlign xoutVma xoutLma xoutDot xgroupStart xgroupEnd xgroupResident xinKind xinId xinAlign xinSize xinFirstByte xinStmt xinLive xinVma xfedBytes xrelocOwner xrelocOffset xrelocType xrelocTarget xrelocAddend : Nat → Int32} (ey : x18 + 1 = y) (hJ : J778 y) (h : x13 = 1 → x22 = 1 → x14 + x11 ≤ x23) (h2 : x21 = x12 → z0 = 0 → x10 + x11 ≤ x19) : wL_law_857 post L xs J641 J778 x1 x6 x7 x8 x9 x10 x11 x12 x13 x14 x15 x18 x19 x20 x21 x22 x23 z0 kc ks xphase xstmtCount xopenOut xopenGroup xoutCount xgroupCount xinCount xbyteCount xrelocCount xregionSize xcounter xmemory xstmtOp xstmtA xstmtB xstmtOwner xoutRegion xoutLoaded xoutGroup xoutAlign xoutVma xoutLma xoutDot xgroupStart xgroupEnd xgroupResident xinKind xinId xinAlign xinSize xinFirstByte xinStmt xinLive xinVma xfedBytes xrelocOwner xrelocOffset xrelocType xrelocTarget xrelocAddend := by
  by_cases a : x21 = x12
  · by_cases b : z0 = 0
    · refine br_t a (br_t b ?_)
      by_cases c1 : x11 ≤ 0
      · exact br_t c1 (lq_903 ey hJ h)
      by_cases c2 : x20 ≤ 0
      · exact br_f c1 (br_t c2 (lq_903 ey hJ h))
      by_cases c3 : x19 + x20 ≤ x10
      · exact br_f c1 (br_f c2 (br_t c3 (lq_903 ey hJ h)))
      · exact br_f c1 (br_f c2 (br_f c3 (br_t (h2 a b) (lq_903 ey hJ h))))
    · exact br_t a (br_f b (lq_903 ey hJ h))
  · exact br_f a (lq_903 ey hJ h)
theorem lq_641 {L : Nat} {xs : Nat → Int32} {kc ks no R0 R1 p : Nat} {xphase xstmtCount xopenOut xopenGroup xoutCount xgroupCount xinCount xbyteCount xrelocCount : Int32} {xregionSize xcounter xmemory xstmtOp xstmtA xstmtB xstmtOwner xoutRegion xoutLoaded xoutGroup xoutAlign xoutVma xoutLma xoutDot xgroupStart xgroupEnd xgroupResident xinKind xinId xinAlign xinSize xinFirstByte xinStmt xinLive xinVma xfedBytes xrelocOwner xrelocOffset xrelocType xrelocTarget xrelocAddend : Nat → Int32} (hL : L ≤ 260) (hp : p ≤ 1000) (I : lq_L 1 no R0 R1 (xphase, xstmtCount, xopenOut, xopenGroup, xoutCount, xgroupCount, xinCount, xbyteCount, xrelocCount, xregionSize, xcounter, xmemory, xstmtOp, xstmtA, xstmtB, xstmtOwner, xoutRegion, xoutLoaded, xoutGroup, xoutAlign, xoutVma, xoutLma, xoutDot, xgroupStart, xgroupEnd, xgroupResident, xinKind, xinId, xinAlign, xinSize, xinFirstByte, xinStmt, xinLive, xinVma, xfedBytes, xrelocOwner, xrelocOffset, xrelocType, xrelocTarget, xrelocAddend)) : ∀ d i, i + d = no → wL_law_641 (fun r : Int32 => r = 1) L xs (nI p) (nI no) (nI R0) (nI (256 + R1)) kc ks xphase xstmtCount xopenOut xopenGroup xoutCount xgroupCount xinCount xbyteCount xrelocCount xregionSize xcounter xmemory xstmtOp xstmtA xstmtB xstmtOwner xoutRegion xoutLoaded xoutGroup xoutAlign xoutVma xoutLma xoutDot xgroupStart xgroupEnd xgroupResident xinKind xinId xinAlign xinSize xinFirstByte xinStmt xinLive xinVma xfedBytes xrelocOwner xrelocOffset xrelocType xrelocTarget xrelocAddend (d + 1) (nI i) := by
  have IT : lq_T no R0 R1 (xphase, xstmtCount, xopenOut, xopenGroup, xoutCount, xgroupCount, xinCount, xbyteCount, xrelocCount, xregionSize, xcounter, xmemory, xstmtOp, xstmtA, xstmtB, xstmtOwner, xoutRegion, xoutLoaded, xoutGroup, xoutAlign, xoutVma, xoutLma, xoutDot, xgroupStart, xgroupEnd, xgroupResident, xinKind, xinId, xinAlign, xinSize, xinFirstByte, xinStmt, xinLive, xinVma, xfedBytes, xrelocOwner, xrelocOffset, xrelocType, xrelocTarget, xrelocAddend) := Or.inr (Or.inl I)
  obtain ⟨ng, V, LL, D, G0, GE, me, e1, e2, e3, hZ, hK, _⟩ := I
  obtain ⟨h8, h4, hof, hk, has, hg, ⟨C1, hG⟩, hr⟩ := hK
  have hR1 : R1 ≤ 128 := hZ.2.2.2.2.2
  have hR0 : R0 ≤ 128 := hZ.2.2.2.1
  have np : ¬ xphase = 0 := by rw [e1]; decide
  have hD : ∀ k, k < no → V k ≤ D k ∧ D k < 2 ^ 29 := by
    intro k hkn
    obtain ⟨t1, t2, t3, t4, t5, t6, t7⟩ := hk k hkn
    refine ⟨t4, ?_⟩
    rcases hof k hkn with ⟨r, _⟩ | ⟨r, _⟩
    · have := (t6 r).1; omega
    · have := (t5 r).2; omega
  intro d
  induction d with
  | zero => intro i hi; exact br_t (nI_le (by omega) (by omega)) (lq_959 hL h8 hp IT)
  | succ d ih =>
    intro i hi
    have hin : i < no := by omega
    obtain ⟨t1, t2, t3, t4, t5, t6, t7⟩ := hk i hin
    obtain ⟨_, hDi⟩ := hD i hin
    have H : ∀ e j, j + e = no → i < j → wL_law_778 (fun r : Int32 => r = 1) L xs (wL_law_641 (fun r : Int32 => r = 1) L xs (nI p) (nI no) (nI R0) (nI (256 + R1)) kc ks xphase xstmtCount xopenOut xopenGroup xoutCount xgroupCount xinCount xbyteCount xrelocCount xregionSize xcounter xmemory xstmtOp xstmtA xstmtB xstmtOwner xoutRegion xoutLoaded xoutGroup xoutAlign xoutVma xoutLma xoutDot xgroupStart xgroupEnd xgroupResident xinKind xinId xinAlign xinSize xinFirstByte xinStmt xinLive xinVma xfedBytes xrelocOwner xrelocOffset xrelocType xrelocTarget xrelocAddend (d + 1)) (nI p) (nI no) (nI R0) (nI (256 + R1)) (nI i) (nI (V i)) (nI (D i - V i)) (xoutRegion i) (xoutLoaded i) (nI (LL i)) (xoutGroup i) kc ks xphase xstmtCount xopenOut xopenGroup xoutCount xgroupCount xinCount xbyteCount xrelocCount xregionSize xcounter xmemory xstmtOp xstmtA xstmtB xstmtOwner xoutRegion xoutLoaded xoutGroup xoutAlign xoutVma xoutLma xoutDot xgroupStart xgroupEnd xgroupResident xinKind xinId xinAlign xinSize xinFirstByte xinStmt xinLive xinVma xfedBytes xrelocOwner xrelocOffset xrelocType xrelocTarget xrelocAddend (e + 1) (nI j) := by
      intro e
      induction e with
      | zero => intro j hj _; exact br_t (nI_le (by omega) (by omega)) (nm_r (nI_1 i) (ih (i + 1) (by omega)))
      | succ e ihe =>
        intro j hj hij
        have hjn : j < no := by omega
        obtain ⟨s1, s2, s3, s4, s5, s6, s7⟩ := hk j hjn
        obtain ⟨_, hDj⟩ := hD j hjn
        have hl : xoutLoaded i = 1 → xoutLoaded j = 1 → nI (LL i) + nI (D i - V i) ≤ nI (LL j) := by
          intro a b
          have c1 := has i j hij hjn a b
          have c2 := s7 b
          rw [nI_add]
          exact nI_le c1 (by omega)
        have hv : xoutRegion j = xoutRegion i → (xoutGroup i = -1 ∨ ¬ xoutGroup i = xoutGroup j) → nI (V i) + nI (D i - V i) ≤ nI (V j) := by
          intro a b
          rw [nI_add]
          refine nI_le ?_ (by omega)
          rcases hof i hin with ⟨r, l, _⟩ | ⟨r, _, _⟩
          · rw [r] at a
            have lj : xoutLoaded j = 1 := by
              rcases hof j hjn with ⟨_, l2, _⟩ | ⟨r2, _⟩
              · exact l2
              · rw [a] at r2
                exact absurd r2 (by decide)
            have c1 := has i j hij hjn l lj
            have c2 := (t6 r).2
            have c3 := (s6 a).2
            omega
          · rw [r] at a
            have c1 := hG.2.2.2.2.2.2.1 i j hij hjn r a b
            omega
        have nx := ihe (j + 1) (by omega) (by omega)
        refine br_f (nI_ge (by omega) (by omega)) (lq_o0 np h8 hjn e2 s1 (lq_o2 np h8 hjn e2 s1 s3 s4 (lq_o3 np h8 hjn e2 rfl (lq_o4 np h8 hjn e2 rfl (lq_o1 np h8 hjn e2 s2 (lq_o5 np h8 hjn e2 rfl ?_))))))
        by_cases g1 : xoutGroup i = -1
        · exact br_t g1 (lq_857 (nI_1 j) nx hl (fun a _ => hv a (Or.inl g1)))
        · by_cases g2 : xoutGroup i = xoutGroup j
          · exact br_f g1 (br_t g2 (lq_857 (nI_1 j) nx hl (fun _ z => absurd z (by decide))))
          · exact br_f g1 (br_f g2 (lq_857 (nI_1 j) nx hl (fun a _ => hv a (Or.inr g2))))
    have HH := H (no - (i + 1)) (i + 1) (by omega) (by omega)
    have ev : nI (V i) + nI (D i - V i) = nI (D i) := by rw [nI_add, show V i + (D i - V i) = D i by omega]
    have fin : ∀ lo hi : Nat, lo ≤ V i → D i ≤ hi → hi < 2 ^ 30 → wL_law_728 (fun r : Int32 => r = 1) L xs (wL_law_641 (fun r : Int32 => r = 1) L xs (nI p) (nI no) (nI R0) (nI (256 + R1)) kc ks xphase xstmtCount xopenOut xopenGroup xoutCount xgroupCount xinCount xbyteCount xrelocCount xregionSize xcounter xmemory xstmtOp xstmtA xstmtB xstmtOwner xoutRegion xoutLoaded xoutGroup xoutAlign xoutVma xoutLma xoutDot xgroupStart xgroupEnd xgroupResident xinKind xinId xinAlign xinSize xinFirstByte xinStmt xinLive xinVma xfedBytes xrelocOwner xrelocOffset xrelocType xrelocTarget xrelocAddend (d + 1)) (nI p) (nI no) (nI R0) (nI (256 + R1)) (nI i) (nI (V i)) (nI (D i - V i)) (xoutRegion i) (xoutLoaded i) (nI (LL i)) (xoutGroup i) (nI lo) (nI hi) kc ks xphase xstmtCount xopenOut xopenGroup xoutCount xgroupCount xinCount xbyteCount xrelocCount xregionSize xcounter xmemory xstmtOp xstmtA xstmtB xstmtOwner xoutRegion xoutLoaded xoutGroup xoutAlign xoutVma xoutLma xoutDot xgroupStart xgroupEnd xgroupResident xinKind xinId xinAlign xinSize xinFirstByte xinStmt xinLive xinVma xfedBytes xrelocOwner xrelocOffset xrelocType xrelocTarget xrelocAddend := by
      intro lo hi h1 h2 h3
      refine br_f (nI_nlt h1 (by omega)) (br_t (by rw [ev]; exact nI_le h2 (by omega)) ?_)
      by_cases l1 : xoutLoaded i = 1
      · have c1 := t7 l1
        exact br_t l1 (br_f (nI_pos (by omega)) (br_t (by rw [nI_add]; exact nI_le c1 (by omega)) (nm_r (nI_1 i) ⟨_, HH⟩)))
      · exact br_f l1 (nm_r (nI_1 i) ⟨_, HH⟩)
    refine br_f (nI_ge (by omega) (by omega)) (lq_o0 np h8 hin e2 t1 (lq_o2 np h8 hin e2 t1 t3 t4 (lq_o3 np h8 hin e2 rfl (lq_o4 np h8 hin e2 rfl (lq_o1 np h8 hin e2 t2 (lq_o5 np h8 hin e2 rfl ?_))))))
    rcases hof i hin with ⟨r, _⟩ | ⟨r, _⟩
    · exact br_t r (br_t r (fin 0 R0 (by omega) (t6 r).1 (by omega)))
    · have r0 : ¬ xoutRegion i = 0 := by rw [r]; decide
      exact br_f r0 (br_f r0 (fin 256 (256 + R1) (t5 r).1 (t5 r).2 (by omega)))
end
