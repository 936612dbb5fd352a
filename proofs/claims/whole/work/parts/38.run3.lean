
section
/-! AL: runByte -/
theorem lx_cov {post : Int32 → Prop} {ns no ng ni nb nr : Nat} {xphase xopenOut xopenGroup : Int32} {xregionSize xcounter xmemory xstmtOp xstmtA xstmtB xstmtOwner xoutRegion xoutLoaded xoutGroup xoutAlign xoutVma xoutLma xoutDot xgroupStart xgroupEnd xgroupResident xinKind xinId xinAlign xinSize xinFirstByte xinStmt xinLive xinVma xfedBytes xrelocOwner xrelocOffset xrelocType xrelocTarget xrelocAddend : Nat → Int32} {k x v d : Nat} (hk : k < 8) (hx : x < 2 ^ 30) (hd : d < 2 ^ 30) (hv : v < 2 ^ 30) (ev : xoutVma k = nI v) (ed : xoutDot k = nI d) (h1 : v ≤ x → x < d → post 1) (h0 : ¬ (v ≤ x ∧ x < d) → post 0) : wpX_covers post (xphase, (nI ns), xopenOut, xopenGroup, (nI no), (nI ng), (nI ni), (nI nb), (nI nr), xregionSize, xcounter, xmemory, xstmtOp, xstmtA, xstmtB, xstmtOwner, xoutRegion, xoutLoaded, xoutGroup, xoutAlign, xoutVma, xoutLma, xoutDot, xgroupStart, xgroupEnd, xgroupResident, xinKind, xinId, xinAlign, xinSize, xinFirstByte, xinStmt, xinLive, xinVma, xfedBytes, xrelocOwner, xrelocOffset, xrelocType, xrelocTarget, xrelocAddend) (nI k) (nI x) := by
  have e : (nI k).toNatClampNeg = k := nI_clamp (by omega)
  have v8 : vp_in (nI k) 8 := vp_in_nI hk (by omega)
  refine ⟨v8, ?_⟩
  by_cases a : v ≤ x
  · refine br_f (by rw [e, ev]; exact nI_nlt a (by omega)) ⟨v8, ?_⟩
    by_cases b : x < d
    · exact br_f (by rw [e, ed]; exact nI_ge b (by omega)) (h1 a b)
    · exact br_t (by rw [e, ed]; exact nI_le (by omega) (by omega)) (h0 (fun z => b z.2))
  · exact br_t (by rw [e, ev]; exact nI_lt (by omega) (by omega)) (h0 (fun z => a z.1))
theorem lk_ans {ni nr no : Nat} {ystOut xinKind xinStmt xinLive yinLen xinFirstByte xfedBytes xrelocOwner xrelocOffset xrelocType xrelocTarget xrelocAddend yinVma yinLma xmemory xoutLoaded : Nat → Int32} {V L D : Nat → Nat} {k x : Nat} (him : ∀ k off, k < no → off < D k - V k → (xoutLoaded k = 1 → xmemory (L k + off) = lk_ib ni nr ystOut xinKind xinStmt xinLive yinLen xinFirstByte xfedBytes xrelocOwner xrelocOffset xrelocType xrelocTarget xrelocAddend yinVma yinLma (nI k) (nI (V k + off))) ∧ (¬ xoutLoaded k = 1 → lk_ib ni nr ystOut xinKind xinStmt xinLive yinLen xinFirstByte xfedBytes xrelocOwner xrelocOffset xrelocType xrelocTarget xrelocAddend yinVma yinLma (nI k) (nI (V k + off)) = 0)) (hk : k < no) (h1 : V k ≤ x) (h2 : x < D k) : lk_ib ni nr ystOut xinKind xinStmt xinLive yinLen xinFirstByte xfedBytes xrelocOwner xrelocOffset xrelocType xrelocTarget xrelocAddend yinVma yinLma (nI k) (nI x) = if xoutLoaded k = 1 then xmemory (L k + (x - V k)) else 0 := by
  have h := him k (x - V k) hk (by omega)
  rw [show V k + (x - V k) = x by omega] at h
  by_cases a : xoutLoaded k = 1
  · rw [if_pos a, h.1 a]
  · rw [if_neg a, h.2 a]
theorem ly_175 {post : Int32 → Prop} {ns no ng ni nb nr R0 R1 : Nat} {xphase xopenOut yinGroup yfinalC0 yfinalC1 : Int32} {xstmtOp xstmtA xstmtB xoutRegion xoutLoaded xoutGroup xoutAlign xoutVma xoutLma xoutDot xinKind xinId xinAlign xinFirstByte xinStmt xinLive xfedBytes xrelocOwner xrelocOffset xrelocType xrelocTarget xrelocAddend ystOut youtSize youtRes ygStart ygEnd yinBss yinLen yinVma yinLma yrom yram : Nat → Int32} {V L D IV : Nat → Nat} {g x : Nat} (h8 : no ≤ 8) (h4 : ng ≤ 4) (hR : R0 ≤ 128 ∧ R1 ≤ 128) (hg : ∀ k, k < no → xoutGroup k = -1 ∨ ∃ g, g < ng ∧ xoutGroup k = nI g) (hrg : ∀ k, k < no → xoutRegion k = 0 ∨ xoutRegion k = 1) (hk : ∀ k, k < no → xoutVma k = nI (V k) ∧ xoutLma k = nI (L k) ∧ xoutDot k = nI (D k) ∧ youtSize k = nI (D k - V k) ∧ V k ≤ D k ∧ (xoutRegion k = 1 → 256 ≤ V k ∧ D k ≤ 256 + R1) ∧ (xoutRegion k = 0 → D k ≤ R0) ∧ (xoutLoaded k = 1 → L k + (D k - V k) ≤ R0)) (hq : lk_hq ni nr xrelocOwner xrelocTarget) (hv : ∀ s, s < ni → xinLive s = 1 → ∃ q, q < 32 ∧ xinStmt s = nI q ∧ yinVma s = nI (IV s) ∧ IV s < 2 ^ 30) (hb : ∀ s, s < ni → ∃ T Z, xinFirstByte s = nI T ∧ yinLen s = nI Z ∧ T + Z ≤ 256) (hg4 : g < 4) (hx : x < 2 ^ 30) (h : post (lk_fv (fun k => decide (xoutGroup k = nI g ∧ youtRes k = 1 ∧ V k ≤ x ∧ x < D k)) (fun k => lk_ib ni nr ystOut xinKind xinStmt xinLive yinLen xinFirstByte xfedBytes xrelocOwner xrelocOffset xrelocType xrelocTarget xrelocAddend yinVma yinLma (nI k) (nI x)) no 0)) : ∃ n, wY_runByte_175 post (nI x) (nI g) (nI R0) (nI R1) xphase (nI ns) (nI no) (nI ng) (nI ni) (nI nb) (nI nr) xopenOut yinGroup (nI ni - 1) yfinalC0 yfinalC1 xstmtOp xstmtA xstmtB ystOut xoutRegion xoutLoaded xoutGroup xoutVma xoutLma youtSize xoutAlign youtRes ygStart ygEnd xinKind xinId xinAlign yinBss xinFirstByte yinLen xinStmt xinLive yinVma yinLma xfedBytes xrelocOwner xrelocOffset xrelocType xrelocTarget xrelocAddend yrom yram n 0 := by
  have H : ∀ d k, k + d = no → post (lk_fv (fun k => decide (xoutGroup k = nI g ∧ youtRes k = 1 ∧ V k ≤ x ∧ x < D k)) (fun k => lk_ib ni nr ystOut xinKind xinStmt xinLive yinLen xinFirstByte xfedBytes xrelocOwner xrelocOffset xrelocType xrelocTarget xrelocAddend yinVma yinLma (nI k) (nI x)) d k) → wY_runByte_175 post (nI x) (nI g) (nI R0) (nI R1) xphase (nI ns) (nI no) (nI ng) (nI ni) (nI nb) (nI nr) xopenOut yinGroup (nI ni - 1) yfinalC0 yfinalC1 xstmtOp xstmtA xstmtB ystOut xoutRegion xoutLoaded xoutGroup xoutVma xoutLma youtSize xoutAlign youtRes ygStart ygEnd xinKind xinId xinAlign yinBss xinFirstByte yinLen xinStmt xinLive yinVma yinLma xfedBytes xrelocOwner xrelocOffset xrelocType xrelocTarget xrelocAddend yrom yram (d + 1) (nI k) := by
    intro d
    induction d with
    | zero => intro k hkd h; exact br_t (nI_le (by omega) (by omega)) h
    | succ d ih =>
      intro k hkd h
      obtain ⟨t1, t2, t3, t4, t5, t6, t7, t8⟩ := hk k (by omega)
      have e : (nI k).toNatClampNeg = k := nI_clamp (by omega)
      have v8 : vp_in (nI k) 8 := vp_in_nI (by omega) (by omega)
      have n1 : ¬ nI no ≤ nI k := nI_ge (by omega) (by omega)
      have n2 : ¬ (8 : Int32) ≤ nI k := nI_ge (b := 8) (by omega) (by omega)
      have hn : ¬ (xoutGroup k = nI g ∧ youtRes k = 1 ∧ V k ≤ x ∧ x < D k) → wY_runByte_175 post (nI x) (nI g) (nI R0) (nI R1) xphase (nI ns) (nI no) (nI ng) (nI ni) (nI nb) (nI nr) xopenOut yinGroup (nI ni - 1) yfinalC0 yfinalC1 xstmtOp xstmtA xstmtB ystOut xoutRegion xoutLoaded xoutGroup xoutVma xoutLma youtSize xoutAlign youtRes ygStart ygEnd xinKind xinId xinAlign yinBss xinFirstByte yinLen xinStmt xinLive yinVma yinLma xfedBytes xrelocOwner xrelocOffset xrelocType xrelocTarget xrelocAddend yrom yram (d + 1) (nI (k + 1)) := by
        intro z
        rw [lk_fv_f (show ¬ (fun k => decide (xoutGroup k = nI g ∧ youtRes k = 1 ∧ V k ≤ x ∧ x < D k)) k = true from fun y => z (of_decide_eq_true y))] at h
        exact ih (k + 1) (by omega) h
      by_cases a : xoutGroup k = nI g
      · have hD : D k < 2 ^ 29 := by
          by_cases r : xoutRegion k = 1
          · have := t6 r; omega
          · by_cases r0 : xoutRegion k = 0
            · have := t7 r0; omega
            · exact absurd (hrg k (by omega)) (fun y => y.elim r0 r)
        refine br_f n1 (br_f n2 ⟨v8, br_t (by rw [e]; exact a) ⟨v8, ?_⟩⟩)
        by_cases b : youtRes k = 1
        · refine br_t (by rw [e]; exact b) ⟨v8, ?_⟩
          by_cases c : V k ≤ x
          · refine br_f (by rw [e, t1]; exact nI_nlt c (by omega)) ⟨v8, v8, ?_⟩
            have evs : xoutVma (nI k).toNatClampNeg + youtSize (nI k).toNatClampNeg = nI (D k) := by rw [e, t1, t4, nI_add, show V k + (D k - V k) = D k by omega]
            by_cases f : x < D k
            · rw [lk_fv_t (show (fun k => decide (xoutGroup k = nI g ∧ youtRes k = 1 ∧ V k ≤ x ∧ x < D k)) k = true from decide_eq_true ⟨a, b, c, f⟩)] at h
              refine br_f (by rw [evs]; exact nI_ge f (by omega)) ⟨v8, ly_ib hq hv hb (by omega) (X := x) hx ?_ h⟩
              rw [e, t1, pk_sub c, nI_add, show V k + (x - V k) = x by omega]
            · exact br_t (by rw [evs]; exact nI_le (by omega) (by omega)) (nm_r (nI_1 k) (hn (fun y => f y.2.2.2)))
          · exact br_t (by rw [e, t1]; exact nI_lt (by omega) (by omega)) (nm_r (nI_1 k) (hn (fun y => c y.2.2.1)))
        · exact br_f (by rw [e]; exact b) (nm_r (nI_1 k) (hn (fun y => b y.2.1)))
      · exact br_f n1 (br_f n2 ⟨v8, br_f (by rw [e]; exact a) (nm_r (nI_1 k) (hn (fun y => a y.1)))⟩)
  exact ⟨_, H no 0 (by omega) h⟩
theorem lk_rg {ns no ng ni nb nr R0 R1 : Nat} {xphase xopenOut xopenGroup yinGroup yfinalC0 yfinalC1 : Int32} {xregionSize xcounter xmemory xstmtOp xstmtA xstmtB xstmtOwner xoutRegion xoutLoaded xoutGroup xoutAlign xoutVma xoutLma xoutDot xgroupStart xgroupEnd xgroupResident xinKind xinId xinAlign xinSize xinFirstByte xinStmt xinLive xinVma xfedBytes xrelocOwner xrelocOffset xrelocType xrelocTarget xrelocAddend ystOut youtSize youtRes ygStart ygEnd yinBss yinLen yinVma yinLma yrom yram : Nat → Int32} {V L D IV : Nat → Nat} {x : Nat} (h8 : no ≤ 8) (h4 : ng ≤ 4) (hR : R0 ≤ 128 ∧ R1 ≤ 128) (hg : ∀ k, k < no → xoutGroup k = -1 ∨ ∃ g, g < ng ∧ xoutGroup k = nI g) (hrg : ∀ k, k < no → xoutRegion k = 0 ∨ xoutRegion k = 1) (hk : ∀ k, k < no → xoutVma k = nI (V k) ∧ xoutLma k = nI (L k) ∧ xoutDot k = nI (D k) ∧ youtSize k = nI (D k - V k) ∧ V k ≤ D k ∧ (xoutRegion k = 1 → 256 ≤ V k ∧ D k ≤ 256 + R1) ∧ (xoutRegion k = 0 → D k ≤ R0) ∧ (xoutLoaded k = 1 → L k + (D k - V k) ≤ R0)) (hgr : ∀ g, g < ng → ∃ a b, xgroupStart g = nI a ∧ ygStart g = nI a ∧ xgroupEnd g = nI b ∧ ygEnd g = nI b ∧ 256 ≤ a ∧ a ≤ b ∧ b < 2 ^ 30 ∧ (b = a ∨ b ≤ 256 + R1)) (hq : lk_hq ni nr xrelocOwner xrelocTarget) (hv : ∀ s, s < ni → xinLive s = 1 → ∃ q, q < 32 ∧ xinStmt s = nI q ∧ yinVma s = nI (IV s) ∧ IV s < 2 ^ 30) (hb : ∀ s, s < ni → ∃ T Z, xinFirstByte s = nI T ∧ yinLen s = nI Z ∧ T + Z ≤ 256) (him : ∀ k off, k < no → off < D k - V k → (xoutLoaded k = 1 → xmemory (L k + off) = lk_ib ni nr ystOut xinKind xinStmt xinLive yinLen xinFirstByte xfedBytes xrelocOwner xrelocOffset xrelocType xrelocTarget xrelocAddend yinVma yinLma (nI k) (nI (V k + off))) ∧ (¬ xoutLoaded k = 1 → lk_ib ni nr ystOut xinKind xinStmt xinLive yinLen xinFirstByte xfedBytes xrelocOwner xrelocOffset xrelocType xrelocTarget xrelocAddend yinVma yinLma (nI k) (nI (V k + off)) = 0)) (hx : x < 2 ^ 30) (hgm : ∀ g, g < ng → xgroupResident g = -1 ∨ ∃ k, k < no ∧ xgroupResident g = nI k ∧ xoutGroup k = nI g) (hrs : ∀ k, k < no → youtRes k = if ¬ xoutGroup k = -1 ∧ xgroupResident (xoutGroup k).toNatClampNeg = nI k then 1 else 0) : ∀ d g, g + d = ng → ∃ r : Int32, (∀ post : Int32 → Prop, post r → wX_runRamByte_54 post (nI x) xphase (nI ns) xopenOut xopenGroup (nI no) (nI ng) (nI ni) (nI nb) (nI nr) xregionSize xcounter xmemory xstmtOp xstmtA xstmtB xstmtOwner xoutRegion xoutLoaded xoutGroup xoutAlign xoutVma xoutLma xoutDot xgroupStart xgroupEnd xgroupResident xinKind xinId xinAlign xinSize xinFirstByte xinStmt xinLive xinVma xfedBytes xrelocOwner xrelocOffset xrelocType xrelocTarget xrelocAddend (d + 1) (nI g)) ∧ (∀ post : Int32 → Prop, post r → wY_runByte_137 post (nI x) (nI R0) (nI R1) xphase (nI ns) (nI no) (nI ng) (nI ni) (nI nb) (nI nr) xopenOut yinGroup (nI ni - 1) yfinalC0 yfinalC1 xstmtOp xstmtA xstmtB ystOut xoutRegion xoutLoaded xoutGroup xoutVma xoutLma youtSize xoutAlign youtRes ygStart ygEnd xinKind xinId xinAlign yinBss xinFirstByte yinLen xinStmt xinLive yinVma yinLma xfedBytes xrelocOwner xrelocOffset xrelocType xrelocTarget xrelocAddend yrom yram (d + 1) (nI g)) := by
  have hD : ∀ k, k < no → V k ≤ D k ∧ D k < 2 ^ 29 := by
    intro k hkn
    obtain ⟨t1, t2, t3, t4, t5, t6, t7, t8⟩ := hk k hkn
    refine ⟨t5, ?_⟩
    rcases hrg k hkn with r | r
    · have := t7 r; omega
    · have := t6 r; omega
  intro d
  induction d with
  | zero =>
    intro g hgd
    exact ⟨255, fun post hp => br_t (nI_le (by omega) (by omega)) hp, fun post hp => br_t (nI_le (by omega) (by omega)) hp⟩
  | succ d ih =>
    intro g hgd
    obtain ⟨a, b, s1, s2, s3, s4, s5, s6, s7, s8⟩ := hgr g (by omega)
    have e : (nI g).toNatClampNeg = g := nI_clamp (by omega)
    have v4 : vp_in (nI g) 4 := vp_in_nI (by omega) (by omega)
    have n1 : ¬ nI ng ≤ nI g := nI_ge (by omega) (by omega)
    have n2 : ¬ (4 : Int32) ≤ nI g := nI_ge (b := 4) (by omega) (by omega)
    obtain ⟨r, j1, j2⟩ := ih (g + 1) (by omega)
    by_cases c1 : a ≤ x
    · have xa : ¬ nI x < xgroupStart (nI g).toNatClampNeg := by rw [e, s1]; exact nI_nlt c1 (by omega)
      have ya : ¬ nI x < ygStart (nI g).toNatClampNeg := by rw [e, s2]; exact nI_nlt c1 (by omega)
      by_cases c2 : x < b
      · have xb : ¬ xgroupEnd (nI g).toNatClampNeg ≤ nI x := by rw [e, s3]; exact nI_ge c2 (by omega)
        have yb : nI x < ygEnd (nI g).toNatClampNeg := by rw [e, s4]; exact nI_lt c2 (by omega)
        rcases hgm g (by omega) with z | ⟨k0, hk0, z, zg⟩
        · refine ⟨0, fun post hp => br_f n1 ⟨v4, br_f xa ⟨v4, br_f xb ⟨v4, nm_r (e' := -1) (by rw [e, z]) (br_t rfl hp)⟩⟩⟩, fun post hp => br_f n1 (br_f n2 ⟨v4, br_f ya ⟨v4, br_t yb (ly_175 h8 h4 hR hg hrg hk hq hv hb (by omega) hx ?_)⟩⟩)⟩
          rw [lk_fv_n (fun i hi y => ?_)]
          · exact hp
          · obtain ⟨y1, y2, _⟩ := of_decide_eq_true y
            rw [hrs i hi, y1, e, z, if_neg (fun w => lk_nn1 (show i < 2 ^ 31 by omega) w.2.symm)] at y2
            exact absurd y2 (by decide)
        · obtain ⟨t1, t2, t3, t4, t5, t6, t7, t8⟩ := hk k0 hk0
          obtain ⟨_, hDk⟩ := hD k0 hk0
          have uniq : ∀ i, i < no → (fun k => decide (xoutGroup k = nI g ∧ youtRes k = 1 ∧ V k ≤ x ∧ x < D k)) i = true → i = k0 := by
            intro i hi y
            obtain ⟨y1, y2, _⟩ := of_decide_eq_true y
            by_cases w : nI k0 = nI i
            · exact ((nI_eq (by omega) (by omega)).mp w).symm
            · rw [hrs i hi, y1, e, z, if_neg (fun q => w q.2)] at y2
              exact absurd y2 (by decide)
          have res1 : youtRes k0 = 1 := by
            rw [hrs k0 hk0, zg, e, z, if_pos ⟨lk_nn1 (by omega), rfl⟩]
          have fv := lk_fv_1 (w := fun k => lk_ib ni nr ystOut xinKind xinStmt xinLive yinLen xinFirstByte xfedBytes xrelocOwner xrelocOffset xrelocType xrelocTarget xrelocAddend yinVma yinLma (nI k) (nI x)) hk0 uniq
          by_cases c3 : V k0 ≤ x ∧ x < D k0
          · have pk0 : (fun k => decide (xoutGroup k = nI g ∧ youtRes k = 1 ∧ V k ≤ x ∧ x < D k)) k0 = true := decide_eq_true ⟨zg, res1, c3.1, c3.2⟩
            rw [if_pos pk0, lk_ans (V := V) (L := L) (D := D) him hk0 c3.1 c3.2] at fv
            refine ⟨_, fun post hp => br_f n1 ⟨v4, br_f xa ⟨v4, br_f xb ⟨v4, nm_r (e' := nI k0) (by rw [e, z]) (br_f (lk_nn1 (by omega)) (lx_cov (by omega) hx (by omega) (by omega) t1 t3 (fun _ _ => br_f (by decide) (lx_ib (by omega) t1 t2 c3.1 (fun q => by have := t8 q; omega) hp)) (fun q => absurd c3 q)))⟩⟩⟩, fun post hp => br_f n1 (br_f n2 ⟨v4, br_f ya ⟨v4, br_t yb (ly_175 h8 h4 hR hg hrg hk hq hv hb (by omega) hx (by rw [fv]; exact hp))⟩⟩)⟩
          · have npk0 : ¬ (fun k => decide (xoutGroup k = nI g ∧ youtRes k = 1 ∧ V k ≤ x ∧ x < D k)) k0 = true := fun y => c3 (of_decide_eq_true y).2.2
            rw [if_neg npk0] at fv
            exact ⟨0, fun post hp => br_f n1 ⟨v4, br_f xa ⟨v4, br_f xb ⟨v4, nm_r (e' := nI k0) (by rw [e, z]) (br_f (lk_nn1 (by omega)) (lx_cov (by omega) hx (by omega) (by omega) t1 t3 (fun q1 q2 => absurd ⟨q1, q2⟩ c3) (fun _ => br_t rfl hp)))⟩⟩⟩, fun post hp => br_f n1 (br_f n2 ⟨v4, br_f ya ⟨v4, br_t yb (ly_175 h8 h4 hR hg hrg hk hq hv hb (by omega) hx (by rw [fv]; exact hp))⟩⟩)⟩
      · have xb : xgroupEnd (nI g).toNatClampNeg ≤ nI x := by rw [e, s3]; exact nI_le (by omega) (by omega)
        have yb : ¬ nI x < ygEnd (nI g).toNatClampNeg := by rw [e, s4]; exact nI_nlt (by omega) (by omega)
        exact ⟨r, fun post hp => br_f n1 ⟨v4, br_f xa ⟨v4, br_t xb (nm_r (nI_1 g) (j1 post hp))⟩⟩, fun post hp => br_f n1 (br_f n2 ⟨v4, br_f ya ⟨v4, br_f yb (nm_r (nI_1 g) (j2 post hp))⟩⟩)⟩
    · have xa : nI x < xgroupStart (nI g).toNatClampNeg := by rw [e, s1]; exact nI_lt (by omega) (by omega)
      have ya : nI x < ygStart (nI g).toNatClampNeg := by rw [e, s2]; exact nI_lt (by omega) (by omega)
      exact ⟨r, fun post hp => br_f n1 ⟨v4, br_t xa (nm_r (nI_1 g) (j1 post hp))⟩, fun post hp => br_f n1 (br_f n2 ⟨v4, br_t ya (nm_r (nI_1 g) (j2 post hp))⟩)⟩
theorem lk_ro {ns no ng ni nb nr R0 R1 : Nat} {xphase xopenOut xopenGroup yinGroup yfinalC0 yfinalC1 : Int32} {xregionSize xcounter xmemory xstmtOp xstmtA xstmtB xstmtOwner xoutRegion xoutLoaded xoutGroup xoutAlign xoutVma xoutLma xoutDot xgroupStart xgroupEnd xgroupResident xinKind xinId xinAlign xinSize xinFirstByte xinStmt xinLive xinVma xfedBytes xrelocOwner xrelocOffset xrelocType xrelocTarget xrelocAddend ystOut youtSize youtRes ygStart ygEnd yinBss yinLen yinVma yinLma yrom yram : Nat → Int32} {V L D IV : Nat → Nat} {x : Nat} (h8 : no ≤ 8) (h4 : ng ≤ 4) (hR : R0 ≤ 128 ∧ R1 ≤ 128) (hg : ∀ k, k < no → xoutGroup k = -1 ∨ ∃ g, g < ng ∧ xoutGroup k = nI g) (hrg : ∀ k, k < no → xoutRegion k = 0 ∨ xoutRegion k = 1) (hk : ∀ k, k < no → xoutVma k = nI (V k) ∧ xoutLma k = nI (L k) ∧ xoutDot k = nI (D k) ∧ youtSize k = nI (D k - V k) ∧ V k ≤ D k ∧ (xoutRegion k = 1 → 256 ≤ V k ∧ D k ≤ 256 + R1) ∧ (xoutRegion k = 0 → D k ≤ R0) ∧ (xoutLoaded k = 1 → L k + (D k - V k) ≤ R0)) (hgr : ∀ g, g < ng → ∃ a b, xgroupStart g = nI a ∧ ygStart g = nI a ∧ xgroupEnd g = nI b ∧ ygEnd g = nI b ∧ 256 ≤ a ∧ a ≤ b ∧ b < 2 ^ 30 ∧ (b = a ∨ b ≤ 256 + R1)) (hq : lk_hq ni nr xrelocOwner xrelocTarget) (hv : ∀ s, s < ni → xinLive s = 1 → ∃ q, q < 32 ∧ xinStmt s = nI q ∧ yinVma s = nI (IV s) ∧ IV s < 2 ^ 30) (hb : ∀ s, s < ni → ∃ T Z, xinFirstByte s = nI T ∧ yinLen s = nI Z ∧ T + Z ≤ 256) (him : ∀ k off, k < no → off < D k - V k → (xoutLoaded k = 1 → xmemory (L k + off) = lk_ib ni nr ystOut xinKind xinStmt xinLive yinLen xinFirstByte xfedBytes xrelocOwner xrelocOffset xrelocType xrelocTarget xrelocAddend yinVma yinLma (nI k) (nI (V k + off))) ∧ (¬ xoutLoaded k = 1 → lk_ib ni nr ystOut xinKind xinStmt xinLive yinLen xinFirstByte xfedBytes xrelocOwner xrelocOffset xrelocType xrelocTarget xrelocAddend yinVma yinLma (nI k) (nI (V k + off)) = 0)) (hx : x < 2 ^ 30) (hgm : ∀ g, g < ng → xgroupResident g = -1 ∨ ∃ k, k < no ∧ xgroupResident g = nI k ∧ xoutGroup k = nI g) (hrs : ∀ k, k < no → youtRes k = if ¬ xoutGroup k = -1 ∧ xgroupResident (xoutGroup k).toNatClampNeg = nI k then 1 else 0) : ∀ d k, k + d = no → ∃ r : Int32, (∀ post : Int32 → Prop, post r → wX_runRamByte_2 post (nI x) xphase (nI ns) xopenOut xopenGroup (nI no) (nI ng) (nI ni) (nI nb) (nI nr) xregionSize xcounter xmemory xstmtOp xstmtA xstmtB xstmtOwner xoutRegion xoutLoaded xoutGroup xoutAlign xoutVma xoutLma xoutDot xgroupStart xgroupEnd xgroupResident xinKind xinId xinAlign xinSize xinFirstByte xinStmt xinLive xinVma xfedBytes xrelocOwner xrelocOffset xrelocType xrelocTarget xrelocAddend (d + 1) (nI k)) ∧ (∀ post : Int32 → Prop, post r → wY_runByte_55 post (nI x) (nI R0) (nI R1) xphase (nI ns) (nI no) (nI ng) (nI ni) (nI nb) (nI nr) xopenOut yinGroup (nI ni - 1) yfinalC0 yfinalC1 xstmtOp xstmtA xstmtB ystOut xoutRegion xoutLoaded xoutGroup xoutVma xoutLma youtSize xoutAlign youtRes ygStart ygEnd xinKind xinId xinAlign yinBss xinFirstByte yinLen xinStmt xinLive yinVma yinLma xfedBytes xrelocOwner xrelocOffset xrelocType xrelocTarget xrelocAddend yrom yram (d + 1) (nI k)) := by
  intro d
  induction d with
  | zero =>
    intro k hkd
    obtain ⟨r, j1, j2⟩ := lk_rg (ns := ns) (no := no) (ng := ng) (ni := ni) (nb := nb) (nr := nr) (R0 := R0) (R1 := R1) (xphase := xphase) (xopenOut := xopenOut) (xopenGroup := xopenGroup) (yinGroup := yinGroup) (yfinalC0 := yfinalC0) (yfinalC1 := yfinalC1) (xregionSize := xregionSize) (xcounter := xcounter) (xmemory := xmemory) (xstmtOp := xstmtOp) (xstmtA := xstmtA) (xstmtB := xstmtB) (xstmtOwner := xstmtOwner) (xoutRegion := xoutRegion) (xoutLoaded := xoutLoaded) (xoutGroup := xoutGroup) (xoutAlign := xoutAlign) (xoutVma := xoutVma) (xoutLma := xoutLma) (xoutDot := xoutDot) (xgroupStart := xgroupStart) (xgroupEnd := xgroupEnd) (xgroupResident := xgroupResident) (xinKind := xinKind) (xinId := xinId) (xinAlign := xinAlign) (xinSize := xinSize) (xinFirstByte := xinFirstByte) (xinStmt := xinStmt) (xinLive := xinLive) (xinVma := xinVma) (xfedBytes := xfedBytes) (xrelocOwner := xrelocOwner) (xrelocOffset := xrelocOffset) (xrelocType := xrelocType) (xrelocTarget := xrelocTarget) (xrelocAddend := xrelocAddend) (ystOut := ystOut) (youtSize := youtSize) (youtRes := youtRes) (ygStart := ygStart) (ygEnd := ygEnd) (yinBss := yinBss) (yinLen := yinLen) (yinVma := yinVma) (yinLma := yinLma) (yrom := yrom) (yram := yram) (V := V) (L := L) (D := D) (IV := IV) (x := x) h8 h4 hR hg hrg hk hgr hq hv hb him hx hgm hrs ng 0 (by omega)
    exact ⟨r, fun post hp => br_t (nI_le (by omega) (by omega)) ⟨_, j1 post hp⟩, fun post hp => br_t (nI_le (by omega) (by omega)) ⟨_, j2 post hp⟩⟩
  | succ d ih =>
    intro k hkd
    obtain ⟨t1, t2, t3, t4, t5, t6, t7, t8⟩ := hk k (by omega)
    have e : (nI k).toNatClampNeg = k := nI_clamp (by omega)
    have v8 : vp_in (nI k) 8 := vp_in_nI (by omega) (by omega)
    have n1 : ¬ nI no ≤ nI k := nI_ge (by omega) (by omega)
    have n2 : ¬ (8 : Int32) ≤ nI k := nI_ge (b := 8) (by omega) (by omega)
    obtain ⟨r, j1, j2⟩ := ih (k + 1) (by omega)
    by_cases rr : xoutRegion k = 1
    · obtain ⟨t9, t10⟩ := t6 rr
      have r' : xoutRegion (nI k).toNatClampNeg = 1 := by rw [e]; exact rr
      have evs : xoutVma (nI k).toNatClampNeg + youtSize (nI k).toNatClampNeg = nI (D k) := by rw [e, t1, t4, nI_add, show V k + (D k - V k) = D k by omega]
      rcases hg k (by omega) with z | ⟨g, hgn, z⟩
      · have z' : xoutGroup (nI k).toNatClampNeg = -1 := by rw [e]; exact z
        have nl : ¬ 0 ≤ xoutGroup (nI k).toNatClampNeg := by rw [z']; decide
        by_cases c : V k ≤ x
        · by_cases f : x < D k
          · refine ⟨lk_ib ni nr ystOut xinKind xinStmt xinLive yinLen xinFirstByte xfedBytes xrelocOwner xrelocOffset xrelocType xrelocTarget xrelocAddend yinVma yinLma (nI k) (nI x), fun post hp => br_f n1 ⟨v8, br_t r' ⟨v8, br_t z' (lx_cov (by omega) hx (by omega) (by omega) t1 t3 (fun _ _ => br_f (by decide) (lx_ib (by omega) t1 t2 c (fun q => by have := t8 q; omega) ?_)) (fun q => absurd ⟨c, f⟩ q))⟩⟩, fun post hp => br_f n1 (br_f n2 ⟨v8, br_t r' ⟨v8, br_f nl ⟨v8, br_f (by rw [e, t1]; exact nI_nlt c (by omega)) ⟨v8, v8, br_f (by rw [evs]; exact nI_ge f (by omega)) ⟨v8, ly_ib hq hv hb (by omega) (X := x) hx ?_ hp⟩⟩⟩⟩⟩)⟩
            · rw [← lk_ans (V := V) (L := L) (D := D) him (by omega) c f]
              exact hp
            · rw [e, t1, pk_sub c, nI_add, show V k + (x - V k) = x by omega]
          · exact ⟨r, fun post hp => br_f n1 ⟨v8, br_t r' ⟨v8, br_t z' (lx_cov (by omega) hx (by omega) (by omega) t1 t3 (fun _ q => absurd q f) (fun _ => br_t rfl (nm_r (nI_1 k) (j1 post hp))))⟩⟩, fun post hp => br_f n1 (br_f n2 ⟨v8, br_t r' ⟨v8, br_f nl ⟨v8, br_f (by rw [e, t1]; exact nI_nlt c (by omega)) ⟨v8, v8, br_t (by rw [evs]; exact nI_le (by omega) (by omega)) (nm_r (nI_1 k) (j2 post hp))⟩⟩⟩⟩)⟩
        · exact ⟨r, fun post hp => br_f n1 ⟨v8, br_t r' ⟨v8, br_t z' (lx_cov (by omega) hx (by omega) (by omega) t1 t3 (fun q _ => absurd q c) (fun _ => br_t rfl (nm_r (nI_1 k) (j1 post hp))))⟩⟩, fun post hp => br_f n1 (br_f n2 ⟨v8, br_t r' ⟨v8, br_f nl ⟨v8, br_t (by rw [e, t1]; exact nI_lt (by omega) (by omega)) (nm_r (nI_1 k) (j2 post hp))⟩⟩⟩)⟩
      · have z' : xoutGroup (nI k).toNatClampNeg = nI g := by rw [e]; exact z
        have nz : ¬ xoutGroup (nI k).toNatClampNeg = -1 := by rw [z']; exact lk_nn1 (by omega)
        have nl : 0 ≤ xoutGroup (nI k).toNatClampNeg := by rw [z']; exact nI_pos' (by omega)
        exact ⟨r, fun post hp => br_f n1 ⟨v8, br_t r' ⟨v8, br_f nz (nm_r (nI_1 k) (j1 post hp))⟩⟩, fun post hp => br_f n1 (br_f n2 ⟨v8, br_t r' ⟨v8, br_t nl (nm_r (nI_1 k) (j2 post hp))⟩⟩)⟩
    · have r' : ¬ xoutRegion (nI k).toNatClampNeg = 1 := by rw [e]; exact rr
      exact ⟨r, fun post hp => br_f n1 ⟨v8, br_f r' (nm_r (nI_1 k) (j1 post hp))⟩, fun post hp => br_f n1 (br_f n2 ⟨v8, br_f r' (nm_r (nI_1 k) (j2 post hp))⟩)⟩
theorem lk_run {Q : Prop} (q : Q) {ns no ng ni nb nr R0 R1 : Nat} {xphase xopenOut xopenGroup yinGroup yfinalC0 yfinalC1 : Int32} {xregionSize xcounter xmemory xstmtOp xstmtA xstmtB xstmtOwner xoutRegion xoutLoaded xoutGroup xoutAlign xoutVma xoutLma xoutDot xgroupStart xgroupEnd xgroupResident xinKind xinId xinAlign xinSize xinFirstByte xinStmt xinLive xinVma xfedBytes xrelocOwner xrelocOffset xrelocType xrelocTarget xrelocAddend ystOut youtSize youtRes ygStart ygEnd yinBss yinLen yinVma yinLma yrom yram : Nat → Int32} {v1 : Int32} (h : xphase = 0 ∨ (¬ xphase = 0 ∧ ((v1 < 0 ∧ v1 < 256) ∨ (¬ v1 < 0 ∧ ¬ 0 + xregionSize (0 : Int32).toNatClampNeg ≤ v1 ∧ ¬ 0 + nI R0 ≤ v1 ∧ vp_in v1 384 ∧ vp_in (v1 - 0) 128 ∧ yrom (v1 - 0).toNatClampNeg = xmemory v1.toNatClampNeg) ∨ (¬ v1 < 0 ∧ 0 + xregionSize (0 : Int32).toNatClampNeg ≤ v1 ∧ 0 + nI R0 ≤ v1 ∧ (v1 < 256 ∨ (¬ v1 < 256 ∧ 256 + xregionSize (1 : Int32).toNatClampNeg ≤ v1 ∧ ¬ v1 < 256 + nI R1) ∨ (¬ v1 < 256 ∧ ¬ 256 + xregionSize (1 : Int32).toNatClampNeg ≤ v1 ∧ v1 < 256 + nI R1 ∧ ∃ r : Int32, (∀ post : Int32 → Prop, post r → wpX_runRamByte post (xphase, (nI ns), xopenOut, xopenGroup, (nI no), (nI ng), (nI ni), (nI nb), (nI nr), xregionSize, xcounter, xmemory, xstmtOp, xstmtA, xstmtB, xstmtOwner, xoutRegion, xoutLoaded, xoutGroup, xoutAlign, xoutVma, xoutLma, xoutDot, xgroupStart, xgroupEnd, xgroupResident, xinKind, xinId, xinAlign, xinSize, xinFirstByte, xinStmt, xinLive, xinVma, xfedBytes, xrelocOwner, xrelocOffset, xrelocType, xrelocTarget, xrelocAddend) v1) ∧ (∀ post : Int32 → Prop, post r → ∃ n, wY_runByte_55 post v1 (nI R0) (nI R1) xphase (nI ns) (nI no) (nI ng) (nI ni) (nI nb) (nI nr) xopenOut yinGroup (nI ni - 1) yfinalC0 yfinalC1 xstmtOp xstmtA xstmtB ystOut xoutRegion xoutLoaded xoutGroup xoutVma xoutLma youtSize xoutAlign youtRes ygStart ygEnd xinKind xinId xinAlign yinBss xinFirstByte yinLen xinStmt xinLive yinVma yinLma xfedBytes xrelocOwner xrelocOffset xrelocType xrelocTarget xrelocAddend yrom yram n 0))))))) : wpX_runByte (fun r => wpY_runByte (fun r' => r' = r ∧ Q) ((nI R0), (nI R1), xphase, (nI ns), (nI no), (nI ng), (nI ni), (nI nb), (nI nr), xopenOut, yinGroup, (nI ni - 1), yfinalC0, yfinalC1, xstmtOp, xstmtA, xstmtB, ystOut, xoutRegion, xoutLoaded, xoutGroup, xoutVma, xoutLma, youtSize, xoutAlign, youtRes, ygStart, ygEnd, xinKind, xinId, xinAlign, yinBss, xinFirstByte, yinLen, xinStmt, xinLive, yinVma, yinLma, xfedBytes, xrelocOwner, xrelocOffset, xrelocType, xrelocTarget, xrelocAddend, yrom, yram) v1) (xphase, (nI ns), xopenOut, xopenGroup, (nI no), (nI ng), (nI ni), (nI nb), (nI nr), xregionSize, xcounter, xmemory, xstmtOp, xstmtA, xstmtB, xstmtOwner, xoutRegion, xoutLoaded, xoutGroup, xoutAlign, xoutVma, xoutLma, xoutDot, xgroupStart, xgroupEnd, xgroupResident, xinKind, xinId, xinAlign, xinSize, xinFirstByte, xinStmt, xinLive, xinVma, xfedBytes, xrelocOwner, xrelocOffset, xrelocType, xrelocTarget, xrelocAddend) v1 := by
  have v02 : vp_in (0 : Int32) 2 := vp_in_iff.mpr (by decide)
  have v12 : vp_in (1 : Int32) 2 := vp_in_iff.mpr (by decide)
  rcases h with a0 | ⟨a0, ⟨a1, a2⟩ | ⟨a1, a2, a3, a4, a5, a6⟩ | ⟨a1, a2, a3, a4 | ⟨a4, a5, a6⟩ | ⟨a4, a5, a6, r, hX, hY⟩⟩⟩
  · repeat (first | refine br_t (by assumption) ?_ | refine br_f (by assumption) ?_ | refine br_t (by decide) ?_ | refine br_f (by decide) ?_ | refine nm_e ?_ | refine And.intro (by assumption) ?_)
    first | exact q | exact ⟨rfl, q⟩
  · repeat (first | refine br_t (by assumption) ?_ | refine br_f (by assumption) ?_ | refine br_t (by decide) ?_ | refine br_f (by decide) ?_ | refine nm_e ?_ | refine And.intro (by assumption) ?_)
    first | exact q | exact ⟨rfl, q⟩
  · repeat (first | refine br_t (by assumption) ?_ | refine br_f (by assumption) ?_ | refine br_t (by decide) ?_ | refine br_f (by decide) ?_ | refine nm_e ?_ | refine And.intro (by assumption) ?_)
    first | exact q | exact ⟨a6, q⟩
  · repeat (first | refine br_t (by assumption) ?_ | refine br_f (by assumption) ?_ | refine br_t (by decide) ?_ | refine br_f (by decide) ?_ | refine nm_e ?_ | refine And.intro (by assumption) ?_)
    first | exact q | exact ⟨rfl, q⟩
  · repeat (first | refine br_t (by assumption) ?_ | refine br_f (by assumption) ?_ | refine br_t (by decide) ?_ | refine br_f (by decide) ?_ | refine nm_e ?_ | refine And.intro (by assumption) ?_)
    first | exact q | exact ⟨rfl, q⟩
  · repeat (first | refine br_t (by assumption) ?_ | refine br_f (by assumption) ?_ | refine br_t (by decide) ?_ | refine br_f (by decide) ?_ | refine nm_e ?_ | refine And.intro (by assumption) ?_)
    refine hX _ ?_
    repeat (first | refine br_t (by assumption) ?_ | refine br_f (by assumption) ?_ | refine br_t (by decide) ?_ | refine br_f (by decide) ?_ | refine nm_e ?_ | refine And.intro (by assumption) ?_)
    exact hY _ ⟨rfl, q⟩
theorem i_vc_runByte {k : Nat} {u : SX} {v : SY} (I : i_Rel k u v) (hk : k + 5 ≤ 2562) (v1 : Int32) : wpX_runByte (fun r => wpY_runByte (fun r' => r' = r ∧ i_Rel (k + 5) u v) v v1) u v1 := by
  have J := i_up I
  obtain ⟨ns, no, ng, ni, nb, nr, R0, R1, xphase, xopenOut, xopenGroup, yinGroup, yfinalC0, yfinalC1, xregionSize, xcounter, xmemory, xstmtOp, xstmtA, xstmtB, xstmtOwner, xoutRegion, xoutLoaded, xoutGroup, xoutAlign, xoutVma, xoutLma, xoutDot, xgroupStart, xgroupEnd, xgroupResident, xinKind, xinId, xinAlign, xinSize, xinFirstByte, xinStmt, xinLive, xinVma, xfedBytes, xrelocOwner, xrelocOffset, xrelocType, xrelocTarget, xrelocAddend, ystOut, youtSize, youtRes, ygStart, ygEnd, yinBss, yinLen, yinVma, yinLma, yrom, yram, rfl, rfl, hS, hN, hQ, hZ, hM, hP⟩ := I
  have hof := lk_S_of hS
  obtain ⟨c1, c2, c3, _⟩ := id hS
  obtain ⟨z0, z1, z2, z3, z4, z5⟩ := id hZ
  refine lk_run J ?_
  rcases hP with ⟨h, _⟩ | ⟨hp, hL⟩
  · exact Or.inl h
  have np : ¬ xphase = 0 := by
    rcases hp with h | h <;> rw [h] <;> decide
  refine Or.inr ⟨np, ?_⟩
  rw [lk_e0, lk_e1, z0, z1, Int32.zero_add, Int32.sub_zero, lk_256]
  rcases pk_ix v1 (n := R0) (by omega) with h | h | ⟨s, hs, rfl⟩
  · exact Or.inl ⟨h, Int32.lt_trans h (by decide)⟩
  · have n0 : ¬ v1 < 0 := Int32.not_lt.mpr (Int32.le_trans (nI_pos' (by omega)) h)
    refine Or.inr (Or.inr ⟨n0, h, h, ?_⟩)
    rcases lk_ix2 v1 (a := 256) (n := R1) (by omega) (by omega) with h2 | h2 | ⟨s, hs, rfl⟩
    · exact Or.inl h2
    · exact Or.inr (Or.inl ⟨Int32.not_lt.mpr (Int32.le_trans (nI_le (a := 256) (b := 256 + R1) (by omega) (by omega)) h2), h2, Int32.not_lt.mpr h2⟩)
    · refine Or.inr (Or.inr ⟨nI_nlt (b := 256) (by omega) (by omega), nI_ge (by omega) (by omega), nI_lt (by omega) (by omega), ?_⟩)
      obtain ⟨V, L, D, IV, h1, h2, h3, h4, h5, h6, h7, h9⟩ := id hL
      have hg : ∀ k, k < no → xoutGroup k = -1 ∨ ∃ g, g < ng ∧ xoutGroup k = nI g := fun k hkn => by
        rcases hof k hkn with ⟨_, _, z⟩ | ⟨_, _, z⟩
        · exact Or.inl z
        · exact z
      have hrg : ∀ k, k < no → xoutRegion k = 0 ∨ xoutRegion k = 1 := fun k hkn => by
        rcases hof k hkn with ⟨z, _⟩ | ⟨z, _⟩
        · exact Or.inl z
        · exact Or.inr z
      have hq : lk_hq ni nr xrelocOwner xrelocTarget := ⟨hN.1, hQ.1, fun r hr => by
        obtain ⟨o, f, t, Z, a1, a2, _, _, _, _, _, a8, a9⟩ := hQ.2 r hr
        exact ⟨o, t, a1, a2, a8, a9⟩⟩
      have hv : ∀ s, s < ni → xinLive s = 1 → ∃ q, q < 32 ∧ xinStmt s = nI q ∧ yinVma s = nI (IV s) ∧ IV s < 2 ^ 30 := fun s hs hlv => by
        obtain ⟨q, o, hq2, eq, _, _, _, _, ey, hI, _⟩ := h4 s hs hlv
        exact ⟨q, by omega, eq, ey, hI⟩
      have hb : ∀ s, s < ni → ∃ T Z, xinFirstByte s = nI T ∧ yinLen s = nI Z ∧ T + Z ≤ 256 := fun s hs => by
        obtain ⟨A, T, Z, Q, _, _, a3, a4, a5, _, _⟩ := hN.2.2 s hs
        have := hN.2.1
        exact ⟨T, Z, a3, a4, by omega⟩
      obtain ⟨r, j1, j2⟩ := lk_ro (ns := ns) (no := no) (ng := ng) (ni := ni) (nb := nb) (nr := nr) (R0 := R0) (R1 := R1) (xphase := xphase) (xopenOut := xopenOut) (xopenGroup := xopenGroup) (yinGroup := yinGroup) (yfinalC0 := yfinalC0) (yfinalC1 := yfinalC1) (xregionSize := xregionSize) (xcounter := xcounter) (xmemory := xmemory) (xstmtOp := xstmtOp) (xstmtA := xstmtA) (xstmtB := xstmtB) (xstmtOwner := xstmtOwner) (xoutRegion := xoutRegion) (xoutLoaded := xoutLoaded) (xoutGroup := xoutGroup) (xoutAlign := xoutAlign) (xoutVma := xoutVma) (xoutLma := xoutLma) (xoutDot := xoutDot) (xgroupStart := xgroupStart) (xgroupEnd := xgroupEnd) (xgroupResident := xgroupResident) (xinKind := xinKind) (xinId := xinId) (xinAlign := xinAlign) (xinSize := xinSize) (xinFirstByte := xinFirstByte) (xinStmt := xinStmt) (xinLive := xinLive) (xinVma := xinVma) (xfedBytes := xfedBytes) (xrelocOwner := xrelocOwner) (xrelocOffset := xrelocOffset) (xrelocType := xrelocType) (xrelocTarget := xrelocTarget) (xrelocAddend := xrelocAddend) (ystOut := ystOut) (youtSize := youtSize) (youtRes := youtRes) (ygStart := ygStart) (ygEnd := ygEnd) (yinBss := yinBss) (yinLen := yinLen) (yinVma := yinVma) (yinLma := yinLma) (yrom := yrom) (yram := yram) (V := V) (L := L) (D := D) (IV := IV) (x := 256 + s) c2 c3 ⟨z3, z5⟩ hg hrg h2 h3 hq hv hb h5 (by omega) h6 h7 no 0 (by omega)
      exact ⟨r, fun post hp => ⟨_, j1 post hp⟩, fun post hp => ⟨_, j2 post hp⟩⟩
  · refine Or.inr (Or.inl ⟨nI_pos (by omega), nI_ge hs (by omega), nI_ge hs (by omega), vp_in_nI (by omega) (by omega), vp_in_nI (by omega) (by omega), ?_⟩)
    rw [nI_clamp (show s < 2 ^ 31 by omega)]
    exact (hM.1 s (by omega)).symm
end
