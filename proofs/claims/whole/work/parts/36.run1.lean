
section
/-! AJ: writing RAM on both sides -/
theorem lx_fill3 {post : SX → Prop} {xphase xstmtCount xopenOut xopenGroup xoutCount xgroupCount xinCount xbyteCount xrelocCount : Int32} {xregionSize xcounter xmemory xstmtOp xstmtA xstmtB xstmtOwner xoutRegion xoutLoaded xoutGroup xoutAlign xoutVma xoutLma xoutDot xgroupStart xgroupEnd xgroupResident xinKind xinId xinAlign xinSize xinFirstByte xinStmt xinLive xinVma xfedBytes xrelocOwner xrelocOffset xrelocType xrelocTarget xrelocAddend : Nat → Int32} {s e : Nat} {v z w : Int32} (hz : z = nI s) (hw : w = nI e) (he : e ≤ s ∨ e ≤ 384) (hs : s < 2 ^ 31) (h : post (xphase, xstmtCount, xopenOut, xopenGroup, xoutCount, xgroupCount, xinCount, xbyteCount, xrelocCount, xregionSize, xcounter, (lk_wr xmemory s e (fun _ => v)), xstmtOp, xstmtA, xstmtB, xstmtOwner, xoutRegion, xoutLoaded, xoutGroup, xoutAlign, xoutVma, xoutLma, xoutDot, xgroupStart, xgroupEnd, xgroupResident, xinKind, xinId, xinAlign, xinSize, xinFirstByte, xinStmt, xinLive, xinVma, xfedBytes, xrelocOwner, xrelocOffset, xrelocType, xrelocTarget, xrelocAddend)) : wpX_fill post (xphase, xstmtCount, xopenOut, xopenGroup, xoutCount, xgroupCount, xinCount, xbyteCount, xrelocCount, xregionSize, xcounter, xmemory, xstmtOp, xstmtA, xstmtB, xstmtOwner, xoutRegion, xoutLoaded, xoutGroup, xoutAlign, xoutVma, xoutLma, xoutDot, xgroupStart, xgroupEnd, xgroupResident, xinKind, xinId, xinAlign, xinSize, xinFirstByte, xinStmt, xinLive, xinVma, xfedBytes, xrelocOwner, xrelocOffset, xrelocType, xrelocTarget, xrelocAddend) z w v := by
  rcases he with c | c
  · subst hz
    subst hw
    rw [lk_wr_e c] at h
    exact ⟨1, br_t (nI_le c hs) h⟩
  · exact lx_fill2 hz hw c hs h
theorem lx_ib {post : Int32 → Prop} {ns no ng ni nb nr : Nat} {xphase xopenOut xopenGroup : Int32} {xregionSize xcounter xmemory xstmtOp xstmtA xstmtB xstmtOwner xoutRegion xoutLoaded xoutGroup xoutAlign xoutVma xoutLma xoutDot xgroupStart xgroupEnd xgroupResident xinKind xinId xinAlign xinSize xinFirstByte xinStmt xinLive xinVma xfedBytes xrelocOwner xrelocOffset xrelocType xrelocTarget xrelocAddend : Nat → Int32} {k x l v : Nat} (hk : k < 8) (ev : xoutVma k = nI v) (el : xoutLma k = nI l) (hv : v ≤ x) (hl : xoutLoaded k = 1 → l + (x - v) < 384) (h : post (if xoutLoaded k = 1 then xmemory (l + (x - v)) else 0)) : wpX_imageByte post (xphase, (nI ns), xopenOut, xopenGroup, (nI no), (nI ng), (nI ni), (nI nb), (nI nr), xregionSize, xcounter, xmemory, xstmtOp, xstmtA, xstmtB, xstmtOwner, xoutRegion, xoutLoaded, xoutGroup, xoutAlign, xoutVma, xoutLma, xoutDot, xgroupStart, xgroupEnd, xgroupResident, xinKind, xinId, xinAlign, xinSize, xinFirstByte, xinStmt, xinLive, xinVma, xfedBytes, xrelocOwner, xrelocOffset, xrelocType, xrelocTarget, xrelocAddend) (nI k) (nI x) := by
  have e : (nI k).toNatClampNeg = k := nI_clamp (by omega)
  have v8 : vp_in (nI k) 8 := vp_in_nI hk (by omega)
  refine ⟨v8, ?_⟩
  by_cases a : xoutLoaded k = 1
  · have hb := hl a
    have ex : xoutLma (nI k).toNatClampNeg + nI x - xoutVma (nI k).toNatClampNeg = nI (l + (x - v)) := by rw [e, el, ev, nI_add, pk_sub (by omega), show l + x - v = l + (x - v) by omega]
    rw [if_pos a] at h
    refine br_t (by rw [e]; exact a) ⟨v8, v8, by rw [ex]; exact vp_in_nI hb (by omega), ?_⟩
    rw [ex, nI_clamp (by omega)]
    exact h
  · rw [if_neg a] at h
    exact br_f (by rw [e]; exact a) h
theorem lx_ini {post : SX → Prop} {ns no ng ni nb nr : Nat} {xphase xopenOut xopenGroup : Int32} {xregionSize xcounter xmemory xstmtOp xstmtA xstmtB xstmtOwner xoutRegion xoutLoaded xoutGroup xoutAlign xoutVma xoutLma xoutDot xgroupStart xgroupEnd xgroupResident xinKind xinId xinAlign xinSize xinFirstByte xinStmt xinLive xinVma xfedBytes xrelocOwner xrelocOffset xrelocType xrelocTarget xrelocAddend : Nat → Int32} {k v d l : Nat} (hk : k < 8) (ev : xoutVma k = nI v) (ed : xoutDot k = nI d) (el : xoutLma k = nI l) (hvd : v ≤ d) (h256 : 256 ≤ v) (hd : d ≤ 384) (hl : xoutLoaded k = 1 → l + (d - v) ≤ 128) (h : post (xphase, (nI ns), xopenOut, xopenGroup, (nI no), (nI ng), (nI ni), (nI nb), (nI nr), xregionSize, xcounter, (lk_wr xmemory v d (fun j => if xoutLoaded k = 1 then xmemory (l + (j - v)) else 0)), xstmtOp, xstmtA, xstmtB, xstmtOwner, xoutRegion, xoutLoaded, xoutGroup, xoutAlign, xoutVma, xoutLma, xoutDot, xgroupStart, xgroupEnd, xgroupResident, xinKind, xinId, xinAlign, xinSize, xinFirstByte, xinStmt, xinLive, xinVma, xfedBytes, xrelocOwner, xrelocOffset, xrelocType, xrelocTarget, xrelocAddend)) : wpX_initialise post (xphase, (nI ns), xopenOut, xopenGroup, (nI no), (nI ng), (nI ni), (nI nb), (nI nr), xregionSize, xcounter, xmemory, xstmtOp, xstmtA, xstmtB, xstmtOwner, xoutRegion, xoutLoaded, xoutGroup, xoutAlign, xoutVma, xoutLma, xoutDot, xgroupStart, xgroupEnd, xgroupResident, xinKind, xinId, xinAlign, xinSize, xinFirstByte, xinStmt, xinLive, xinVma, xfedBytes, xrelocOwner, xrelocOffset, xrelocType, xrelocTarget, xrelocAddend) (nI k) := by
  have e : (nI k).toNatClampNeg = k := nI_clamp (by omega)
  have v8 : vp_in (nI k) 8 := vp_in_nI hk (by omega)
  have H : ∀ c x, x + c = d → v ≤ x → wX_initialise_14 post (nI k) (nI d) xphase (nI ns) xopenOut xopenGroup (nI no) (nI ng) (nI ni) (nI nb) (nI nr) (c + 1) (nI x) xregionSize xcounter (lk_wr xmemory v x (fun j => if xoutLoaded k = 1 then xmemory (l + (j - v)) else 0)) xstmtOp xstmtA xstmtB xstmtOwner xoutRegion xoutLoaded xoutGroup xoutAlign xoutVma xoutLma xoutDot xgroupStart xgroupEnd xgroupResident xinKind xinId xinAlign xinSize xinFirstByte xinStmt xinLive xinVma xfedBytes xrelocOwner xrelocOffset xrelocType xrelocTarget xrelocAddend := by
    intro c
    induction c with
    | zero =>
      intro x hx _
      have e1 : x = d := hx
      subst e1
      exact br_t (nI_le (by omega) (by omega)) h
    | succ c ih =>
      intro x hx hvx
      refine br_f (nI_ge (by omega) (by omega)) (lx_ib hk ev el hvx (fun a => by have := hl a; omega) ⟨vp_in_nI (by omega) (by omega), nm_r ?_ (nm_r (nI_1 x) (ih (x + 1) (by omega) (by omega)))⟩)
      rw [nI_clamp (by omega)]
      refine lk_wr_s hvx ?_
      by_cases a : xoutLoaded k = 1
      · have hb := hl a
        rw [if_pos a, if_pos a, lk_wr_f (by omega)]
      · rw [if_neg a, if_neg a]
  have H2 := H (d - v) v (by omega) (Nat.le_refl v)
  rw [lk_wr_0] at H2
  exact ⟨v8, nm_r (e' := nI d) (by rw [e, ed]) ⟨v8, nm_r (e' := nI v) (by rw [e, ev]) ⟨_, H2⟩⟩⟩
theorem ly_zs {post : SY → Prop} {R0 R1 ns no ng ni nb nr : Nat} {yphase yopenOut yinGroup ycur yfinalC0 yfinalC1 : Int32} {ystOp ystA ystB ystOut youtReg youtLoaded youtGroup youtVma youtLma youtSize youtAlign youtRes ygStart ygEnd yinKind yinId yinAlign yinBss yinStart yinLen yinStmt yinLive yinVma yinLma ybytes yrSec yrOff yrType yrTgt yrAdd yrom yram : Nat → Int32} {g a b : Nat} {z : Int32} (hz : z = nI g) (hg : g < 4) (ea : ygStart g = nI a) (eb : ygEnd g = nI b) (h256 : 256 ≤ a) (hab : a ≤ b) (hb30 : b < 2 ^ 30) (hb : b = a ∨ b ≤ 256 + R1) (hR : R1 ≤ 128) (h : post ((nI R0), (nI R1), yphase, (nI ns), (nI no), (nI ng), (nI ni), (nI nb), (nI nr), yopenOut, yinGroup, ycur, yfinalC0, yfinalC1, ystOp, ystA, ystB, ystOut, youtReg, youtLoaded, youtGroup, youtVma, youtLma, youtSize, youtAlign, youtRes, ygStart, ygEnd, yinKind, yinId, yinAlign, yinBss, yinStart, yinLen, yinStmt, yinLive, yinVma, yinLma, ybytes, yrSec, yrOff, yrType, yrTgt, yrAdd, yrom, (lk_wr yram (a - 256) (b - 256) (fun _ => 0)))) : wpY_zeroSpan post ((nI R0), (nI R1), yphase, (nI ns), (nI no), (nI ng), (nI ni), (nI nb), (nI nr), yopenOut, yinGroup, ycur, yfinalC0, yfinalC1, ystOp, ystA, ystB, ystOut, youtReg, youtLoaded, youtGroup, youtVma, youtLma, youtSize, youtAlign, youtRes, ygStart, ygEnd, yinKind, yinId, yinAlign, yinBss, yinStart, yinLen, yinStmt, yinLive, yinVma, yinLma, ybytes, yrSec, yrOff, yrType, yrTgt, yrAdd, yrom, yram) z := by
  subst hz
  have e : (nI g).toNatClampNeg = g := nI_clamp (by omega)
  have v4 : vp_in (nI g) 4 := vp_in_nI hg (by omega)
  have H : ∀ d x, x + d = b → a ≤ x → wY_zeroSpan_7 post (nI g) (nI R0) (nI R1) yphase (nI ns) (nI no) (nI ng) (nI ni) (nI nb) (nI nr) yopenOut yinGroup ycur yfinalC0 yfinalC1 (d + 1) (nI x) ystOp ystA ystB ystOut youtReg youtLoaded youtGroup youtVma youtLma youtSize youtAlign youtRes ygStart ygEnd yinKind yinId yinAlign yinBss yinStart yinLen yinStmt yinLive yinVma yinLma ybytes yrSec yrOff yrType yrTgt yrAdd yrom (lk_wr yram (a - 256) (x - 256) (fun _ => 0)) := by
    intro d
    induction d with
    | zero =>
      intro x hx _
      have e1 : x = b := hx
      subst e1
      exact ⟨v4, br_t (by rw [e, eb]; exact nI_le (by omega) (by omega)) h⟩
    | succ d ih =>
      intro x hx hax
      have ex : nI x - 256 = nI (x - 256) := pk_sub (b := 256) (by omega)
      refine ⟨v4, br_f (by rw [e, eb]; exact nI_ge (by omega) (by omega)) (br_f (nI_ge (b := 384) (by omega) (by omega)) (nm_r ex (br_f (nI_pos (by omega)) (br_f (nI_ge (by omega) (by omega)) ⟨vp_in_nI (by omega) (by omega), nm_r ?_ (nm_r (nI_1 x) (ih (x + 1) (by omega) (by omega)))⟩))))⟩
      rw [nI_clamp (by omega), show x + 1 - 256 = x - 256 + 1 by omega]
      exact lk_wr_s (by omega) rfl
  have H2 := H (b - a) a (by omega) (Nat.le_refl a)
  rw [lk_wr_0] at H2
  exact ⟨v4, nm_r (e' := nI a) (by rw [e, ea]) ⟨_, H2⟩⟩
theorem ly_ls {post : SY → Prop} {R0 R1 ns no ng ni nb nr : Nat} {yphase yopenOut yinGroup ycur yfinalC0 yfinalC1 : Int32} {ystOp ystA ystB ystOut youtReg youtLoaded youtGroup youtVma youtLma youtSize youtAlign youtRes ygStart ygEnd yinKind yinId yinAlign yinBss yinStart yinLen yinStmt yinLive yinVma yinLma ybytes yrSec yrOff yrType yrTgt yrAdd yrom yram : Nat → Int32} {k v l S : Nat} (hk : k < 8) (ev : youtVma k = nI v) (el : youtLma k = nI l) (eS : youtSize k = nI S) (h256 : 256 ≤ v) (hd : v + S ≤ 256 + R1) (hR : R1 ≤ 128) (hl : youtLoaded k = 1 → l + S ≤ 128) (h : post ((nI R0), (nI R1), yphase, (nI ns), (nI no), (nI ng), (nI ni), (nI nb), (nI nr), yopenOut, yinGroup, ycur, yfinalC0, yfinalC1, ystOp, ystA, ystB, ystOut, youtReg, youtLoaded, youtGroup, youtVma, youtLma, youtSize, youtAlign, youtRes, ygStart, ygEnd, yinKind, yinId, yinAlign, yinBss, yinStart, yinLen, yinStmt, yinLive, yinVma, yinLma, ybytes, yrSec, yrOff, yrType, yrTgt, yrAdd, yrom, (lk_wr yram (v - 256) (v + S - 256) (fun j => if youtLoaded k = 1 then yrom (l + (256 + j - v)) else 0)))) : wpY_loadSection post ((nI R0), (nI R1), yphase, (nI ns), (nI no), (nI ng), (nI ni), (nI nb), (nI nr), yopenOut, yinGroup, ycur, yfinalC0, yfinalC1, ystOp, ystA, ystB, ystOut, youtReg, youtLoaded, youtGroup, youtVma, youtLma, youtSize, youtAlign, youtRes, ygStart, ygEnd, yinKind, yinId, yinAlign, yinBss, yinStart, yinLen, yinStmt, yinLive, yinVma, yinLma, ybytes, yrSec, yrOff, yrType, yrTgt, yrAdd, yrom, yram) (nI k) := by
  have e : (nI k).toNatClampNeg = k := nI_clamp (by omega)
  have v8 : vp_in (nI k) 8 := vp_in_nI hk (by omega)
  have H : ∀ d i, i + d = S → wY_loadSection_2 post (nI k) (nI R0) (nI R1) yphase (nI ns) (nI no) (nI ng) (nI ni) (nI nb) (nI nr) yopenOut yinGroup ycur yfinalC0 yfinalC1 (d + 1) (nI i) ystOp ystA ystB ystOut youtReg youtLoaded youtGroup youtVma youtLma youtSize youtAlign youtRes ygStart ygEnd yinKind yinId yinAlign yinBss yinStart yinLen yinStmt yinLive yinVma yinLma ybytes yrSec yrOff yrType yrTgt yrAdd yrom (lk_wr yram (v - 256) (v + i - 256) (fun j => if youtLoaded k = 1 then yrom (l + (256 + j - v)) else 0)) := by
    intro d
    induction d with
    | zero =>
      intro i hi
      have e1 : i = S := hi
      subst e1
      exact ⟨v8, br_t (by rw [e, eS]; exact nI_le (by omega) (by omega)) h⟩
    | succ d ih =>
      intro i hi
      have hi2 := ih (i + 1) (by omega)
      have ex : youtVma (nI k).toNatClampNeg + nI i - 256 = nI (v + i - 256) := by
        rw [e, ev, nI_add]
        exact pk_sub (b := 256) (by omega)
      refine ⟨v8, br_f (by rw [e, eS]; exact nI_ge (by omega) (by omega)) (br_f (nI_ge (b := 1100) (by omega) (by omega)) ⟨v8, nm_r ex ⟨v8, nm_e ⟨v8, ?_⟩⟩⟩)⟩
      have w : ∀ z : Int32, z = (if youtLoaded k = 1 then yrom (l + (256 + (v + i - 256) - v)) else 0) → wY_loadSection_85 post (wY_loadSection_2 post (nI k) (nI R0) (nI R1) yphase (nI ns) (nI no) (nI ng) (nI ni) (nI nb) (nI nr) yopenOut yinGroup ycur yfinalC0 yfinalC1 (d + 1)) (nI k) (nI i) (nI (v + i - 256)) z (nI R0) (nI R1) yphase (nI ns) (nI no) (nI ng) (nI ni) (nI nb) (nI nr) yopenOut yinGroup ycur yfinalC0 yfinalC1 ystOp ystA ystB ystOut youtReg youtLoaded youtGroup youtVma youtLma youtSize youtAlign youtRes ygStart ygEnd yinKind yinId yinAlign yinBss yinStart yinLen yinStmt yinLive yinVma yinLma ybytes yrSec yrOff yrType yrTgt yrAdd yrom (lk_wr yram (v - 256) (v + i - 256) (fun j => if youtLoaded k = 1 then yrom (l + (256 + j - v)) else 0)) := by
        intro z hz
        refine br_f (nI_pos (by omega)) (br_f (nI_ge (by omega) (by omega)) ⟨vp_in_nI (by omega) (by omega), nm_r ?_ (nm_r (nI_1 i) hi2)⟩)
        rw [nI_clamp (by omega), show v + (i + 1) - 256 = v + i - 256 + 1 by omega]
        exact lk_wr_s (by omega) hz
      by_cases a : youtLoaded k = 1
      · have hb := hl a
        have e2 : youtLma (nI k).toNatClampNeg + nI i - 0 = nI (l + i) := by rw [e, el, nI_add, Int32.sub_zero]
        rw [e2]
        refine br_t (by rw [e]; exact a) (br_f (nI_pos (by omega)) (br_f (nI_ge (b := 128) (by omega) (by omega)) ⟨vp_in_nI (by omega) (by omega), w _ ?_⟩))
        rw [if_pos a, nI_clamp (by omega), show 256 + (v + i - 256) - v = i by omega]
      · exact br_f (by rw [e]; exact a) (w 0 (by rw [if_neg a]))
  have H2 := H S 0 (by omega)
  rw [lk_wr_e (show v + 0 - 256 ≤ v - 256 by omega)] at H2
  exact ⟨_, H2⟩
/-- a group's span made zero, an output section laid: both sides -/
theorem lk_M_zs {me rom ram : Nat → Int32} {a b : Nat} (h : lk_M me rom ram) (ha : 256 ≤ a) : lk_M (lk_wr me a b (fun _ => 0)) rom (lk_wr ram (a - 256) (b - 256) (fun _ => 0)) := lk_M_wr h ha (fun _ _ _ _ => rfl)
theorem lk_M_ls {me rom ram : Nat → Int32} {v d l : Nat} {ld : Int32} (h : lk_M me rom ram) (ha : 256 ≤ v) (hl : ld = 1 → l + (d - v) ≤ 128) : lk_M (lk_wr me v d (fun j => if ld = 1 then me (l + (j - v)) else 0)) rom (lk_wr ram (v - 256) (d - 256) (fun j => if ld = 1 then rom (l + (256 + j - v)) else 0)) := by
  refine lk_M_wr h ha (fun j hj h1 h2 => ?_)
  by_cases a : ld = 1
  · have hb := hl a
    rw [if_pos a, if_pos a]
    exact h.1 _ (by omega)
  · rw [if_neg a, if_neg a]
theorem lk_su1 {ns no ng ni nb nr R0 R1 : Nat} {xphase xopenOut xopenGroup yinGroup yfinalC0 yfinalC1 : Int32} {xregionSize xcounter xstmtOp xstmtA xstmtB xstmtOwner xoutRegion xoutLoaded xoutGroup xoutAlign xoutVma xoutLma xoutDot xgroupStart xgroupEnd xgroupResident xinKind xinId xinAlign xinSize xinFirstByte xinStmt xinLive xinVma xfedBytes xrelocOwner xrelocOffset xrelocType xrelocTarget xrelocAddend ystOut youtSize youtRes ygStart ygEnd yinBss yinLen yinVma yinLma yrom : Nat → Int32} (h8 : no ≤ 8) (h4 : ng ≤ 4) (hR : R0 ≤ 128 ∧ R1 ≤ 128) (hg : ∀ k, k < no → xoutGroup k = -1 ∨ ∃ g, g < ng ∧ xoutGroup k = nI g) (hgr : ∀ g, g < ng → ∃ a b, xgroupStart g = nI a ∧ ygStart g = nI a ∧ xgroupEnd g = nI b ∧ ygEnd g = nI b ∧ 256 ≤ a ∧ a ≤ b ∧ b < 2 ^ 30 ∧ (b = a ∨ b ≤ 256 + R1)) : ∀ d g, g + d = ng → ∀ me ram : Nat → Int32, lk_M me yrom ram → ∃ me' ram' : Nat → Int32, lk_M me' yrom ram' ∧
    (∀ post : Int32 → SX → Prop, (∃ n, wX_startup_45 post n 0 xphase (nI ns) xopenOut xopenGroup (nI no) (nI ng) (nI ni) (nI nb) (nI nr) xregionSize xcounter me' xstmtOp xstmtA xstmtB xstmtOwner xoutRegion xoutLoaded xoutGroup xoutAlign xoutVma xoutLma xoutDot xgroupStart xgroupEnd xgroupResident xinKind xinId xinAlign xinSize xinFirstByte xinStmt xinLive xinVma xfedBytes xrelocOwner xrelocOffset xrelocType xrelocTarget xrelocAddend) → wX_startup_12 post (d + 1) (nI g) xphase (nI ns) xopenOut xopenGroup (nI no) (nI ng) (nI ni) (nI nb) (nI nr) xregionSize xcounter me xstmtOp xstmtA xstmtB xstmtOwner xoutRegion xoutLoaded xoutGroup xoutAlign xoutVma xoutLma xoutDot xgroupStart xgroupEnd xgroupResident xinKind xinId xinAlign xinSize xinFirstByte xinStmt xinLive xinVma xfedBytes xrelocOwner xrelocOffset xrelocType xrelocTarget xrelocAddend) ∧
    (∀ post : Int32 → SY → Prop, (∃ n, wY_startup_38 post n 0 (nI R0) (nI R1) xphase (nI ns) (nI no) (nI ng) (nI ni) (nI nb) (nI nr) xopenOut yinGroup (nI ni - 1) yfinalC0 yfinalC1 xstmtOp xstmtA xstmtB ystOut xoutRegion xoutLoaded xoutGroup xoutVma xoutLma youtSize xoutAlign youtRes ygStart ygEnd xinKind xinId xinAlign yinBss xinFirstByte yinLen xinStmt xinLive yinVma yinLma xfedBytes xrelocOwner xrelocOffset xrelocType xrelocTarget xrelocAddend yrom ram') → wY_startup_12 post (d + 1) (nI g) (nI R0) (nI R1) xphase (nI ns) (nI no) (nI ng) (nI ni) (nI nb) (nI nr) xopenOut yinGroup (nI ni - 1) yfinalC0 yfinalC1 xstmtOp xstmtA xstmtB ystOut xoutRegion xoutLoaded xoutGroup xoutVma xoutLma youtSize xoutAlign youtRes ygStart ygEnd xinKind xinId xinAlign yinBss xinFirstByte yinLen xinStmt xinLive yinVma yinLma xfedBytes xrelocOwner xrelocOffset xrelocType xrelocTarget xrelocAddend yrom ram) := by
  intro d
  induction d with
  | zero =>
    intro g hgd me ram hM
    have e1 : g = ng := hgd
    subst e1
    exact ⟨me, ram, hM, fun post hp => br_t (nI_le (by omega) (by omega)) hp, fun post hp => br_t (nI_le (by omega) (by omega)) hp⟩
  | succ d ih =>
    intro g hgd me ram hM
    obtain ⟨a, b, s1, s2, s3, s4, s5, s6, s7, s8⟩ := hgr g (by omega)
    have e : (nI g).toNatClampNeg = g := nI_clamp (by omega)
    have v4 : vp_in (nI g) 4 := vp_in_nI (by omega) (by omega)
    have n1 : ¬ nI ng ≤ nI g := nI_ge (by omega) (by omega)
    have n2 : ¬ (4 : Int32) ≤ nI g := nI_ge (b := 4) (by omega) (by omega)
    obtain ⟨me', ram', j1, j2, j3⟩ := ih (g + 1) (by omega) _ _ (lk_M_zs (b := b) hM s5)
    exact ⟨me', ram', j1, fun post hp => br_f n1 ⟨v4, v4, lx_fill3 (by rw [e, s1]) (by rw [e, s3]) (by omega) (by omega) (nm_r (nI_1 g) (j2 post hp))⟩, fun post hp => br_f n1 (br_f n2 (ly_zs rfl (by omega) s2 s4 s5 s6 s7 s8 hR.2 (nm_r (nI_1 g) (j3 post hp))))⟩
theorem lk_su2 {ns no ng ni nb nr R0 R1 : Nat} {xphase xopenOut xopenGroup yinGroup yfinalC0 yfinalC1 : Int32} {xregionSize xcounter xstmtOp xstmtA xstmtB xstmtOwner xoutRegion xoutLoaded xoutGroup xoutAlign xoutVma xoutLma xoutDot xgroupStart xgroupEnd xgroupResident xinKind xinId xinAlign xinSize xinFirstByte xinStmt xinLive xinVma xfedBytes xrelocOwner xrelocOffset xrelocType xrelocTarget xrelocAddend ystOut youtSize youtRes ygStart ygEnd yinBss yinLen yinVma yinLma yrom : Nat → Int32} {V L D : Nat → Nat} (h8 : no ≤ 8) (h4 : ng ≤ 4) (hR : R0 ≤ 128 ∧ R1 ≤ 128) (hg : ∀ k, k < no → xoutGroup k = -1 ∨ ∃ g, g < ng ∧ xoutGroup k = nI g) (hk : ∀ k, k < no → xoutVma k = nI (V k) ∧ xoutLma k = nI (L k) ∧ xoutDot k = nI (D k) ∧ youtSize k = nI (D k - V k) ∧ V k ≤ D k ∧ (xoutRegion k = 1 → 256 ≤ V k ∧ D k ≤ 256 + R1) ∧ (xoutRegion k = 0 → D k ≤ R0) ∧ (xoutLoaded k = 1 → L k + (D k - V k) ≤ R0)) (hres : ∀ g, g < ng → xgroupResident g = lk_f1 xoutGroup no (nI g)) : ∀ d k, k + d = no → ∀ me ram : Nat → Int32, lk_M me yrom ram → ∃ me' ram' : Nat → Int32, lk_M me' yrom ram' ∧
    (∀ post : Int32 → SX → Prop, post 0 (2, (nI ns), xopenOut, xopenGroup, (nI no), (nI ng), (nI ni), (nI nb), (nI nr), xregionSize, xcounter, me', xstmtOp, xstmtA, xstmtB, xstmtOwner, xoutRegion, xoutLoaded, xoutGroup, xoutAlign, xoutVma, xoutLma, xoutDot, xgroupStart, xgroupEnd, xgroupResident, xinKind, xinId, xinAlign, xinSize, xinFirstByte, xinStmt, xinLive, xinVma, xfedBytes, xrelocOwner, xrelocOffset, xrelocType, xrelocTarget, xrelocAddend) → wX_startup_45 post (d + 1) (nI k) xphase (nI ns) xopenOut xopenGroup (nI no) (nI ng) (nI ni) (nI nb) (nI nr) xregionSize xcounter me xstmtOp xstmtA xstmtB xstmtOwner xoutRegion xoutLoaded xoutGroup xoutAlign xoutVma xoutLma xoutDot xgroupStart xgroupEnd xgroupResident xinKind xinId xinAlign xinSize xinFirstByte xinStmt xinLive xinVma xfedBytes xrelocOwner xrelocOffset xrelocType xrelocTarget xrelocAddend) ∧
    (∀ post : Int32 → SY → Prop, post 0 ((nI R0), (nI R1), 2, (nI ns), (nI no), (nI ng), (nI ni), (nI nb), (nI nr), xopenOut, yinGroup, (nI ni - 1), yfinalC0, yfinalC1, xstmtOp, xstmtA, xstmtB, ystOut, xoutRegion, xoutLoaded, xoutGroup, xoutVma, xoutLma, youtSize, xoutAlign, youtRes, ygStart, ygEnd, xinKind, xinId, xinAlign, yinBss, xinFirstByte, yinLen, xinStmt, xinLive, yinVma, yinLma, xfedBytes, xrelocOwner, xrelocOffset, xrelocType, xrelocTarget, xrelocAddend, yrom, ram') → wY_startup_38 post (d + 1) (nI k) (nI R0) (nI R1) xphase (nI ns) (nI no) (nI ng) (nI ni) (nI nb) (nI nr) xopenOut yinGroup (nI ni - 1) yfinalC0 yfinalC1 xstmtOp xstmtA xstmtB ystOut xoutRegion xoutLoaded xoutGroup xoutVma xoutLma youtSize xoutAlign youtRes ygStart ygEnd xinKind xinId xinAlign yinBss xinFirstByte yinLen xinStmt xinLive yinVma yinLma xfedBytes xrelocOwner xrelocOffset xrelocType xrelocTarget xrelocAddend yrom ram) := by
  intro d
  induction d with
  | zero =>
    intro k hkd me ram hM
    have e1 : k = no := hkd
    subst e1
    exact ⟨me, ram, hM, fun post hp => br_t (nI_le (by omega) (by omega)) hp, fun post hp => br_t (nI_le (by omega) (by omega)) hp⟩
  | succ d ih =>
    intro k hkd me ram hM
    obtain ⟨t1, t2, t3, t4, t5, t6, t7, t8⟩ := hk k (by omega)
    have e : (nI k).toNatClampNeg = k := nI_clamp (by omega)
    have v8 : vp_in (nI k) 8 := vp_in_nI (by omega) (by omega)
    have n1 : ¬ nI no ≤ nI k := nI_ge (by omega) (by omega)
    have n2 : ¬ (8 : Int32) ≤ nI k := nI_ge (b := 8) (by omega) (by omega)
    by_cases r : xoutRegion k = 1
    · obtain ⟨t9, t10⟩ := t6 r
      have r' : xoutRegion (nI k).toNatClampNeg = 1 := by rw [e]; exact r
      have hl8 : xoutLoaded k = 1 → L k + (D k - V k) ≤ 128 := fun z => by have := t8 z; omega
      have hl8' : xoutLoaded k = 1 → L k + (D k - V k) ≤ 128 := hl8
      have lay : ∃ me' ram' : Nat → Int32, lk_M me' yrom ram' ∧
          (∀ post : Int32 → SX → Prop, post 0 (2, (nI ns), xopenOut, xopenGroup, (nI no), (nI ng), (nI ni), (nI nb), (nI nr), xregionSize, xcounter, me', xstmtOp, xstmtA, xstmtB, xstmtOwner, xoutRegion, xoutLoaded, xoutGroup, xoutAlign, xoutVma, xoutLma, xoutDot, xgroupStart, xgroupEnd, xgroupResident, xinKind, xinId, xinAlign, xinSize, xinFirstByte, xinStmt, xinLive, xinVma, xfedBytes, xrelocOwner, xrelocOffset, xrelocType, xrelocTarget, xrelocAddend) → wX_startup_81 post (wX_startup_45 post (d + 1)) (nI k) xphase (nI ns) xopenOut xopenGroup (nI no) (nI ng) (nI ni) (nI nb) (nI nr) xregionSize xcounter me xstmtOp xstmtA xstmtB xstmtOwner xoutRegion xoutLoaded xoutGroup xoutAlign xoutVma xoutLma xoutDot xgroupStart xgroupEnd xgroupResident xinKind xinId xinAlign xinSize xinFirstByte xinStmt xinLive xinVma xfedBytes xrelocOwner xrelocOffset xrelocType xrelocTarget xrelocAddend) ∧
          (∀ post : Int32 → SY → Prop, post 0 ((nI R0), (nI R1), 2, (nI ns), (nI no), (nI ng), (nI ni), (nI nb), (nI nr), xopenOut, yinGroup, (nI ni - 1), yfinalC0, yfinalC1, xstmtOp, xstmtA, xstmtB, ystOut, xoutRegion, xoutLoaded, xoutGroup, xoutVma, xoutLma, youtSize, xoutAlign, youtRes, ygStart, ygEnd, xinKind, xinId, xinAlign, yinBss, xinFirstByte, yinLen, xinStmt, xinLive, yinVma, yinLma, xfedBytes, xrelocOwner, xrelocOffset, xrelocType, xrelocTarget, xrelocAddend, yrom, ram') → wY_startup_85 post (wY_startup_38 post (d + 1)) (nI k) (nI R0) (nI R1) xphase (nI ns) (nI no) (nI ng) (nI ni) (nI nb) (nI nr) xopenOut yinGroup (nI ni - 1) yfinalC0 yfinalC1 xstmtOp xstmtA xstmtB ystOut xoutRegion xoutLoaded xoutGroup xoutVma xoutLma youtSize xoutAlign youtRes ygStart ygEnd xinKind xinId xinAlign yinBss xinFirstByte yinLen xinStmt xinLive yinVma yinLma xfedBytes xrelocOwner xrelocOffset xrelocType xrelocTarget xrelocAddend yrom ram) := by
        obtain ⟨me', ram', j1, j2, j3⟩ := ih (k + 1) (by omega) _ _ (lk_M_ls (d := D k) (ld := xoutLoaded k) hM t9 hl8)
        refine ⟨me', ram', j1, fun post hp => lx_ini (by omega) t1 t3 t2 t5 t9 (by omega) hl8 (nm_r (nI_1 k) (j2 post hp)), fun post hp => ly_ls (v := V k) (l := L k) (S := D k - V k) (by omega) t1 t2 t4 t9 (by omega) hR.2 hl8' ?_⟩
        have hj := j3 post hp
        rw [show D k - 256 = V k + (D k - V k) - 256 by omega] at hj
        exact nm_r (nI_1 k) hj
      have skip := ih (k + 1) (by omega) me ram hM
      rcases hg k (by omega) with z | ⟨g, hgn, z⟩
      · obtain ⟨me', ram', j1, j2, j3⟩ := lay
        exact ⟨me', ram', j1, fun post hp => br_f n1 ⟨v8, br_t r' ⟨v8, br_t (by rw [e]; exact z) (j2 post hp)⟩⟩, fun post hp => br_f n1 (br_f n2 ⟨v8, br_t r' ⟨v8, br_t (by rw [e, z]; decide) (j3 post hp)⟩⟩)⟩
      · have eg : (nI g).toNatClampNeg = g := nI_clamp (by omega)
        have z' : xoutGroup (nI k).toNatClampNeg = nI g := by rw [e]; exact z
        have nz : ¬ xoutGroup (nI k).toNatClampNeg = -1 := by rw [z']; exact lk_nn1 (by omega)
        have nl : ¬ xoutGroup (nI k).toNatClampNeg < 0 := by rw [z']; exact nI_pos (by omega)
        have vg : vp_in (xoutGroup (nI k).toNatClampNeg) 4 := by rw [z']; exact vp_in_nI (by omega) (by omega)
        by_cases c : lk_f1 xoutGroup no (nI g) = nI k
        · obtain ⟨me', ram', j1, j2, j3⟩ := lay
          exact ⟨me', ram', j1, fun post hp => br_f n1 ⟨v8, br_t r' ⟨v8, br_f nz ⟨v8, br_f nz ⟨v8, vg, br_t (by rw [z', eg, hres g hgn]; exact c) (br_f (by decide) (j2 post hp))⟩⟩⟩⟩, fun post hp => br_f n1 (br_f n2 ⟨v8, br_t r' ⟨v8, br_f nl ⟨v8, ly_f1 h8 (br_t (by rw [z']; exact c) (j3 post hp))⟩⟩⟩)⟩
        · obtain ⟨me', ram', j1, j2, j3⟩ := skip
          exact ⟨me', ram', j1, fun post hp => br_f n1 ⟨v8, br_t r' ⟨v8, br_f nz ⟨v8, br_f nz ⟨v8, vg, br_f (by rw [z', eg, hres g hgn]; exact c) (br_t rfl (nm_r (nI_1 k) (j2 post hp)))⟩⟩⟩⟩, fun post hp => br_f n1 (br_f n2 ⟨v8, br_t r' ⟨v8, br_f nl ⟨v8, ly_f1 h8 (br_f (by rw [z']; exact c) (nm_r (nI_1 k) (j3 post hp)))⟩⟩⟩)⟩
    · have r' : ¬ xoutRegion (nI k).toNatClampNeg = 1 := by rw [e]; exact r
      obtain ⟨me', ram', j1, j2, j3⟩ := ih (k + 1) (by omega) me ram hM
      exact ⟨me', ram', j1, fun post hp => br_f n1 ⟨v8, br_f r' (nm_r (nI_1 k) (j2 post hp))⟩, fun post hp => br_f n1 (br_f n2 ⟨v8, br_f r' (nm_r (nI_1 k) (j3 post hp))⟩)⟩
end
