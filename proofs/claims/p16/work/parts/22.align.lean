
section
theorem lx_al {post : Int32 → Prop} {x m : Nat} (hA : lk_A m) (hx : x < 2 ^ 30) (h : post (nI (lk_al x m))) : wpX_alignUp post () (nI x) (nI m) := by
  unfold wpX_alignUp
  rw [lk_alX hA hx]
  exact h
def lk_gp (ow st lv : Nat → Int32) (k : Int32) (s : Nat) : Bool := decide (lv s = 1 ∧ ow (st s).toNatClampNeg = k)
theorem lx_ga {post : Int32 → Prop} {ns no ng ni nb nr : Nat} {xphase xopenOut xopenGroup : Int32} {xregionSize xcounter xmemory xstmtOp xstmtA xstmtB xstmtOwner xoutRegion xoutLoaded xoutGroup xoutAlign xoutVma xoutLma xoutDot xgroupStart xgroupEnd xgroupResident xinKind xinId xinAlign xinSize xinFirstByte xinStmt xinLive xinVma xfedBytes xrelocOwner xrelocOffset xrelocType xrelocTarget xrelocAddend : Nat → Int32} {oy : Nat → Int32} {k : Nat} (h16 : ni ≤ 16) (hl : lk_hl ni no ns xinStmt xinLive xstmtOwner oy) (h : post (lk_ga (lk_gp xstmtOwner xinStmt xinLive (nI k)) xinAlign ni)) : wpX_greatestAlign post (xphase, (nI ns), xopenOut, xopenGroup, (nI no), (nI ng), (nI ni), (nI nb), (nI nr), xregionSize, xcounter, xmemory, xstmtOp, xstmtA, xstmtB, xstmtOwner, xoutRegion, xoutLoaded, xoutGroup, xoutAlign, xoutVma, xoutLma, xoutDot, xgroupStart, xgroupEnd, xgroupResident, xinKind, xinId, xinAlign, xinSize, xinFirstByte, xinStmt, xinLive, xinVma, xfedBytes, xrelocOwner, xrelocOffset, xrelocType, xrelocTarget, xrelocAddend) (nI k) := by
  obtain ⟨l1, l2, l3⟩ := hl
  have H : ∀ d s, s + d = ni → wX_greatestAlign_4 post (nI k) xphase (nI ns) xopenOut xopenGroup (nI no) (nI ng) (nI ni) (nI nb) (nI nr) xregionSize xcounter xmemory xstmtOp xstmtA xstmtB xstmtOwner xoutRegion xoutLoaded xoutGroup xoutAlign xoutVma xoutLma xoutDot xgroupStart xgroupEnd xgroupResident xinKind xinId xinAlign xinSize xinFirstByte xinStmt xinLive xinVma xfedBytes xrelocOwner xrelocOffset xrelocType xrelocTarget xrelocAddend (d + 1) (lk_ga (lk_gp xstmtOwner xinStmt xinLive (nI k)) xinAlign s) (nI s) := by
    intro d
    induction d with
    | zero =>
      intro s hs
      have e1 : s = ni := hs
      subst e1
      exact br_t (nI_le (by omega) (by omega)) h
    | succ d ih =>
      intro s hs
      have e : (nI s).toNatClampNeg = s := nI_clamp (by omega)
      have v1 : vp_in (nI s) 16 := vp_in_nI (by omega) (by omega)
      have hi := ih (s + 1) (by omega)
      rw [lk_ga_s] at hi
      refine br_f (nI_ge (by omega) (by omega)) ⟨v1, ?_⟩
      by_cases a : xinLive (nI s).toNatClampNeg = 1
      · obtain ⟨q, k2, hq, eq, hk, ek, _⟩ := l3 s (by omega) (by rw [e] at a; exact a)
        have v2 : vp_in (xinStmt (nI s).toNatClampNeg) 32 := by rw [e, eq]; exact vp_in_nI (by omega) (by omega)
        refine br_t a ⟨v1, v2, ?_⟩
        by_cases b : xstmtOwner (xinStmt (nI s).toNatClampNeg).toNatClampNeg = nI k
        · refine br_t b ⟨v1, ?_⟩
          by_cases c : xinAlign (nI s).toNatClampNeg ≤ lk_ga (lk_gp xstmtOwner xinStmt xinLive (nI k)) xinAlign s
          · refine br_t c (nm_r (nI_1 s) ?_)
            rw [e] at c
            rw [if_neg (fun y => Int32.not_lt.mpr c y.2)] at hi
            exact hi
          · refine br_f c ⟨v1, nm_r ?_ (nm_r (nI_1 s) hi)⟩
            rw [e] at a b c ⊢
            exact (if_pos ⟨decide_eq_true ⟨a, b⟩, Int32.not_le.mp c⟩).symm
        · refine br_f b (nm_r (nI_1 s) ?_)
          rw [e] at b
          rw [if_neg (fun y => b (of_decide_eq_true y.1).2)] at hi
          exact hi
      · refine br_f a (nm_r (nI_1 s) ?_)
        rw [e] at a
        rw [if_neg (fun y => a (of_decide_eq_true y.1).1)] at hi
        exact hi
  exact ⟨_, H ni 0 (by omega)⟩
theorem lk_ga_cg {p q : Nat → Bool} {al : Nat → Int32} : ∀ n, (∀ s, s < n → p s = q s) → lk_ga p al n = lk_ga q al n := by
  intro n
  induction n with
  | zero => intro _; rfl
  | succ n ih =>
    intro h
    rw [lk_ga_s, lk_ga_s, ih (fun s hs => h s (by omega)), h n (Nat.lt_succ_self n)]
theorem lk_gp_cg {ni no ns k : Nat} {st lv ox oy : Nat → Int32} (hl : lk_hl ni no ns st lv ox oy) : ∀ s, s < ni → lk_gp oy st lv (nI k) s = lk_gp ox st lv (nI k) s := by
  intro s hs
  unfold lk_gp
  by_cases a : lv s = 1
  · obtain ⟨q, k2, hq, eq, hk, ek, ek2⟩ := hl.2.2 s hs a
    have := hl.2.1
    rw [eq, nI_clamp (show q < 2 ^ 31 by omega), ek, ek2]
  · rw [decide_eq_false (fun y => a y.1), decide_eq_false (fun y => a y.1)]
theorem lk_S_g {op sa sb ox oy rg ld gp : Nat → Int32} {ns : Nat} (h : ∀ i, i < ns → lk_sc op sa sb ox oy rg ld gp i) : ∀ i, i ≤ ns → lk_is op i = true → gp (lk_no op i - 1) = if lk_ig op i = true then nI (lk_ng op i - 1) else -1 := by
  intro i
  induction i with
  | zero => intro _ z; exact Bool.noConfusion z
  | succ i ih =>
    intro hi his
    have sc := h i (by omega)
    unfold lk_sc at sc
    have keep : ∀ c : Int32, op i = c → ¬ c = 1 → ¬ c = 2 → ¬ c = 8 → ¬ c = 9 → gp (lk_no op (i + 1) - 1) = if lk_ig op (i + 1) = true then nI (lk_ng op (i + 1) - 1) else -1 := by
      intro c ec n1 n2 n8 n9
      rw [lk_is_s, ec, if_neg n1, if_neg n2] at his
      rw [lk_no_s, lk_ig_s, lk_ng_s, ec, if_neg n1, if_neg n8, if_neg n9, if_neg n8]
      exact ih (by omega) his
    rcases sc with ⟨e, _, _, _, _, _, _, e3⟩ | ⟨e | e | e, _⟩ | ⟨e | e | e, _⟩ | ⟨e, h2, _⟩ | ⟨e, h2, _⟩
    · rw [lk_no_s, lk_ig_s, lk_ng_s, e, if_pos rfl, if_neg (show ¬ (1 : Int32) = 8 by decide), if_neg (show ¬ (1 : Int32) = 9 by decide), if_neg (show ¬ (1 : Int32) = 8 by decide), Nat.add_sub_cancel, Nat.add_zero]
      exact e3
    · rw [lk_is_s, e, if_neg (by decide), if_pos rfl] at his
      exact Bool.noConfusion his
    · exact keep 3 e (by decide) (by decide) (by decide) (by decide)
    · exact keep 4 e (by decide) (by decide) (by decide) (by decide)
    · exact keep 5 e (by decide) (by decide) (by decide) (by decide)
    · exact keep 6 e (by decide) (by decide) (by decide) (by decide)
    · exact keep 7 e (by decide) (by decide) (by decide) (by decide)
    · rw [lk_is_s, e, if_neg (by decide), if_neg (by decide), h2] at his
      exact Bool.noConfusion his
    · rw [lk_is_s, e, if_neg (by decide), if_neg (by decide), h2] at his
      exact Bool.noConfusion his
theorem lx_41 {post : St2 → Prop} {ns no ng ni nb nr : Nat} {xphase xopenOut xopenGroup : Int32} {xregionSize xcounter xmemory xstmtOp xstmtA xstmtB xstmtOwner xoutRegion xoutLoaded xoutGroup xoutAlign xoutVma xoutLma xoutDot xgroupStart xgroupEnd xgroupResident xinKind xinId xinAlign xinSize xinFirstByte xinStmt xinLive xinVma xfedBytes xrelocOwner xrelocOffset xrelocType xrelocTarget xrelocAddend : Nat → Int32} {n m b c v l : Nat} {z r : Int32} (hn : n < 8) (hz : z = nI b) (hr : r = nI m) (hA : lk_A m) (hb : b < 2 ^ 30) (h0 : xcounter 0 = nI c) (hc : c < 2 ^ 30) (hv : v = lk_al b m) (hl : l = if xoutRegion n = 1 ∧ xoutLoaded n = 1 then lk_al c m else v) (h : post (xphase, (nI ns), xopenOut, xopenGroup, (nI no), (nI ng), (nI ni), (nI nb), (nI nr), xregionSize, xcounter, xmemory, xstmtOp, xstmtA, xstmtB, xstmtOwner, xoutRegion, xoutLoaded, xoutGroup, (upd xoutAlign n (nI m)), (upd xoutVma n (nI v)), (upd xoutLma n (nI l)), (upd xoutDot n (nI v)), xgroupStart, xgroupEnd, xgroupResident, xinKind, xinId, xinAlign, xinSize, xinFirstByte, xinStmt, xinLive, xinVma, xfedBytes, xrelocOwner, xrelocOffset, xrelocType, xrelocTarget, xrelocAddend)) : wX_startPlacing_41 post (nI n) r z xphase (nI ns) xopenOut xopenGroup (nI no) (nI ng) (nI ni) (nI nb) (nI nr) xregionSize xcounter xmemory xstmtOp xstmtA xstmtB xstmtOwner xoutRegion xoutLoaded xoutGroup xoutAlign xoutVma xoutLma xoutDot xgroupStart xgroupEnd xgroupResident xinKind xinId xinAlign xinSize xinFirstByte xinStmt xinLive xinVma xfedBytes xrelocOwner xrelocOffset xrelocType xrelocTarget xrelocAddend := by
  have e : (nI n).toNatClampNeg = n := nI_clamp (by omega)
  have v8 : vp_in (nI n) 8 := vp_in_nI hn (by omega)
  subst hz
  subst hr
  subst hv
  refine lx_al hA hb ⟨v8, ?_⟩
  by_cases a : xoutRegion (nI n).toNatClampNeg = 1
  · refine br_t a ⟨v8, ?_⟩
    by_cases b : xoutLoaded (nI n).toNatClampNeg = 1
    · refine br_t b ⟨v8, nm_r (e' := upd xoutAlign n (nI m)) (by rw [e]) ⟨v8, nm_r (e' := upd xoutVma n (nI _)) (by rw [e]) (br_f (by decide) ?_)⟩⟩
      rw [e] at a b
      rw [if_pos ⟨a, b⟩] at hl
      subst hl
      rw [h0]
      exact lx_al hA hc ⟨v8, nm_r (by rw [e]) ⟨v8, nm_r (by rw [e]) h⟩⟩
    · refine br_f b ⟨v8, nm_r (e' := upd xoutAlign n (nI m)) (by rw [e]) ⟨v8, nm_r (e' := upd xoutVma n (nI _)) (by rw [e]) (br_t rfl ?_)⟩⟩
      rw [e] at b
      rw [if_neg (fun y => b y.2)] at hl
      subst hl
      exact ⟨v8, nm_r (by rw [e]) ⟨v8, nm_r (by rw [e]) h⟩⟩
  · refine br_f a ⟨v8, nm_r (e' := upd xoutAlign n (nI m)) (by rw [e]) ⟨v8, nm_r (e' := upd xoutVma n (nI _)) (by rw [e]) (br_t rfl ?_)⟩⟩
    rw [e] at a
    rw [if_neg (fun y => a y.1)] at hl
    subst hl
    exact ⟨v8, nm_r (by rw [e]) ⟨v8, nm_r (by rw [e]) h⟩⟩
theorem lx_59 {post : St2 → Prop} {ns no ng ni nb nr : Nat} {xphase xopenOut xopenGroup : Int32} {xregionSize xcounter xmemory xstmtOp xstmtA xstmtB xstmtOwner xoutRegion xoutLoaded xoutGroup xoutAlign xoutVma xoutLma xoutDot xgroupStart xgroupEnd xgroupResident xinKind xinId xinAlign xinSize xinFirstByte xinStmt xinLive xinVma xfedBytes xrelocOwner xrelocOffset xrelocType xrelocTarget xrelocAddend : Nat → Int32} {c l d v : Nat} (hc : c < 8) (el : xoutLma c = nI l) (ed : xoutDot c = nI d) (ev : xoutVma c = nI v) (hvd : v ≤ d) (h1 : xoutLoaded c = 1 → post (xphase, (nI ns), xopenOut, xopenGroup, (nI no), (nI ng), (nI ni), (nI nb), (nI nr), xregionSize, (upd xcounter 0 (nI (l + (d - v)))), xmemory, xstmtOp, xstmtA, xstmtB, xstmtOwner, xoutRegion, xoutLoaded, xoutGroup, xoutAlign, xoutVma, xoutLma, xoutDot, xgroupStart, xgroupEnd, xgroupResident, xinKind, xinId, xinAlign, xinSize, xinFirstByte, xinStmt, xinLive, xinVma, xfedBytes, xrelocOwner, xrelocOffset, xrelocType, xrelocTarget, xrelocAddend)) (h0 : ¬ xoutLoaded c = 1 → post (xphase, (nI ns), xopenOut, xopenGroup, (nI no), (nI ng), (nI ni), (nI nb), (nI nr), xregionSize, xcounter, xmemory, xstmtOp, xstmtA, xstmtB, xstmtOwner, xoutRegion, xoutLoaded, xoutGroup, xoutAlign, xoutVma, xoutLma, xoutDot, xgroupStart, xgroupEnd, xgroupResident, xinKind, xinId, xinAlign, xinSize, xinFirstByte, xinStmt, xinLive, xinVma, xfedBytes, xrelocOwner, xrelocOffset, xrelocType, xrelocTarget, xrelocAddend)) : wX_endPlacing_59 post (nI c) xphase (nI ns) xopenOut xopenGroup (nI no) (nI ng) (nI ni) (nI nb) (nI nr) xregionSize xcounter xmemory xstmtOp xstmtA xstmtB xstmtOwner xoutRegion xoutLoaded xoutGroup xoutAlign xoutVma xoutLma xoutDot xgroupStart xgroupEnd xgroupResident xinKind xinId xinAlign xinSize xinFirstByte xinStmt xinLive xinVma xfedBytes xrelocOwner xrelocOffset xrelocType xrelocTarget xrelocAddend := by
  have e : (nI c).toNatClampNeg = c := nI_clamp (by omega)
  have v8 : vp_in (nI c) 8 := vp_in_nI hc (by omega)
  refine ⟨v8, ?_⟩
  by_cases a : xoutLoaded (nI c).toNatClampNeg = 1
  · refine br_t a ⟨v8, v8, v8, nm_r ?_ (h1 (by rw [e] at a; exact a))⟩
    rw [e, el, ed, ev, pk_sub hvd, nI_add]
  · exact br_f a (h0 (by rw [e] at a; exact a))
theorem lx_al2 {post : Int32 → Prop} {x m : Nat} {z w : Int32} (hz : z = nI x) (hw : w = nI m) (hA : lk_A m) (hx : x < 2 ^ 30) (h : post (nI (lk_al x m))) : wpX_alignUp post () z w := by
  subst hz
  subst hw
  exact lx_al hA hx h
theorem lx_mv {post : Int32 → Prop} {ns no ng ni nb nr : Nat} {xphase xopenOut xopenGroup : Int32} {xregionSize xcounter xmemory xstmtOp xstmtA xstmtB xstmtOwner xoutRegion xoutLoaded xoutGroup xoutAlign xoutVma xoutLma xoutDot xgroupStart xgroupEnd xgroupResident xinKind xinId xinAlign xinSize xinFirstByte xinStmt xinLive xinVma xfedBytes xrelocOwner xrelocOffset xrelocType xrelocTarget xrelocAddend : Nat → Int32} {i d x y : Nat} (hi : i < 32) (ea : xstmtA i = nI x) (hd : d < 2 ^ 30) (ho : (xstmtOp i = 5 ∧ d ≤ x ∧ y = x) ∨ (xstmtOp i = 6 ∧ y = d + x) ∨ (xstmtOp i = 7 ∧ lk_A x ∧ y = lk_al d x)) (h : post (nI y)) : wpX_movedDot post (xphase, (nI ns), xopenOut, xopenGroup, (nI no), (nI ng), (nI ni), (nI nb), (nI nr), xregionSize, xcounter, xmemory, xstmtOp, xstmtA, xstmtB, xstmtOwner, xoutRegion, xoutLoaded, xoutGroup, xoutAlign, xoutVma, xoutLma, xoutDot, xgroupStart, xgroupEnd, xgroupResident, xinKind, xinId, xinAlign, xinSize, xinFirstByte, xinStmt, xinLive, xinVma, xfedBytes, xrelocOwner, xrelocOffset, xrelocType, xrelocTarget, xrelocAddend) (nI i) (nI d) := by
  have e : (nI i).toNatClampNeg = i := nI_clamp (by omega)
  have vi : vp_in (nI i) 32 := vp_in_nI hi (by omega)
  rcases ho with ⟨o, _, ey⟩ | ⟨o, ey⟩ | ⟨o, hx, ey⟩
  · refine ⟨vi, nm_r (e' := 5) (by rw [e, o]) (br_t rfl ⟨vi, ?_⟩)⟩
    rw [e, ea, ← ey]
    exact h
  · refine ⟨vi, nm_r (e' := 6) (by rw [e, o]) (br_f (by decide) (br_t rfl ⟨vi, ?_⟩))⟩
    rw [e, ea, nI_add, ← ey]
    exact h
  · refine ⟨vi, nm_r (e' := 7) (by rw [e, o]) (br_f (by decide) (br_f (by decide) ⟨vi, lx_al2 rfl (by rw [e, ea]) hx hd ?_⟩))⟩
    rw [← ey]
    exact h
theorem lx_md1 {post : Int32 → St2 → Prop} {ns no ng ni nb nr : Nat} {xphase xopenOut xopenGroup : Int32} {xregionSize xcounter xmemory xstmtOp xstmtA xstmtB xstmtOwner xoutRegion xoutLoaded xoutGroup xoutAlign xoutVma xoutLma xoutDot xgroupStart xgroupEnd xgroupResident xinKind xinId xinAlign xinSize xinFirstByte xinStmt xinLive xinVma xfedBytes xrelocOwner xrelocOffset xrelocType xrelocTarget xrelocAddend : Nat → Int32} {i c d x y : Nat} (hi : i < 32) (eox : xstmtOwner i = nI c) (hc : c < 8) (ed : xoutDot c = nI d) (ea : xstmtA i = nI x) (hx : x ≤ 1023) (hd : d < 2 ^ 30) (ho : (xstmtOp i = 5 ∧ d ≤ x ∧ y = x) ∨ (xstmtOp i = 6 ∧ y = d + x) ∨ (xstmtOp i = 7 ∧ lk_A x ∧ y = lk_al d x)) (h : post 1 (xphase, (nI ns), xopenOut, xopenGroup, (nI no), (nI ng), (nI ni), (nI nb), (nI nr), xregionSize, xcounter, xmemory, xstmtOp, xstmtA, xstmtB, xstmtOwner, xoutRegion, xoutLoaded, xoutGroup, xoutAlign, xoutVma, xoutLma, (upd xoutDot c (nI y)), xgroupStart, xgroupEnd, xgroupResident, xinKind, xinId, xinAlign, xinSize, xinFirstByte, xinStmt, xinLive, xinVma, xfedBytes, xrelocOwner, xrelocOffset, xrelocType, xrelocTarget, xrelocAddend)) : wX_place_125 post (nI i) xphase (nI ns) xopenOut xopenGroup (nI no) (nI ng) (nI ni) (nI nb) (nI nr) xregionSize xcounter xmemory xstmtOp xstmtA xstmtB xstmtOwner xoutRegion xoutLoaded xoutGroup xoutAlign xoutVma xoutLma xoutDot xgroupStart xgroupEnd xgroupResident xinKind xinId xinAlign xinSize xinFirstByte xinStmt xinLive xinVma xfedBytes xrelocOwner xrelocOffset xrelocType xrelocTarget xrelocAddend := by
  have e : (nI i).toNatClampNeg = i := nI_clamp (by omega)
  have vi : vp_in (nI i) 32 := vp_in_nI hi (by omega)
  have ec : (nI c).toNatClampNeg = c := nI_clamp (by omega)
  have vc : vp_in (nI c) 8 := vp_in_nI hc (by omega)
  have ed' : xoutDot (nI c).toNatClampNeg = nI d := by rw [ec, ed]
  have nc : ¬ nI c = -1 := lk_nn1 (by omega)
  refine ⟨vi, nm_r (e' := nI c) (by rw [e, eox]) (br_f nc ⟨vc, vi, ?_⟩)⟩
  rw [ed']
  by_cases o5 : xstmtOp (nI i).toNatClampNeg = 5
  · refine br_t o5 ⟨vi, br_t ?_ (lx_mv hi ea hd ho (br_f nc ⟨vc, nm_r (by rw [ec]) ⟨rfl, h⟩⟩))⟩
    rw [e] at o5 ⊢
    rw [ea, nI_leI (by omega) (by omega)]
    rcases ho with ⟨_, z, _⟩ | ⟨z, _⟩ | ⟨z, _⟩
    · exact z
    · rw [o5] at z; exact absurd z (by decide)
    · rw [o5] at z; exact absurd z (by decide)
  · exact br_f o5 (lx_mv hi ea hd ho (br_f nc ⟨vc, nm_r (by rw [ec]) ⟨rfl, h⟩⟩))
theorem lx_md0 {post : Int32 → St2 → Prop} {ns no ng ni nb nr : Nat} {xphase xopenOut xopenGroup : Int32} {xregionSize xcounter xmemory xstmtOp xstmtA xstmtB xstmtOwner xoutRegion xoutLoaded xoutGroup xoutAlign xoutVma xoutLma xoutDot xgroupStart xgroupEnd xgroupResident xinKind xinId xinAlign xinSize xinFirstByte xinStmt xinLive xinVma xfedBytes xrelocOwner xrelocOffset xrelocType xrelocTarget xrelocAddend : Nat → Int32} {i r d x y : Nat} (hi : i < 32) (eox : xstmtOwner i = -1) (hr : r < 2) (eb : xstmtB i = nI r) (ed : xcounter r = nI d) (ea : xstmtA i = nI x) (hx : x ≤ 1023) (hd : d < 2 ^ 30) (ho : (xstmtOp i = 5 ∧ d ≤ x ∧ y = x) ∨ (xstmtOp i = 6 ∧ y = d + x) ∨ (xstmtOp i = 7 ∧ lk_A x ∧ y = lk_al d x)) (h : post 1 (xphase, (nI ns), xopenOut, xopenGroup, (nI no), (nI ng), (nI ni), (nI nb), (nI nr), xregionSize, (upd xcounter r (nI y)), xmemory, xstmtOp, xstmtA, xstmtB, xstmtOwner, xoutRegion, xoutLoaded, xoutGroup, xoutAlign, xoutVma, xoutLma, xoutDot, xgroupStart, xgroupEnd, xgroupResident, xinKind, xinId, xinAlign, xinSize, xinFirstByte, xinStmt, xinLive, xinVma, xfedBytes, xrelocOwner, xrelocOffset, xrelocType, xrelocTarget, xrelocAddend)) : wX_place_125 post (nI i) xphase (nI ns) xopenOut xopenGroup (nI no) (nI ng) (nI ni) (nI nb) (nI nr) xregionSize xcounter xmemory xstmtOp xstmtA xstmtB xstmtOwner xoutRegion xoutLoaded xoutGroup xoutAlign xoutVma xoutLma xoutDot xgroupStart xgroupEnd xgroupResident xinKind xinId xinAlign xinSize xinFirstByte xinStmt xinLive xinVma xfedBytes xrelocOwner xrelocOffset xrelocType xrelocTarget xrelocAddend := by
  have e : (nI i).toNatClampNeg = i := nI_clamp (by omega)
  have vi : vp_in (nI i) 32 := vp_in_nI hi (by omega)
  have er : (nI r).toNatClampNeg = r := nI_clamp (by omega)
  have vr : vp_in (xstmtB (nI i).toNatClampNeg) 2 := by rw [e, eb]; exact vp_in_nI hr (by omega)
  have ed' : xcounter (xstmtB (nI i).toNatClampNeg).toNatClampNeg = nI d := by rw [e, eb, er, ed]
  refine ⟨vi, nm_r (e' := -1) (by rw [e, eox]) (br_t rfl ⟨vi, vr, vi, ?_⟩)⟩
  rw [ed']
  by_cases o5 : xstmtOp (nI i).toNatClampNeg = 5
  · refine br_t o5 ⟨vi, br_t ?_ (lx_mv hi ea hd ho (br_t rfl ⟨vi, vr, nm_r (by rw [e, eb, er]) ⟨rfl, h⟩⟩))⟩
    rw [e] at o5 ⊢
    rw [ea, nI_leI (by omega) (by omega)]
    rcases ho with ⟨_, z, _⟩ | ⟨z, _⟩ | ⟨z, _⟩
    · exact z
    · rw [o5] at z; exact absurd z (by decide)
    · rw [o5] at z; exact absurd z (by decide)
  · exact br_f o5 (lx_mv hi ea hd ho (br_t rfl ⟨vi, vr, nm_r (by rw [e, eb, er]) ⟨rfl, h⟩⟩))
theorem lx_b1 {post : Int32 → St2 → Prop} {ns no ng ni nb nr : Nat} {xphase xopenOut xopenGroup : Int32} {xregionSize xcounter xmemory xstmtOp xstmtA xstmtB xstmtOwner xoutRegion xoutLoaded xoutGroup xoutAlign xoutVma xoutLma xoutDot xgroupStart xgroupEnd xgroupResident xinKind xinId xinAlign xinSize xinFirstByte xinStmt xinLive xinVma xfedBytes xrelocOwner xrelocOffset xrelocType xrelocTarget xrelocAddend : Nat → Int32} {i c d x : Nat} (hi : i < 32) (eox : xstmtOwner i = nI c) (hc : c < 8) (ed : xoutDot c = nI d) (ea : xstmtA i = nI x) (hx : x < d) (hd : d < 2 ^ 30) (o : xstmtOp i = 5) (h : post 0 (xphase, (nI ns), xopenOut, xopenGroup, (nI no), (nI ng), (nI ni), (nI nb), (nI nr), xregionSize, xcounter, xmemory, xstmtOp, xstmtA, xstmtB, xstmtOwner, xoutRegion, xoutLoaded, xoutGroup, xoutAlign, xoutVma, xoutLma, xoutDot, xgroupStart, xgroupEnd, xgroupResident, xinKind, xinId, xinAlign, xinSize, xinFirstByte, xinStmt, xinLive, xinVma, xfedBytes, xrelocOwner, xrelocOffset, xrelocType, xrelocTarget, xrelocAddend)) : wX_place_125 post (nI i) xphase (nI ns) xopenOut xopenGroup (nI no) (nI ng) (nI ni) (nI nb) (nI nr) xregionSize xcounter xmemory xstmtOp xstmtA xstmtB xstmtOwner xoutRegion xoutLoaded xoutGroup xoutAlign xoutVma xoutLma xoutDot xgroupStart xgroupEnd xgroupResident xinKind xinId xinAlign xinSize xinFirstByte xinStmt xinLive xinVma xfedBytes xrelocOwner xrelocOffset xrelocType xrelocTarget xrelocAddend := by
  have e : (nI i).toNatClampNeg = i := nI_clamp (by omega)
  have vi : vp_in (nI i) 32 := vp_in_nI hi (by omega)
  have ec : (nI c).toNatClampNeg = c := nI_clamp (by omega)
  have vc : vp_in (nI c) 8 := vp_in_nI hc (by omega)
  refine ⟨vi, nm_r (e' := nI c) (by rw [e, eox]) (br_f (lk_nn1 (by omega)) ⟨vc, vi, br_t (by rw [e, o]) ⟨vi, br_f ?_ ⟨rfl, h⟩⟩⟩)⟩
  rw [ec, ed, e, ea]
  exact nI_ge hx (by omega)
theorem lx_b0 {post : Int32 → St2 → Prop} {ns no ng ni nb nr : Nat} {xphase xopenOut xopenGroup : Int32} {xregionSize xcounter xmemory xstmtOp xstmtA xstmtB xstmtOwner xoutRegion xoutLoaded xoutGroup xoutAlign xoutVma xoutLma xoutDot xgroupStart xgroupEnd xgroupResident xinKind xinId xinAlign xinSize xinFirstByte xinStmt xinLive xinVma xfedBytes xrelocOwner xrelocOffset xrelocType xrelocTarget xrelocAddend : Nat → Int32} {i r d x : Nat} (hi : i < 32) (eox : xstmtOwner i = -1) (hr : r < 2) (eb : xstmtB i = nI r) (ed : xcounter r = nI d) (ea : xstmtA i = nI x) (hx : x < d) (hd : d < 2 ^ 30) (o : xstmtOp i = 5) (h : post 0 (xphase, (nI ns), xopenOut, xopenGroup, (nI no), (nI ng), (nI ni), (nI nb), (nI nr), xregionSize, xcounter, xmemory, xstmtOp, xstmtA, xstmtB, xstmtOwner, xoutRegion, xoutLoaded, xoutGroup, xoutAlign, xoutVma, xoutLma, xoutDot, xgroupStart, xgroupEnd, xgroupResident, xinKind, xinId, xinAlign, xinSize, xinFirstByte, xinStmt, xinLive, xinVma, xfedBytes, xrelocOwner, xrelocOffset, xrelocType, xrelocTarget, xrelocAddend)) : wX_place_125 post (nI i) xphase (nI ns) xopenOut xopenGroup (nI no) (nI ng) (nI ni) (nI nb) (nI nr) xregionSize xcounter xmemory xstmtOp xstmtA xstmtB xstmtOwner xoutRegion xoutLoaded xoutGroup xoutAlign xoutVma xoutLma xoutDot xgroupStart xgroupEnd xgroupResident xinKind xinId xinAlign xinSize xinFirstByte xinStmt xinLive xinVma xfedBytes xrelocOwner xrelocOffset xrelocType xrelocTarget xrelocAddend := by
  have e : (nI i).toNatClampNeg = i := nI_clamp (by omega)
  have vi : vp_in (nI i) 32 := vp_in_nI hi (by omega)
  have er : (nI r).toNatClampNeg = r := nI_clamp (by omega)
  have vr : vp_in (xstmtB (nI i).toNatClampNeg) 2 := by rw [e, eb]; exact vp_in_nI hr (by omega)
  refine ⟨vi, nm_r (e' := -1) (by rw [e, eox]) (br_t rfl ⟨vi, vr, vi, br_t (by rw [e, o]) ⟨vi, br_f ?_ ⟨rfl, h⟩⟩⟩)⟩
  rw [e, eb, er, ed, ea]
  exact nI_ge hx (by omega)
end
