
section
/-! V: alignment, the greatest alignment, sizes -/
theorem lx_al {post : Int32 → Prop} {x m : Nat} (hA : lk_A m) (hx : x < 2 ^ 30) (h : post (nI (lk_al x m))) : wpX_alignUp post (nI x) (nI m) := by
  unfold wpX_alignUp
  rw [lk_alX hA hx]
  exact h
theorem ly_al {post : Int32 → Prop} {yromSize yramSize yphase ynStmts ynOuts ynGroups ynIns ynBytes ynRelocs yopenOut yinGroup ycur yfinalC0 yfinalC1 : Int32} {ystOp ystA ystB ystOut youtReg youtLoaded youtGroup youtVma youtLma youtSize youtAlign youtRes ygStart ygEnd yinKind yinId yinAlign yinBss yinStart yinLen yinStmt yinLive yinVma yinLma ybytes yrSec yrOff yrType yrTgt yrAdd yrom yram : Nat → Int32} {x m : Nat} (hA : lk_A m) (hx : x < 2 ^ 30) (h : post (nI (lk_al x m))) : wpY_align post (yromSize, yramSize, yphase, ynStmts, ynOuts, ynGroups, ynIns, ynBytes, ynRelocs, yopenOut, yinGroup, ycur, yfinalC0, yfinalC1, ystOp, ystA, ystB, ystOut, youtReg, youtLoaded, youtGroup, youtVma, youtLma, youtSize, youtAlign, youtRes, ygStart, ygEnd, yinKind, yinId, yinAlign, yinBss, yinStart, yinLen, yinStmt, yinLive, yinVma, yinLma, ybytes, yrSec, yrOff, yrType, yrTgt, yrAdd, yrom, yram) (nI x) (nI m) := by
  have hb := lk_A_b hA
  have e := pk_rem (a := x) (d := m) (by omega) (by omega) (by omega)
  rw [lk_al_y hA] at h
  have h1 := Nat.mod_lt x (show 0 < m by omega)
  generalize x % m = r at e h h1
  refine br_t (nI_lt (a := 0) (by omega) (by omega)) ⟨nI_ne0 (by omega) (by omega), nm_r e (br_t (nI_pos' (by omega)) ?_)⟩
  by_cases c : r = 0
  · rw [if_pos c] at h
    exact br_t (by rw [c]; rfl) h
  · rw [if_neg c] at h
    refine br_f (nI_ne0 (by omega) (by omega)) ?_
    have e2 : nI x + nI m - nI r = nI (x + m - r) := by rw [nI_add, pk_sub (by omega)]
    rw [e2]
    exact h
def lk_gp (ow st lv : Nat → Int32) (k : Int32) (s : Nat) : Bool := decide (lv s = 1 ∧ ow (st s).toNatClampNeg = k)
theorem lx_ga {post : Int32 → Prop} {ns no ng ni nb nr : Nat} {xphase xopenOut xopenGroup : Int32} {xregionSize xcounter xmemory xstmtOp xstmtA xstmtB xstmtOwner xoutRegion xoutLoaded xoutGroup xoutAlign xoutVma xoutLma xoutDot xgroupStart xgroupEnd xgroupResident xinKind xinId xinAlign xinSize xinFirstByte xinStmt xinLive xinVma xfedBytes xrelocOwner xrelocOffset xrelocType xrelocTarget xrelocAddend : Nat → Int32} {oy : Nat → Int32} {k : Nat} (h16 : ni ≤ 16) (hl : lk_hl ni no ns xinStmt xinLive xstmtOwner oy) (h : post (lk_ga (lk_gp xstmtOwner xinStmt xinLive (nI k)) xinAlign ni)) : wpX_greatestAlign post (xphase, (nI ns), xopenOut, xopenGroup, (nI no), (nI ng), (nI ni), (nI nb), (nI nr), xregionSize, xcounter, xmemory, xstmtOp, xstmtA, xstmtB, xstmtOwner, xoutRegion, xoutLoaded, xoutGroup, xoutAlign, xoutVma, xoutLma, xoutDot, xgroupStart, xgroupEnd, xgroupResident, xinKind, xinId, xinAlign, xinSize, xinFirstByte, xinStmt, xinLive, xinVma, xfedBytes, xrelocOwner, xrelocOffset, xrelocType, xrelocTarget, xrelocAddend) (nI k) := by
  obtain ⟨l1, l2, l3⟩ := hl
  have H : ∀ d s, s + d = ni → wX_greatestAlign_4 post (nI k) xphase (nI ns) xopenOut xopenGroup (nI no) (nI ng) (nI ni) (nI nb) (nI nr) xregionSize xcounter xmemory xstmtOp xstmtA xstmtB xstmtOwner xoutRegion xoutLoaded xoutGroup xoutAlign xoutVma xoutLma xoutDot xgroupStart xgroupEnd xgroupResident xinKind xinId xinAlign xinSize xinFirstByte xinStmt xinLive xinVma xfedBytes xrelocOwner xrelocOffset xrelocType xrelocTarget xrelocAddend (d + 1) (lk_ga (lk_gp xstmtOwner xinStmt xinLive (nI k)) xinAlign s) (nI s) := by
    intro d
    induction d with
    | zero =>
      intro s hs
      have e1 : s = ni := hs
      subst e1
      exact br_t (nI_le (by omega) (by omega)) h
    | succ d ih =>
      intro s hs
      have e : (nI s).toNatClampNeg = s := nI_clamp (by omega)
      have v1 : vp_in (nI s) 16 := vp_in_nI (by omega) (by omega)
      have hi := ih (s + 1) (by omega)
      rw [lk_ga_s] at hi
      refine br_f (nI_ge (by omega) (by omega)) ⟨v1, ?_⟩
      by_cases a : xinLive (nI s).toNatClampNeg = 1
      · obtain ⟨q, k2, hq, eq, hk, ek, _⟩ := l3 s (by omega) (by rw [e] at a; exact a)
        have v2 : vp_in (xinStmt (nI s).toNatClampNeg) 32 := by rw [e, eq]; exact vp_in_nI (by omega) (by omega)
        refine br_t a ⟨v1, v2, ?_⟩
        by_cases b : xstmtOwner (xinStmt (nI s).toNatClampNeg).toNatClampNeg = nI k
        · refine br_t b ⟨v1, ?_⟩
          by_cases c : xinAlign (nI s).toNatClampNeg ≤ lk_ga (lk_gp xstmtOwner xinStmt xinLive (nI k)) xinAlign s
          · refine br_t c (nm_r (nI_1 s) ?_)
            rw [e] at c
            rw [if_neg (fun y => Int32.not_lt.mpr c y.2)] at hi
            exact hi
          · refine br_f c ⟨v1, nm_r ?_ (nm_r (nI_1 s) hi)⟩
            rw [e] at a b c ⊢
            exact (if_pos ⟨decide_eq_true ⟨a, b⟩, Int32.not_le.mp c⟩).symm
        · refine br_f b (nm_r (nI_1 s) ?_)
          rw [e] at b
          rw [if_neg (fun y => b (of_decide_eq_true y.1).2)] at hi
          exact hi
      · refine br_f a (nm_r (nI_1 s) ?_)
        rw [e] at a
        rw [if_neg (fun y => a (of_decide_eq_true y.1).1)] at hi
        exact hi
  exact ⟨_, H ni 0 (by omega)⟩
theorem ly_ga {post : Int32 → Prop} {R0 R1 ns no ng ni nb nr : Nat} {yphase yopenOut yinGroup ycur yfinalC0 yfinalC1 : Int32} {ystOp ystA ystB ystOut youtReg youtLoaded youtGroup youtVma youtLma youtSize youtAlign youtRes ygStart ygEnd yinKind yinId yinAlign yinBss yinStart yinLen yinStmt yinLive yinVma yinLma ybytes yrSec yrOff yrType yrTgt yrAdd yrom yram : Nat → Int32} {ox : Nat → Int32} {k : Nat} (h16 : ni ≤ 16) (hl : lk_hl ni no ns yinStmt yinLive ox ystOut) (h : post (lk_ga (lk_gp ystOut yinStmt yinLive (nI k)) yinAlign ni)) : wpY_sectionAlign post ((nI R0), (nI R1), yphase, (nI ns), (nI no), (nI ng), (nI ni), (nI nb), (nI nr), yopenOut, yinGroup, ycur, yfinalC0, yfinalC1, ystOp, ystA, ystB, ystOut, youtReg, youtLoaded, youtGroup, youtVma, youtLma, youtSize, youtAlign, youtRes, ygStart, ygEnd, yinKind, yinId, yinAlign, yinBss, yinStart, yinLen, yinStmt, yinLive, yinVma, yinLma, ybytes, yrSec, yrOff, yrType, yrTgt, yrAdd, yrom, yram) (nI k) := by
  obtain ⟨l1, l2, l3⟩ := hl
  have H : ∀ d s, s + d = ni → wY_sectionAlign_4 post (nI k) (nI R0) (nI R1) yphase (nI ns) (nI no) (nI ng) (nI ni) (nI nb) (nI nr) yopenOut yinGroup ycur yfinalC0 yfinalC1 ystOp ystA ystB ystOut youtReg youtLoaded youtGroup youtVma youtLma youtSize youtAlign youtRes ygStart ygEnd yinKind yinId yinAlign yinBss yinStart yinLen yinStmt yinLive yinVma yinLma ybytes yrSec yrOff yrType yrTgt yrAdd yrom yram (d + 1) (lk_ga (lk_gp ystOut yinStmt yinLive (nI k)) yinAlign s) (nI s) := by
    intro d
    induction d with
    | zero =>
      intro s hs
      have e1 : s = ni := hs
      subst e1
      exact br_t (nI_le (by omega) (by omega)) h
    | succ d ih =>
      intro s hs
      have e : (nI s).toNatClampNeg = s := nI_clamp (by omega)
      have v1 : vp_in (nI s) 16 := vp_in_nI (by omega) (by omega)
      have hi := ih (s + 1) (by omega)
      rw [lk_ga_s] at hi
      refine br_f (nI_ge (by omega) (by omega)) (br_f (nI_ge (b := 16) (by omega) (by omega)) ⟨v1, ?_⟩)
      by_cases a : yinLive (nI s).toNatClampNeg = 1
      · obtain ⟨q, k2, hq, eq, hk, _, ek⟩ := l3 s (by omega) (by rw [e] at a; exact a)
        have v2 : vp_in (yinStmt (nI s).toNatClampNeg) 32 := by rw [e, eq]; exact vp_in_nI (by omega) (by omega)
        have v3 : ¬ yinStmt (nI s).toNatClampNeg < 0 := by rw [e, eq]; exact nI_pos (by omega)
        refine br_t a ⟨v1, br_f v3 ⟨v1, v2, ?_⟩⟩
        by_cases b : ystOut (yinStmt (nI s).toNatClampNeg).toNatClampNeg = nI k
        · refine br_t b ⟨v1, ?_⟩
          by_cases c : yinAlign (nI s).toNatClampNeg ≤ lk_ga (lk_gp ystOut yinStmt yinLive (nI k)) yinAlign s
          · refine br_t c (nm_r (nI_1 s) ?_)
            rw [e] at c
            rw [if_neg (fun y => Int32.not_lt.mpr c y.2)] at hi
            exact hi
          · refine br_f c ⟨v1, nm_r ?_ (nm_r (nI_1 s) hi)⟩
            rw [e] at a b c ⊢
            exact (if_pos ⟨decide_eq_true ⟨a, b⟩, Int32.not_le.mp c⟩).symm
        · refine br_f b (nm_r (nI_1 s) ?_)
          rw [e] at b
          rw [if_neg (fun y => b (of_decide_eq_true y.1).2)] at hi
          exact hi
      · refine br_f a (nm_r (nI_1 s) ?_)
        rw [e] at a
        rw [if_neg (fun y => a (of_decide_eq_true y.1).1)] at hi
        exact hi
  exact ⟨_, H ni 0 (by omega)⟩
theorem lk_ga_cg {p q : Nat → Bool} {al : Nat → Int32} : ∀ n, (∀ s, s < n → p s = q s) → lk_ga p al n = lk_ga q al n := by
  intro n
  induction n with
  | zero => intro _; rfl
  | succ n ih =>
    intro h
    rw [lk_ga_s, lk_ga_s, ih (fun s hs => h s (by omega)), h n (Nat.lt_succ_self n)]
theorem lk_gp_cg {ni no ns k : Nat} {st lv ox oy : Nat → Int32} (hl : lk_hl ni no ns st lv ox oy) : ∀ s, s < ni → lk_gp oy st lv (nI k) s = lk_gp ox st lv (nI k) s := by
  intro s hs
  unfold lk_gp
  by_cases a : lv s = 1
  · obtain ⟨q, k2, hq, eq, hk, ek, ek2⟩ := hl.2.2 s hs a
    have := hl.2.1
    rw [eq, nI_clamp (show q < 2 ^ 31 by omega), ek, ek2]
  · rw [decide_eq_false (fun y => a y.1), decide_eq_false (fun y => a y.1)]
/-- the open section's group -/
theorem lk_S_g {op sa sb ox oy rg ld gp : Nat → Int32} {ns : Nat} (h : ∀ i, i < ns → lk_sc op sa sb ox oy rg ld gp i) : ∀ i, i ≤ ns → lk_is op i = true → gp (lk_no op i - 1) = if lk_ig op i = true then nI (lk_ng op i - 1) else -1 := by
  intro i
  induction i with
  | zero => intro _ z; exact Bool.noConfusion z
  | succ i ih =>
    intro hi his
    have sc := h i (by omega)
    unfold lk_sc at sc
    have keep : ∀ c : Int32, op i = c → ¬ c = 1 → ¬ c = 2 → ¬ c = 8 → ¬ c = 9 → gp (lk_no op (i + 1) - 1) = if lk_ig op (i + 1) = true then nI (lk_ng op (i + 1) - 1) else -1 := by
      intro c ec n1 n2 n8 n9
      rw [lk_is_s, ec, if_neg n1, if_neg n2] at his
      rw [lk_no_s, lk_ig_s, lk_ng_s, ec, if_neg n1, if_neg n8, if_neg n9, if_neg n8]
      exact ih (by omega) his
    rcases sc with ⟨e, _, _, _, _, _, _, e3⟩ | ⟨e | e | e, _⟩ | ⟨e | e | e, _⟩ | ⟨e, h2, _⟩ | ⟨e, h2, _⟩
    · rw [lk_no_s, lk_ig_s, lk_ng_s, e, if_pos rfl, if_neg (show ¬ (1 : Int32) = 8 by decide), if_neg (show ¬ (1 : Int32) = 9 by decide), if_neg (show ¬ (1 : Int32) = 8 by decide), Nat.add_sub_cancel, Nat.add_zero]
      exact e3
    · rw [lk_is_s, e, if_neg (by decide), if_pos rfl] at his
      exact Bool.noConfusion his
    · exact keep 3 e (by decide) (by decide) (by decide) (by decide)
    · exact keep 4 e (by decide) (by decide) (by decide) (by decide)
    · exact keep 5 e (by decide) (by decide) (by decide) (by decide)
    · exact keep 6 e (by decide) (by decide) (by decide) (by decide)
    · exact keep 7 e (by decide) (by decide) (by decide) (by decide)
    · rw [lk_is_s, e, if_neg (by decide), if_neg (by decide), h2] at his
      exact Bool.noConfusion his
    · rw [lk_is_s, e, if_neg (by decide), if_neg (by decide), h2] at his
      exact Bool.noConfusion his
end
