
section
theorem lx_fill3 {post : St2 → Prop} {xphase xstmtCount xopenOut xopenGroup xoutCount xgroupCount xinCount xbyteCount xrelocCount : Int32} {xregionSize xcounter xmemory xstmtOp xstmtA xstmtB xstmtOwner xoutRegion xoutLoaded xoutGroup xoutAlign xoutVma xoutLma xoutDot xgroupStart xgroupEnd xgroupResident xinKind xinId xinAlign xinSize xinFirstByte xinStmt xinLive xinVma xfedBytes xrelocOwner xrelocOffset xrelocType xrelocTarget xrelocAddend : Nat → Int32} {s e : Nat} {v z w : Int32} (hz : z = nI s) (hw : w = nI e) (he : e ≤ s ∨ e ≤ 384) (hs : s < 2 ^ 31) (h : post (xphase, xstmtCount, xopenOut, xopenGroup, xoutCount, xgroupCount, xinCount, xbyteCount, xrelocCount, xregionSize, xcounter, (lk_wr xmemory s e (fun _ => v)), xstmtOp, xstmtA, xstmtB, xstmtOwner, xoutRegion, xoutLoaded, xoutGroup, xoutAlign, xoutVma, xoutLma, xoutDot, xgroupStart, xgroupEnd, xgroupResident, xinKind, xinId, xinAlign, xinSize, xinFirstByte, xinStmt, xinLive, xinVma, xfedBytes, xrelocOwner, xrelocOffset, xrelocType, xrelocTarget, xrelocAddend)) : wpX_fill post (xphase, xstmtCount, xopenOut, xopenGroup, xoutCount, xgroupCount, xinCount, xbyteCount, xrelocCount, xregionSize, xcounter, xmemory, xstmtOp, xstmtA, xstmtB, xstmtOwner, xoutRegion, xoutLoaded, xoutGroup, xoutAlign, xoutVma, xoutLma, xoutDot, xgroupStart, xgroupEnd, xgroupResident, xinKind, xinId, xinAlign, xinSize, xinFirstByte, xinStmt, xinLive, xinVma, xfedBytes, xrelocOwner, xrelocOffset, xrelocType, xrelocTarget, xrelocAddend) z w v := by
  rcases he with c | c
  · subst hz
    subst hw
    rw [lk_wr_e c] at h
    exact ⟨1, br_t (nI_le c hs) h⟩
  · exact lx_fill2 hz hw c hs h
theorem lx_ib {post : Int32 → Prop} {ns no ng ni nb nr : Nat} {xphase xopenOut xopenGroup : Int32} {xregionSize xcounter xmemory xstmtOp xstmtA xstmtB xstmtOwner xoutRegion xoutLoaded xoutGroup xoutAlign xoutVma xoutLma xoutDot xgroupStart xgroupEnd xgroupResident xinKind xinId xinAlign xinSize xinFirstByte xinStmt xinLive xinVma xfedBytes xrelocOwner xrelocOffset xrelocType xrelocTarget xrelocAddend : Nat → Int32} {k x l v : Nat} (hk : k < 8) (ev : xoutVma k = nI v) (el : xoutLma k = nI l) (hv : v ≤ x) (hl : xoutLoaded k = 1 → l + (x - v) < 384) (h : post (if xoutLoaded k = 1 then xmemory (l + (x - v)) else 0)) : wpX_imageByte post (xphase, (nI ns), xopenOut, xopenGroup, (nI no), (nI ng), (nI ni), (nI nb), (nI nr), xregionSize, xcounter, xmemory, xstmtOp, xstmtA, xstmtB, xstmtOwner, xoutRegion, xoutLoaded, xoutGroup, xoutAlign, xoutVma, xoutLma, xoutDot, xgroupStart, xgroupEnd, xgroupResident, xinKind, xinId, xinAlign, xinSize, xinFirstByte, xinStmt, xinLive, xinVma, xfedBytes, xrelocOwner, xrelocOffset, xrelocType, xrelocTarget, xrelocAddend) (nI k) (nI x) := by
  have e : (nI k).toNatClampNeg = k := nI_clamp (by omega)
  have v8 : vp_in (nI k) 8 := vp_in_nI hk (by omega)
  refine ⟨v8, ?_⟩
  by_cases a : xoutLoaded k = 1
  · have hb := hl a
    have ex : xoutLma (nI k).toNatClampNeg + nI x - xoutVma (nI k).toNatClampNeg = nI (l + (x - v)) := by rw [e, el, ev, nI_add, pk_sub (by omega), show l + x - v = l + (x - v) by omega]
    rw [if_pos a] at h
    refine br_t (by rw [e]; exact a) ⟨v8, v8, by rw [ex]; exact vp_in_nI hb (by omega), ?_⟩
    rw [ex, nI_clamp (by omega)]
    exact h
  · rw [if_neg a] at h
    exact br_f (by rw [e]; exact a) h
theorem lx_ini {post : St2 → Prop} {ns no ng ni nb nr : Nat} {xphase xopenOut xopenGroup : Int32} {xregionSize xcounter xmemory xstmtOp xstmtA xstmtB xstmtOwner xoutRegion xoutLoaded xoutGroup xoutAlign xoutVma xoutLma xoutDot xgroupStart xgroupEnd xgroupResident xinKind xinId xinAlign xinSize xinFirstByte xinStmt xinLive xinVma xfedBytes xrelocOwner xrelocOffset xrelocType xrelocTarget xrelocAddend : Nat → Int32} {k v d l : Nat} (hk : k < 8) (ev : xoutVma k = nI v) (ed : xoutDot k = nI d) (el : xoutLma k = nI l) (hvd : v ≤ d) (h256 : 256 ≤ v) (hd : d ≤ 384) (hl : xoutLoaded k = 1 → l + (d - v) ≤ 128) (h : post (xphase, (nI ns), xopenOut, xopenGroup, (nI no), (nI ng), (nI ni), (nI nb), (nI nr), xregionSize, xcounter, (lk_wr xmemory v d (fun j => if xoutLoaded k = 1 then xmemory (l + (j - v)) else 0)), xstmtOp, xstmtA, xstmtB, xstmtOwner, xoutRegion, xoutLoaded, xoutGroup, xoutAlign, xoutVma, xoutLma, xoutDot, xgroupStart, xgroupEnd, xgroupResident, xinKind, xinId, xinAlign, xinSize, xinFirstByte, xinStmt, xinLive, xinVma, xfedBytes, xrelocOwner, xrelocOffset, xrelocType, xrelocTarget, xrelocAddend)) : wpX_initialise post (xphase, (nI ns), xopenOut, xopenGroup, (nI no), (nI ng), (nI ni), (nI nb), (nI nr), xregionSize, xcounter, xmemory, xstmtOp, xstmtA, xstmtB, xstmtOwner, xoutRegion, xoutLoaded, xoutGroup, xoutAlign, xoutVma, xoutLma, xoutDot, xgroupStart, xgroupEnd, xgroupResident, xinKind, xinId, xinAlign, xinSize, xinFirstByte, xinStmt, xinLive, xinVma, xfedBytes, xrelocOwner, xrelocOffset, xrelocType, xrelocTarget, xrelocAddend) (nI k) := by
  have e : (nI k).toNatClampNeg = k := nI_clamp (by omega)
  have v8 : vp_in (nI k) 8 := vp_in_nI hk (by omega)
  have H : ∀ c x, x + c = d → v ≤ x → wX_initialise_14 post (nI k) (nI d) xphase (nI ns) xopenOut xopenGroup (nI no) (nI ng) (nI ni) (nI nb) (nI nr) (c + 1) (nI x) xregionSize xcounter (lk_wr xmemory v x (fun j => if xoutLoaded k = 1 then xmemory (l + (j - v)) else 0)) xstmtOp xstmtA xstmtB xstmtOwner xoutRegion xoutLoaded xoutGroup xoutAlign xoutVma xoutLma xoutDot xgroupStart xgroupEnd xgroupResident xinKind xinId xinAlign xinSize xinFirstByte xinStmt xinLive xinVma xfedBytes xrelocOwner xrelocOffset xrelocType xrelocTarget xrelocAddend := by
    intro c
    induction c with
    | zero =>
      intro x hx _
      have e1 : x = d := hx
      subst e1
      exact br_t (nI_le (by omega) (by omega)) h
    | succ c ih =>
      intro x hx hvx
      refine br_f (nI_ge (by omega) (by omega)) (lx_ib hk ev el hvx (fun a => by have := hl a; omega) ⟨vp_in_nI (by omega) (by omega), nm_r ?_ (nm_r (nI_1 x) (ih (x + 1) (by omega) (by omega)))⟩)
      rw [nI_clamp (by omega)]
      refine lk_wr_s hvx ?_
      by_cases a : xoutLoaded k = 1
      · have hb := hl a
        rw [if_pos a, if_pos a, lk_wr_f (by omega)]
      · rw [if_neg a, if_neg a]
  have H2 := H (d - v) v (by omega) (Nat.le_refl v)
  rw [lk_wr_0] at H2
  exact ⟨v8, nm_r (e' := nI d) (by rw [e, ed]) ⟨v8, nm_r (e' := nI v) (by rw [e, ev]) ⟨_, H2⟩⟩⟩
theorem lx_cov {post : Int32 → Prop} {ns no ng ni nb nr : Nat} {xphase xopenOut xopenGroup : Int32} {xregionSize xcounter xmemory xstmtOp xstmtA xstmtB xstmtOwner xoutRegion xoutLoaded xoutGroup xoutAlign xoutVma xoutLma xoutDot xgroupStart xgroupEnd xgroupResident xinKind xinId xinAlign xinSize xinFirstByte xinStmt xinLive xinVma xfedBytes xrelocOwner xrelocOffset xrelocType xrelocTarget xrelocAddend : Nat → Int32} {k x v d : Nat} (hk : k < 8) (hx : x < 2 ^ 30) (hd : d < 2 ^ 30) (hv : v < 2 ^ 30) (ev : xoutVma k = nI v) (ed : xoutDot k = nI d) (h1 : v ≤ x → x < d → post 1) (h0 : ¬ (v ≤ x ∧ x < d) → post 0) : wpX_covers post (xphase, (nI ns), xopenOut, xopenGroup, (nI no), (nI ng), (nI ni), (nI nb), (nI nr), xregionSize, xcounter, xmemory, xstmtOp, xstmtA, xstmtB, xstmtOwner, xoutRegion, xoutLoaded, xoutGroup, xoutAlign, xoutVma, xoutLma, xoutDot, xgroupStart, xgroupEnd, xgroupResident, xinKind, xinId, xinAlign, xinSize, xinFirstByte, xinStmt, xinLive, xinVma, xfedBytes, xrelocOwner, xrelocOffset, xrelocType, xrelocTarget, xrelocAddend) (nI k) (nI x) := by
  have e : (nI k).toNatClampNeg = k := nI_clamp (by omega)
  have v8 : vp_in (nI k) 8 := vp_in_nI hk (by omega)
  refine ⟨v8, ?_⟩
  by_cases a : v ≤ x
  · refine br_f (by rw [e, ev]; exact nI_nlt a (by omega)) ⟨v8, ?_⟩
    by_cases b : x < d
    · exact br_f (by rw [e, ed]; exact nI_ge b (by omega)) (h1 a b)
    · exact br_t (by rw [e, ed]; exact nI_le (by omega) (by omega)) (h0 (fun z => b z.2))
  · exact br_t (by rw [e, ev]; exact nI_lt (by omega) (by omega)) (h0 (fun z => a z.1))
end
