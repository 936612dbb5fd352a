section
/-! Q: the constructor -/
theorem lx_fill {post : SX → Prop} {xphase xstmtCount xopenOut xopenGroup xoutCount xgroupCount xinCount xbyteCount xrelocCount : Int32} {xregionSize xcounter xmemory xstmtOp xstmtA xstmtB xstmtOwner xoutRegion xoutLoaded xoutGroup xoutAlign xoutVma xoutLma xoutDot xgroupStart xgroupEnd xgroupResident xinKind xinId xinAlign xinSize xinFirstByte xinStmt xinLive xinVma xfedBytes xrelocOwner xrelocOffset xrelocType xrelocTarget xrelocAddend : Nat → Int32} {s e : Nat} {v : Int32} (he : e ≤ 384) (hs : s < 2 ^ 31) (h : post (xphase, xstmtCount, xopenOut, xopenGroup, xoutCount, xgroupCount, xinCount, xbyteCount, xrelocCount, xregionSize, xcounter, (lk_wr xmemory s e (fun _ => v)), xstmtOp, xstmtA, xstmtB, xstmtOwner, xoutRegion, xoutLoaded, xoutGroup, xoutAlign, xoutVma, xoutLma, xoutDot, xgroupStart, xgroupEnd, xgroupResident, xinKind, xinId, xinAlign, xinSize, xinFirstByte, xinStmt, xinLive, xinVma, xfedBytes, xrelocOwner, xrelocOffset, xrelocType, xrelocTarget, xrelocAddend)) : wpX_fill post (xphase, xstmtCount, xopenOut, xopenGroup, xoutCount, xgroupCount, xinCount, xbyteCount, xrelocCount, xregionSize, xcounter, xmemory, xstmtOp, xstmtA, xstmtB, xstmtOwner, xoutRegion, xoutLoaded, xoutGroup, xoutAlign, xoutVma, xoutLma, xoutDot, xgroupStart, xgroupEnd, xgroupResident, xinKind, xinId, xinAlign, xinSize, xinFirstByte, xinStmt, xinLive, xinVma, xfedBytes, xrelocOwner, xrelocOffset, xrelocType, xrelocTarget, xrelocAddend) (nI s) (nI e) v := by
  by_cases c : e ≤ s
  · rw [lk_wr_e c] at h
    exact ⟨1, br_t (nI_le c hs) h⟩
  · have H : ∀ d x, x + d = e → s ≤ x → wX_fill_3 post (nI e) v xphase xstmtCount xopenOut xopenGroup xoutCount xgroupCount xinCount xbyteCount xrelocCount (d + 1) (nI x) xregionSize xcounter (lk_wr xmemory s x (fun _ => v)) xstmtOp xstmtA xstmtB xstmtOwner xoutRegion xoutLoaded xoutGroup xoutAlign xoutVma xoutLma xoutDot xgroupStart xgroupEnd xgroupResident xinKind xinId xinAlign xinSize xinFirstByte xinStmt xinLive xinVma xfedBytes xrelocOwner xrelocOffset xrelocType xrelocTarget xrelocAddend := by
      intro d
      induction d with
      | zero =>
        intro x hx _
        have e1 : x = e := hx
        subst e1
        exact br_t (nI_le (Nat.le_refl x) (by omega)) h
      | succ d ih =>
        intro x hx hsx
        exact br_f (nI_ge (by omega) (by omega)) ⟨vp_in_nI (by omega) (by omega), nm_r (by rw [nI_clamp (by omega)]; exact lk_wr_s hsx rfl) (nm_r (nI_1 x) (ih (x + 1) (by omega) (by omega)))⟩
    have H2 := H (e - s) s (by omega) (Nat.le_refl s)
    rw [lk_wr_0] at H2
    exact ⟨_, H2⟩
theorem lk_cl (x : Int32) : ∃ n : Nat, 16 ≤ n ∧ n ≤ 128 ∧ ((16 ≤ x ∧ x ≤ 128 ∧ x = nI n) ∨ (16 ≤ x ∧ ¬ x ≤ 128 ∧ n = 128) ∨ (¬ 16 ≤ x ∧ n = 16)) := by
  by_cases h1 : 16 ≤ x
  · by_cases h2 : x ≤ 128
    · have h0 : ¬ x < 0 := Int32.not_lt.mpr (Int32.le_trans (by decide) h1)
      obtain ⟨q, hq, e⟩ := nI_of2 (M := 128) (n := 128) (by decide) h0 h2
      refine ⟨q, ?_, hq, Or.inl ⟨h1, h2, e⟩⟩
      rw [e, show (16 : Int32) = nI 16 from rfl, nI_leI (by omega) (by omega)] at h1
      exact h1
    · exact ⟨128, by omega, by omega, Or.inr (Or.inl ⟨h1, h2, rfl⟩)⟩
  · exact ⟨16, by omega, by omega, Or.inr (Or.inr ⟨h1, rfl⟩)⟩
theorem lx_cl {post : Int32 → Prop} {x : Int32} {n : Nat} (h : (16 ≤ x ∧ x ≤ 128 ∧ x = nI n) ∨ (16 ≤ x ∧ ¬ x ≤ 128 ∧ n = 128) ∨ (¬ 16 ≤ x ∧ n = 16)) (p : post (nI n)) : wpX_clampedSize post x := by
  rcases h with ⟨h1, h2, e⟩ | ⟨h1, h2, e⟩ | ⟨h1, e⟩
  · rw [← e] at p
    exact br_t h1 (br_t h2 p)
  · rw [e] at p
    exact br_t h1 (br_f h2 p)
  · rw [e] at p
    exact br_f h1 p
theorem ly_loop {post : SY → Prop} {yromSize yramSize yphase ynStmts ynOuts ynGroups ynIns ynBytes ynRelocs yopenOut yinGroup ycur yfinalC0 yfinalC1 : Int32} {ystOp ystA ystB ystOut youtReg youtLoaded youtGroup youtVma youtLma youtSize youtAlign youtRes ygStart ygEnd yinKind yinId yinAlign yinBss yinStart yinLen yinStmt yinLive yinVma yinLma ybytes yrSec yrOff yrType yrTgt yrAdd yrom yram : Nat → Int32} (h : post (yromSize, yramSize, yphase, ynStmts, ynOuts, ynGroups, ynIns, ynBytes, ynRelocs, yopenOut, yinGroup, ycur, yfinalC0, yfinalC1, ystOp, ystA, ystB, ystOut, youtReg, youtLoaded, youtGroup, youtVma, youtLma, youtSize, youtAlign, youtRes, ygStart, ygEnd, yinKind, yinId, yinAlign, yinBss, yinStart, yinLen, yinStmt, yinLive, yinVma, yinLma, ybytes, yrSec, yrOff, yrType, yrTgt, yrAdd, (lk_wr yrom 0 128 (fun _ => 255)), (lk_wr yram 0 128 (fun _ => 255)))) : ∃ n, wY_init_336 post yromSize yramSize yphase ynStmts ynOuts ynGroups ynIns ynBytes ynRelocs yopenOut yinGroup ycur yfinalC0 yfinalC1 n 0 ystOp ystA ystB ystOut youtReg youtLoaded youtGroup youtVma youtLma youtSize youtAlign youtRes ygStart ygEnd yinKind yinId yinAlign yinBss yinStart yinLen yinStmt yinLive yinVma yinLma ybytes yrSec yrOff yrType yrTgt yrAdd yrom yram := by
  have H : ∀ d x, x + d = 128 → wY_init_336 post yromSize yramSize yphase ynStmts ynOuts ynGroups ynIns ynBytes ynRelocs yopenOut yinGroup ycur yfinalC0 yfinalC1 (d + 1) (nI x) ystOp ystA ystB ystOut youtReg youtLoaded youtGroup youtVma youtLma youtSize youtAlign youtRes ygStart ygEnd yinKind yinId yinAlign yinBss yinStart yinLen yinStmt yinLive yinVma yinLma ybytes yrSec yrOff yrType yrTgt yrAdd (lk_wr yrom 0 x (fun _ => 255)) (lk_wr yram 0 x (fun _ => 255)) := by
    intro d
    induction d with
    | zero =>
      intro x hx
      have e1 : x = 128 := hx
      subst e1
      exact br_t (nI_le (a := 128) (b := 128) (by omega) (by omega)) h
    | succ d ih =>
      intro x hx
      exact br_f (nI_ge (b := 128) (by omega) (by omega)) ⟨vp_in_nI (by omega) (by omega), nm_r (by rw [nI_clamp (by omega)]; exact lk_wr_s (Nat.zero_le x) rfl) ⟨vp_in_nI (by omega) (by omega), nm_r (by rw [nI_clamp (by omega)]; exact lk_wr_s (Nat.zero_le x) rfl) (nm_r (nI_1 x) (ih (x + 1) (by omega)))⟩⟩
  have H2 := H 128 0 rfl
  rw [lk_wr_0, lk_wr_0, nI_0] at H2
  exact ⟨_, H2⟩
theorem ly_297 {post : SY → Prop} {z0 x : Int32} {n : Nat} {yromSize yramSize yphase ynStmts ynOuts ynGroups ynIns ynBytes ynRelocs yopenOut yinGroup ycur yfinalC0 yfinalC1 : Int32} {ystOp ystA ystB ystOut youtReg youtLoaded youtGroup youtVma youtLma youtSize youtAlign youtRes ygStart ygEnd yinKind yinId yinAlign yinBss yinStart yinLen yinStmt yinLive yinVma yinLma ybytes yrSec yrOff yrType yrTgt yrAdd yrom yram : Nat → Int32} (h : (16 ≤ x ∧ x ≤ 128 ∧ x = nI n) ∨ (16 ≤ x ∧ ¬ x ≤ 128 ∧ n = 128) ∨ (¬ 16 ≤ x ∧ n = 16)) (p : post (z0, (nI n), 0, ynStmts, ynOuts, ynGroups, ynIns, ynBytes, ynRelocs, yopenOut, yinGroup, ycur, yfinalC0, yfinalC1, ystOp, ystA, ystB, ystOut, youtReg, youtLoaded, youtGroup, youtVma, youtLma, youtSize, youtAlign, youtRes, ygStart, ygEnd, yinKind, yinId, yinAlign, yinBss, yinStart, yinLen, yinStmt, yinLive, yinVma, yinLma, ybytes, yrSec, yrOff, yrType, yrTgt, yrAdd, (lk_wr yrom 0 128 (fun _ => 255)), (lk_wr yram 0 128 (fun _ => 255)))) : wY_init_297 post x z0 yromSize yramSize yphase ynStmts ynOuts ynGroups ynIns ynBytes ynRelocs yopenOut yinGroup ycur yfinalC0 yfinalC1 ystOp ystA ystB ystOut youtReg youtLoaded youtGroup youtVma youtLma youtSize youtAlign youtRes ygStart ygEnd yinKind yinId yinAlign yinBss yinStart yinLen yinStmt yinLive yinVma yinLma ybytes yrSec yrOff yrType yrTgt yrAdd yrom yram := by
  rcases h with ⟨h1, h2, e⟩ | ⟨h1, h2, e⟩ | ⟨h1, e⟩
  · rw [← e] at p
    exact br_t h1 (br_t h2 (ly_loop p))
  · rw [e] at p
    exact br_t h1 (br_f h2 (ly_loop p))
  · rw [e] at p
    exact br_f h1 (ly_loop p)
theorem i_vc0 (k0 : Int32) (k1 : Int32) : wpX_init (fun u => wpY_init (fun v => i_Rel 2 u v) k0 k1) k0 k1 := by
  obtain ⟨R0, a1, a2, a3⟩ := lk_cl k0
  obtain ⟨R1, b1, b2, b3⟩ := lk_cl k1
  have em : nI 0 - 1 = -1 := by decide
  have hw : ∀ j, j < 128 → lk_wr (fun _ => (0 : Int32)) 0 128 (fun _ => 255) j = 255 := fun j hj => lk_wr_t (Nat.zero_le j) hj
  have hx : ∀ j, j < 384 → lk_wr (fun _ => (0 : Int32)) 0 384 (fun _ => 255) j = 255 := fun j hj => lk_wr_t (Nat.zero_le j) hj
  have K : i_Rel 2 (0, 0, -1, -1, 0, 0, 0, 0, 0, upd (upd (fun _ => 0) 0 (nI R0)) 1 (nI R1), fun _ => 0, lk_wr (fun _ => 0) 0 384 (fun _ => 255), fun _ => 0, fun _ => 0, fun _ => 0, fun _ => 0, fun _ => 0, fun _ => 0, fun _ => 0, fun _ => 0, fun _ => 0, fun _ => 0, fun _ => 0, fun _ => 0, fun _ => 0, fun _ => 0, fun _ => 0, fun _ => 0, fun _ => 0, fun _ => 0, fun _ => 0, fun _ => 0, fun _ => 0, fun _ => 0, fun _ => 0, fun _ => 0, fun _ => 0, fun _ => 0, fun _ => 0, fun _ => 0) (nI R0, nI R1, 0, 0, 0, 0, 0, 0, 0, -1, 0, nI 0 - 1, 0, 0, fun _ => 0, fun _ => 0, fun _ => 0, fun _ => 0, fun _ => 0, fun _ => 0, fun _ => 0, fun _ => 0, fun _ => 0, fun _ => 0, fun _ => 0, fun _ => 0, fun _ => 0, fun _ => 0, fun _ => 0, fun _ => 0, fun _ => 0, fun _ => 0, fun _ => 0, fun _ => 0, fun _ => 0, fun _ => 0, fun _ => 0, fun _ => 0, fun _ => 0, fun _ => 0, fun _ => 0, fun _ => 0, fun _ => 0, fun _ => 0, lk_wr (fun _ => 0) 0 128 (fun _ => 255), lk_wr (fun _ => 0) 0 128 (fun _ => 255)) := by
    refine ⟨0, 0, 0, 0, 0, 0, R0, R1, 0, -1, -1, 0, 0, 0, _, _, _, _, _, _, _, _, _, _, _, _, _, _, _, _, _, _, _, _, _, _, _, _, _, _, _, _, _, _, _, _, _, _, _, _, _, _, _, _, _, _, rfl, rfl, ⟨by omega, by omega, by omega, rfl, rfl, rfl, rfl, rfl, fun i h => absurd h (Nat.not_lt_zero i)⟩, ⟨by omega, by omega, fun i h => absurd h (Nat.not_lt_zero i)⟩, ⟨by omega, fun i h => absurd h (Nat.not_lt_zero i)⟩, ⟨?_, pk_us, a1, a2, b1, b2⟩, ⟨fun j hj => ?_, fun j hj => ?_⟩, Or.inl ⟨rfl, hw⟩⟩
    · rw [pk_un (by decide), pk_us]
    · rw [hw j hj, hx j (by omega)]
    · rw [hw j hj, hx (256 + j) (by omega)]
  rw [em] at K
  refine lx_cl a3 (nm_e (lx_cl b3 (nm_e ?_)))
  refine lx_fill (s := 0) (e := 384) (by omega) (by omega) ?_
  rcases a3 with ⟨h1, h2, e⟩ | ⟨h1, h2, e⟩ | ⟨h1, e⟩
  · rw [← e] at K ⊢
    exact br_t h1 (br_t h2 (ly_297 b3 K))
  · rw [e] at K ⊢
    exact br_t h1 (br_f h2 (ly_297 b3 K))
  · rw [e] at K ⊢
    exact br_f h1 (ly_297 b3 K)
end
