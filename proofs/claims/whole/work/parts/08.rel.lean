section
/-! K: the relation -/
def lk_rv (ni : Nat) (ro rf ty rt ra yv yl : Nat → Int32) (r : Nat) : Int32 := if nI ni ≤ rt r then 0 else if ty r = 1 then yv (rt r).toNatClampNeg + ra r else if ty r = 2 then yl (rt r).toNatClampNeg + ra r else yv (rt r).toNatClampNeg + ra r - (yv (ro r).toNatClampNeg + rf r)
def lk_lo (ni : Nat) (ro rf ty rt ra yv yl : Nat → Int32) (r : Nat) : Int32 := lk_rv ni ro rf ty rt ra yv yl r &&& 255
def lk_hi (ni : Nat) (ro rf ty rt ra yv yl : Nat → Int32) (r : Nat) : Int32 := lk_rv ni ro rf ty rt ra yv yl r >>> ((8 : Int32) &&& 31) &&& 255
/-- Y's byte p of section s -/
def lk_by (ni nr : Nat) (fb by_ ro rf ty rt ra yv yl : Nat → Int32) (s p : Nat) : Int32 := lk_rb ro rf (lk_lo ni ro rf ty rt ra yv yl) (lk_hi ni ro rf ty rt ra yv yl) s p (by_ (fb s + nI p).toNatClampNeg) nr
/-- Y's image of section k at the address x -/
def lk_ip (oy kd st lv yv ln : Nat → Int32) (k x : Int32) (s : Nat) : Bool := decide (lv s = 1 ∧ ¬ kd s = 3 ∧ 0 ≤ st s ∧ oy (st s).toNatClampNeg = k ∧ yv s ≤ x ∧ x < yv s + ln s)
def lk_ib (ni nr : Nat) (oy kd st lv ln fb by_ ro rf ty rt ra yv yl : Nat → Int32) (k x : Int32) : Int32 := lk_fv (lk_ip oy kd st lv yv ln k x) (fun s => lk_by ni nr fb by_ ro rf ty rt ra yv yl s (x - yv s).toNatClampNeg) ni 0
def lk_L (ph : Int32) (R0 R1 ns no ng ni nr : Nat) (fc0 fc1 : Int32) (ct me ox oy rg ld gp vm lm dt gs ge gr kd st lv xv fb ln by_ ro rf ty rt ra os rs yg0 yg1 yv yl : Nat → Int32) : Prop := ∃ V L D IV : Nat → Nat,
  (ct 0 = fc0 ∧ ct 1 = fc1) ∧
  (∀ k, k < no → vm k = nI (V k) ∧ lm k = nI (L k) ∧ dt k = nI (D k) ∧ os k = nI (D k - V k) ∧ V k ≤ D k ∧ (rg k = 1 → 256 ≤ V k ∧ D k ≤ 256 + R1) ∧ (rg k = 0 → D k ≤ R0) ∧ (ld k = 1 → L k + (D k - V k) ≤ R0)) ∧
  (∀ g, g < ng → ∃ a b, gs g = nI a ∧ yg0 g = nI a ∧ ge g = nI b ∧ yg1 g = nI b ∧ 256 ≤ a ∧ a ≤ b ∧ b < 2 ^ 30 ∧ (b = a ∨ b ≤ 256 + R1)) ∧
  (∀ s, s < ni → lv s = 1 → ∃ q k, q < ns ∧ st s = nI q ∧ ox q = nI k ∧ oy q = nI k ∧ k < no ∧ xv s = nI (IV s) ∧ yv s = nI (IV s) ∧ IV s < 2 ^ 30 ∧ yl s = nI (IV s) + (lm k - vm k)) ∧
  (∀ k off, k < no → off < D k - V k → (ld k = 1 → me (L k + off) = lk_ib ni nr oy kd st lv ln fb by_ ro rf ty rt ra yv yl (nI k) (nI (V k + off))) ∧ (¬ ld k = 1 → lk_ib ni nr oy kd st lv ln fb by_ ro rf ty rt ra yv yl (nI k) (nI (V k + off)) = 0)) ∧
  (∀ g, g < ng → gr g = -1 ∨ ∃ k, k < no ∧ gr g = nI k ∧ gp k = nI g) ∧
  (∀ k, k < no → rs k = if ¬ gp k = -1 ∧ gr (gp k).toNatClampNeg = nI k then 1 else 0) ∧
  (ph = 1 → ∀ g, g < ng → gr g = lk_ff (fun k => decide (gp k = nI g)) no 0)
def lk_Z (rs : Nat → Int32) (R0 R1 : Nat) : Prop := rs 0 = nI R0 ∧ rs 1 = nI R1 ∧ 16 ≤ R0 ∧ R0 ≤ 128 ∧ 16 ≤ R1 ∧ R1 ≤ 128
def i_Rel (_ : Nat) (u : SX) (v : SY) : Prop := ∃ (ns no ng ni nb nr R0 R1 : Nat) (xphase xopenOut xopenGroup yinGroup yfinalC0 yfinalC1 : Int32) (xregionSize xcounter xmemory xstmtOp xstmtA xstmtB xstmtOwner xoutRegion xoutLoaded xoutGroup xoutAlign xoutVma xoutLma xoutDot xgroupStart xgroupEnd xgroupResident xinKind xinId xinAlign xinSize xinFirstByte xinStmt xinLive xinVma xfedBytes xrelocOwner xrelocOffset xrelocType xrelocTarget xrelocAddend ystOut youtSize youtRes ygStart ygEnd yinBss yinLen yinVma yinLma yrom yram : Nat → Int32), u = (xphase, (nI ns), xopenOut, xopenGroup, (nI no), (nI ng), (nI ni), (nI nb), (nI nr), xregionSize, xcounter, xmemory, xstmtOp, xstmtA, xstmtB, xstmtOwner, xoutRegion, xoutLoaded, xoutGroup, xoutAlign, xoutVma, xoutLma, xoutDot, xgroupStart, xgroupEnd, xgroupResident, xinKind, xinId, xinAlign, xinSize, xinFirstByte, xinStmt, xinLive, xinVma, xfedBytes, xrelocOwner, xrelocOffset, xrelocType, xrelocTarget, xrelocAddend) ∧ v = ((nI R0), (nI R1), xphase, (nI ns), (nI no), (nI ng), (nI ni), (nI nb), (nI nr), xopenOut, yinGroup, (nI ni - 1), yfinalC0, yfinalC1, xstmtOp, xstmtA, xstmtB, ystOut, xoutRegion, xoutLoaded, xoutGroup, xoutVma, xoutLma, youtSize, xoutAlign, youtRes, ygStart, ygEnd, xinKind, xinId, xinAlign, yinBss, xinFirstByte, yinLen, xinStmt, xinLive, yinVma, yinLma, xfedBytes, xrelocOwner, xrelocOffset, xrelocType, xrelocTarget, xrelocAddend, yrom, yram) ∧
  lk_S ns no ng xstmtOp xstmtA xstmtB xstmtOwner ystOut xoutRegion xoutLoaded xoutGroup xopenOut xopenGroup yinGroup ∧
  lk_N ni nb xinKind xinAlign xinSize xinFirstByte yinBss yinLen ∧
  lk_Q nr ni xinKind yinLen xrelocOwner xrelocOffset xrelocTarget ∧
  lk_Z xregionSize R0 R1 ∧
  lk_M xmemory yrom yram ∧
  ((xphase = 0 ∧ ∀ j, j < 128 → yrom j = 255) ∨ ((xphase = 1 ∨ xphase = 2) ∧ lk_L xphase R0 R1 ns no ng ni nr yfinalC0 yfinalC1 xcounter xmemory xstmtOwner ystOut xoutRegion xoutLoaded xoutGroup xoutVma xoutLma xoutDot xgroupStart xgroupEnd xgroupResident xinKind xinStmt xinLive xinVma xinFirstByte yinLen xfedBytes xrelocOwner xrelocOffset xrelocType xrelocTarget xrelocAddend youtSize youtRes ygStart ygEnd yinVma yinLma))
theorem i_up {k : Nat} {u : SX} {v : SY} (h : i_Rel k u v) : i_Rel (k + 5) u v := h
end
