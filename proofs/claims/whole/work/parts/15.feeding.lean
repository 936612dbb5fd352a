section
/-! R: feeding sections, bytes, relocations -/
def lk_Ai (m : Int32) : Prop := m = 1 ∨ m = 2 ∨ m = 4 ∨ m = 8 ∨ m = 16
theorem lk_Ai_A {m : Int32} (h : lk_Ai m) : ∃ A, lk_A A ∧ m = nI A := by
  rcases h with h | h | h | h | h
  · exact ⟨1, Or.inl rfl, h⟩
  · exact ⟨2, Or.inr (Or.inl rfl), h⟩
  · exact ⟨4, Or.inr (Or.inr (Or.inl rfl)), h⟩
  · exact ⟨8, Or.inr (Or.inr (Or.inr (Or.inl rfl))), h⟩
  · exact ⟨16, Or.inr (Or.inr (Or.inr (Or.inr rfl))), h⟩
theorem lx_isA {post : Int32 → Prop} {m : Int32} (h : lk_Ai m) (p : post 1) : wpX_isAlignment post m := by
  by_cases h1 : m = 1
  · exact br_t h1 p
  · by_cases h2 : m = 2
    · exact br_f h1 (br_t h2 p)
    · by_cases h3 : m = 4
      · exact br_f h1 (br_f h2 (br_t h3 p))
      · by_cases h4 : m = 8
        · exact br_f h1 (br_f h2 (br_f h3 (br_t h4 p)))
        · have h5 : m = 16 := by
            rcases h with h | h | h | h | h
            · exact absurd h h1
            · exact absurd h h2
            · exact absurd h h3
            · exact absurd h h4
            · exact h
          exact br_f h1 (br_f h2 (br_f h3 (br_f h4 (br_t h5 p))))
theorem lx_nA {post : Int32 → Prop} {m : Int32} (h : ¬ lk_Ai m) (p : post 0) : wpX_isAlignment post m :=
  br_f (fun z => h (Or.inl z)) (br_f (fun z => h (Or.inr (Or.inl z))) (br_f (fun z => h (Or.inr (Or.inr (Or.inl z)))) (br_f (fun z => h (Or.inr (Or.inr (Or.inr (Or.inl z))))) (br_f (fun z => h (Or.inr (Or.inr (Or.inr (Or.inr z))))) p))))
theorem ly_isA {post : Int32 → Prop} {yromSize yramSize yphase ynStmts ynOuts ynGroups ynIns ynBytes ynRelocs yopenOut yinGroup ycur yfinalC0 yfinalC1 : Int32} {ystOp ystA ystB ystOut youtReg youtLoaded youtGroup youtVma youtLma youtSize youtAlign youtRes ygStart ygEnd yinKind yinId yinAlign yinBss yinStart yinLen yinStmt yinLive yinVma yinLma ybytes yrSec yrOff yrType yrTgt yrAdd yrom yram : Nat → Int32} {m : Int32} (h : lk_Ai m) (p : post 1) : wpY_isAlign post (yromSize, yramSize, yphase, ynStmts, ynOuts, ynGroups, ynIns, ynBytes, ynRelocs, yopenOut, yinGroup, ycur, yfinalC0, yfinalC1, ystOp, ystA, ystB, ystOut, youtReg, youtLoaded, youtGroup, youtVma, youtLma, youtSize, youtAlign, youtRes, ygStart, ygEnd, yinKind, yinId, yinAlign, yinBss, yinStart, yinLen, yinStmt, yinLive, yinVma, yinLma, ybytes, yrSec, yrOff, yrType, yrTgt, yrAdd, yrom, yram) m := lx_isA (post := post) h p
theorem ly_nA {post : Int32 → Prop} {yromSize yramSize yphase ynStmts ynOuts ynGroups ynIns ynBytes ynRelocs yopenOut yinGroup ycur yfinalC0 yfinalC1 : Int32} {ystOp ystA ystB ystOut youtReg youtLoaded youtGroup youtVma youtLma youtSize youtAlign youtRes ygStart ygEnd yinKind yinId yinAlign yinBss yinStart yinLen yinStmt yinLive yinVma yinLma ybytes yrSec yrOff yrType yrTgt yrAdd yrom yram : Nat → Int32} {m : Int32} (h : ¬ lk_Ai m) (p : post 0) : wpY_isAlign post (yromSize, yramSize, yphase, ynStmts, ynOuts, ynGroups, ynIns, ynBytes, ynRelocs, yopenOut, yinGroup, ycur, yfinalC0, yfinalC1, ystOp, ystA, ystB, ystOut, youtReg, youtLoaded, youtGroup, youtVma, youtLma, youtSize, youtAlign, youtRes, ygStart, ygEnd, yinKind, yinId, yinAlign, yinBss, yinStart, yinLen, yinStmt, yinLive, yinVma, yinLma, ybytes, yrSec, yrOff, yrType, yrTgt, yrAdd, yrom, yram) m := lx_nA (post := post) h p
theorem i_vc_addByte {k : Nat} {u : SX} {v : SY} (I : i_Rel k u v) (hk : k + 5 ≤ 2562) (v1 : Int32) : wpX_addByte (fun r u' => wpY_addByte (fun r' v' => r' = r ∧ i_Rel (k + 5) u' v') v v1) u v1 := by
  have J := i_up I
  obtain ⟨ns, no, ng, ni, nb, nr, R0, R1, xphase, xopenOut, xopenGroup, yinGroup, yfinalC0, yfinalC1, xregionSize, xcounter, xmemory, xstmtOp, xstmtA, xstmtB, xstmtOwner, xoutRegion, xoutLoaded, xoutGroup, xoutAlign, xoutVma, xoutLma, xoutDot, xgroupStart, xgroupEnd, xgroupResident, xinKind, xinId, xinAlign, xinSize, xinFirstByte, xinStmt, xinLive, xinVma, xfedBytes, xrelocOwner, xrelocOffset, xrelocType, xrelocTarget, xrelocAddend, ystOut, youtSize, youtRes, ygStart, ygEnd, yinBss, yinLen, yinVma, yinLma, yrom, yram, rfl, rfl, hS, hN, hQ, hZ, hM, hP⟩ := I
  rcases Decidable.em (xphase = 0) with hp | hp
  · have hP0 : ∀ j, j < 128 → yrom j = 255 := by
      rcases hP with ⟨_, h⟩ | ⟨h, _⟩
      · exact h
      · rw [hp] at h; exact absurd h (by decide)
    rcases Nat.eq_zero_or_pos ni with h0 | h0
    · subst h0
      have a1 : nI 0 ≤ 0 := by decide
      have a2 : nI 0 - 1 < 0 := by decide
      repeat (first | refine br_t (by assumption) ?_ | refine br_f (by assumption) ?_ | refine br_t (by decide) ?_ | refine br_f (by decide) ?_ | refine nm_e ?_ | refine And.intro (by assumption) ?_ | refine And.intro rfl ?_ | refine lx_isA (by assumption) ?_ | refine lx_nA (by assumption) ?_ | refine ly_isA (by assumption) ?_ | refine ly_nA (by assumption) ?_)
      exact J
    · obtain ⟨m, rfl⟩ : ∃ m, ni = m + 1 := ⟨ni - 1, by omega⟩
      have n16 := hN.1
      have e : (nI (m + 1) - 1).toNatClampNeg = m := by rw [nI_pred, nI_clamp (by omega)]
      have a1 : ¬ nI (m + 1) ≤ 0 := nI_nle (by omega) (by omega)
      have a2 : ¬ nI (m + 1) - 1 < 0 := by rw [nI_pred]; exact nI_pos (by omega)
      have a3 : vp_in (nI (m + 1) - 1) 16 := by rw [nI_pred]; exact vp_in_nI (by omega) (by omega)
      by_cases hk3 : xinKind (nI (m + 1) - 1).toNatClampNeg = 3
      · repeat (first | refine br_t (by assumption) ?_ | refine br_f (by assumption) ?_ | refine br_t (by decide) ?_ | refine br_f (by decide) ?_ | refine nm_e ?_ | refine And.intro (by assumption) ?_ | refine And.intro rfl ?_ | refine lx_isA (by assumption) ?_ | refine lx_nA (by assumption) ?_ | refine ly_isA (by assumption) ?_ | refine ly_nA (by assumption) ?_)
        exact J
      · by_cases hb : nb < 256
        · have b1 : nI nb < 256 := nI_lt (b := 256) hb (by omega)
          have b2 : vp_in (nI nb) 256 := vp_in_nI hb (by omega)
          repeat (first | refine br_t (by assumption) ?_ | refine br_f (by assumption) ?_ | refine br_t (by decide) ?_ | refine br_f (by decide) ?_ | refine nm_e ?_ | refine And.intro (by assumption) ?_ | refine And.intro rfl ?_ | refine lx_isA (by assumption) ?_ | refine lx_nA (by assumption) ?_ | refine ly_isA (by assumption) ?_ | refine ly_nA (by assumption) ?_)
          rw [e, nI_clamp (show nb < 2 ^ 31 by omega), nI_1 nb]
          rw [e] at hk3
          refine ⟨ns, no, ng, (m + 1), (nb + 1), nr, R0, R1, xphase, xopenOut, xopenGroup, yinGroup, yfinalC0, yfinalC1, xregionSize, xcounter, xmemory, xstmtOp, xstmtA, xstmtB, xstmtOwner, xoutRegion, xoutLoaded, xoutGroup, xoutAlign, xoutVma, xoutLma, xoutDot, xgroupStart, xgroupEnd, xgroupResident, xinKind, xinId, xinAlign, _, xinFirstByte, xinStmt, xinLive, xinVma, _, xrelocOwner, xrelocOffset, xrelocType, xrelocTarget, xrelocAddend, ystOut, youtSize, youtRes, ygStart, ygEnd, yinBss, _, yinVma, yinLma, yrom, yram, rfl, rfl, hS, lk_N_byte hN hb hk3, lk_Q_byte hQ ?_, hZ, hM, Or.inl ⟨hp, hP0⟩⟩
          intro Z hz hz2
          obtain ⟨A, T, Z', Q', d1, d2, d3, d4, d5, d6, d7⟩ := hN.2.2 m (by omega)
          have : Z = Z' := (nI_eq (by omega) (by omega)).mp (hz.symm.trans d4)
          omega
        · have b1 : ¬ nI nb < 256 := nI_nlt (b := 256) (by omega) (by have := hN.2.1; omega)
          repeat (first | refine br_t (by assumption) ?_ | refine br_f (by assumption) ?_ | refine br_t (by decide) ?_ | refine br_f (by decide) ?_ | refine nm_e ?_ | refine And.intro (by assumption) ?_ | refine And.intro rfl ?_ | refine lx_isA (by assumption) ?_ | refine lx_nA (by assumption) ?_ | refine ly_isA (by assumption) ?_ | refine ly_nA (by assumption) ?_)
          exact J
  · repeat (first | refine br_t (by assumption) ?_ | refine br_f (by assumption) ?_ | refine br_t (by decide) ?_ | refine br_f (by decide) ?_ | refine nm_e ?_ | refine And.intro (by assumption) ?_ | refine And.intro rfl ?_ | refine lx_isA (by assumption) ?_ | refine lx_nA (by assumption) ?_ | refine ly_isA (by assumption) ?_ | refine ly_nA (by assumption) ?_)
    exact J
theorem lk_le2 {x y : Int32} {Z : Nat} (hZ : Z ≤ 256) (hy : y = nI Z) (h0 : ¬ x < 0) (h : x ≤ y - 2) : ∃ f, f + 2 ≤ Z ∧ x = nI f := by
  obtain ⟨f, hf, e⟩ := nI_of h0
  refine ⟨f, ?_, e⟩
  rw [hy, e] at h
  by_cases c : 2 ≤ Z
  · have e2 : nI Z - 2 = nI (Z - 2) := pk_sub (b := 2) c
    rw [e2, nI_leI hf (by omega)] at h
    omega
  · have e2 : nI Z - 2 < 0 := pk_sneg (b := 2) (by omega) (by omega)
    exact absurd (Int32.lt_of_le_of_lt h e2) (nI_pos hf)
theorem i_vc_addReloc {k : Nat} {u : SX} {v : SY} (I : i_Rel k u v) (hk : k + 5 ≤ 2562) (v1 : Int32) (v2 : Int32) (v3 : Int32) (v4 : Int32) : wpX_addReloc (fun r u' => wpY_addReloc (fun r' v' => r' = r ∧ i_Rel (k + 5) u' v') v v1 v2 v3 v4) u v1 v2 v3 v4 := by
  have J := i_up I
  obtain ⟨ns, no, ng, ni, nb, nr, R0, R1, xphase, xopenOut, xopenGroup, yinGroup, yfinalC0, yfinalC1, xregionSize, xcounter, xmemory, xstmtOp, xstmtA, xstmtB, xstmtOwner, xoutRegion, xoutLoaded, xoutGroup, xoutAlign, xoutVma, xoutLma, xoutDot, xgroupStart, xgroupEnd, xgroupResident, xinKind, xinId, xinAlign, xinSize, xinFirstByte, xinStmt, xinLive, xinVma, xfedBytes, xrelocOwner, xrelocOffset, xrelocType, xrelocTarget, xrelocAddend, ystOut, youtSize, youtRes, ygStart, ygEnd, yinBss, yinLen, yinVma, yinLma, yrom, yram, rfl, rfl, hS, hN, hQ, hZ, hM, hP⟩ := I
  rcases Decidable.em (xphase = 0) with hp | hp
  · have hP0 : ∀ j, j < 128 → yrom j = 255 := by
      rcases hP with ⟨_, h⟩ | ⟨h, _⟩
      · exact h
      · rw [hp] at h; exact absurd h (by decide)
    rcases Nat.eq_zero_or_pos ni with h0 | h0
    · subst h0
      have a1 : nI 0 ≤ 0 := by decide
      have a2 : nI 0 - 1 < 0 := by decide
      repeat (first | refine br_t (by assumption) ?_ | refine br_f (by assumption) ?_ | refine br_t (by decide) ?_ | refine br_f (by decide) ?_ | refine nm_e ?_ | refine And.intro (by assumption) ?_ | refine And.intro rfl ?_ | refine lx_isA (by assumption) ?_ | refine lx_nA (by assumption) ?_ | refine ly_isA (by assumption) ?_ | refine ly_nA (by assumption) ?_)
      exact J
    · obtain ⟨m, rfl⟩ : ∃ m, ni = m + 1 := ⟨ni - 1, by omega⟩
      have n16 := hN.1
      have r32 := hQ.1
      have e : (nI (m + 1) - 1).toNatClampNeg = m := by rw [nI_pred, nI_clamp (by omega)]
      have a1 : ¬ nI (m + 1) ≤ 0 := nI_nle (by omega) (by omega)
      have a2 : ¬ nI (m + 1) - 1 < 0 := by rw [nI_pred]; exact nI_pos (by omega)
      have a3 : vp_in (nI (m + 1) - 1) 16 := by rw [nI_pred]; exact vp_in_nI (by omega) (by omega)
      by_cases hk3 : xinKind (nI (m + 1) - 1).toNatClampNeg = 3
      · repeat (first | refine br_t (by assumption) ?_ | refine br_f (by assumption) ?_ | refine br_t (by decide) ?_ | refine br_f (by decide) ?_ | refine nm_e ?_ | refine And.intro (by assumption) ?_ | refine And.intro rfl ?_ | refine lx_isA (by assumption) ?_ | refine lx_nA (by assumption) ?_ | refine ly_isA (by assumption) ?_ | refine ly_nA (by assumption) ?_)
        exact J
      obtain ⟨A, T, Z, Q', d1, d2, d3, d4, d5, d6, d7⟩ := hN.2.2 m (by omega)
      have hb := hN.2.1
      have hZQ : Q' = Z := by
        rw [e] at hk3
        rcases d7 with ⟨z, _⟩ | ⟨_, z⟩
        · exact absurd z hk3
        · exact z
      by_cases b1 : v2 < 1
      · repeat (first | refine br_t (by assumption) ?_ | refine br_f (by assumption) ?_ | refine br_t (by decide) ?_ | refine br_f (by decide) ?_ | refine nm_e ?_ | refine And.intro (by assumption) ?_ | refine And.intro rfl ?_ | refine lx_isA (by assumption) ?_ | refine lx_nA (by assumption) ?_ | refine ly_isA (by assumption) ?_ | refine ly_nA (by assumption) ?_)
        exact J
      by_cases b2 : 3 < v2
      · repeat (first | refine br_t (by assumption) ?_ | refine br_f (by assumption) ?_ | refine br_t (by decide) ?_ | refine br_f (by decide) ?_ | refine nm_e ?_ | refine And.intro (by assumption) ?_ | refine And.intro rfl ?_ | refine lx_isA (by assumption) ?_ | refine lx_nA (by assumption) ?_ | refine ly_isA (by assumption) ?_ | refine ly_nA (by assumption) ?_)
        exact J
      by_cases b3 : v1 < 0
      · repeat (first | refine br_t (by assumption) ?_ | refine br_f (by assumption) ?_ | refine br_t (by decide) ?_ | refine br_f (by decide) ?_ | refine nm_e ?_ | refine And.intro (by assumption) ?_ | refine And.intro rfl ?_ | refine lx_isA (by assumption) ?_ | refine lx_nA (by assumption) ?_ | refine ly_isA (by assumption) ?_ | refine ly_nA (by assumption) ?_)
        exact J
      by_cases b4 : v1 ≤ xinSize (nI (m + 1) - 1).toNatClampNeg - 2
      · have b5 : v1 ≤ yinLen (nI (m + 1) - 1).toNatClampNeg - 2 := by
          rw [e, d6, hZQ] at b4
          rw [e, d4]
          exact b4
        by_cases b6 : v3 < 0
        · repeat (first | refine br_t (by assumption) ?_ | refine br_f (by assumption) ?_ | refine br_t (by decide) ?_ | refine br_f (by decide) ?_ | refine nm_e ?_ | refine And.intro (by assumption) ?_ | refine And.intro rfl ?_ | refine lx_isA (by assumption) ?_ | refine lx_nA (by assumption) ?_ | refine ly_isA (by assumption) ?_ | refine ly_nA (by assumption) ?_)
          exact J
        by_cases b7 : 15 < v3
        · repeat (first | refine br_t (by assumption) ?_ | refine br_f (by assumption) ?_ | refine br_t (by decide) ?_ | refine br_f (by decide) ?_ | refine nm_e ?_ | refine And.intro (by assumption) ?_ | refine And.intro rfl ?_ | refine lx_isA (by assumption) ?_ | refine lx_nA (by assumption) ?_ | refine ly_isA (by assumption) ?_ | refine ly_nA (by assumption) ?_)
          exact J
        by_cases b8 : v4 < -256
        · repeat (first | refine br_t (by assumption) ?_ | refine br_f (by assumption) ?_ | refine br_t (by decide) ?_ | refine br_f (by decide) ?_ | refine nm_e ?_ | refine And.intro (by assumption) ?_ | refine And.intro rfl ?_ | refine lx_isA (by assumption) ?_ | refine lx_nA (by assumption) ?_ | refine ly_isA (by assumption) ?_ | refine ly_nA (by assumption) ?_)
          exact J
        by_cases b9 : v4 ≤ 255
        · by_cases hr : nr < 32
          · have r1 : nI nr < 32 := nI_lt (b := 32) hr (by omega)
            have r2 : vp_in (nI nr) 32 := vp_in_nI hr (by omega)
            repeat (first | refine br_t (by assumption) ?_ | refine br_f (by assumption) ?_ | refine br_t (by decide) ?_ | refine br_f (by decide) ?_ | refine nm_e ?_ | refine And.intro (by assumption) ?_ | refine And.intro rfl ?_ | refine lx_isA (by assumption) ?_ | refine lx_nA (by assumption) ?_ | refine ly_isA (by assumption) ?_ | refine ly_nA (by assumption) ?_)
            rw [nI_clamp (show nr < 2 ^ 31 by omega), nI_1 nr]
            rw [e] at hk3
            rw [e, d4] at b5
            obtain ⟨f, hf, ef⟩ := lk_le2 (by omega) rfl b3 b5
            obtain ⟨t, ht, et⟩ := nI_of2 (M := 15) (n := 15) (by decide) b6 (Int32.not_lt.mp b7)
            have hQ' : lk_Q (nr + 1) (m + 1) xinKind yinLen (upd xrelocOwner nr (nI (m + 1) - 1)) (upd xrelocOffset nr v1) (upd xrelocTarget nr v3) := by
              rw [nI_pred, ef, et]
              exact lk_Q_rel hQ hr (by omega) hk3 d4 (by omega) hf (by omega)
            exact ⟨ns, no, ng, (m + 1), nb, (nr + 1), R0, R1, xphase, xopenOut, xopenGroup, yinGroup, yfinalC0, yfinalC1, xregionSize, xcounter, xmemory, xstmtOp, xstmtA, xstmtB, xstmtOwner, xoutRegion, xoutLoaded, xoutGroup, xoutAlign, xoutVma, xoutLma, xoutDot, xgroupStart, xgroupEnd, xgroupResident, xinKind, xinId, xinAlign, xinSize, xinFirstByte, xinStmt, xinLive, xinVma, xfedBytes, _, _, _, _, _, ystOut, youtSize, youtRes, ygStart, ygEnd, yinBss, yinLen, yinVma, yinLma, yrom, yram, rfl, rfl, hS, hN, hQ', hZ, hM, Or.inl ⟨hp, hP0⟩⟩
          · have r1 : ¬ nI nr < 32 := nI_nlt (b := 32) (by omega) (by omega)
            repeat (first | refine br_t (by assumption) ?_ | refine br_f (by assumption) ?_ | refine br_t (by decide) ?_ | refine br_f (by decide) ?_ | refine nm_e ?_ | refine And.intro (by assumption) ?_ | refine And.intro rfl ?_ | refine lx_isA (by assumption) ?_ | refine lx_nA (by assumption) ?_ | refine ly_isA (by assumption) ?_ | refine ly_nA (by assumption) ?_)
            exact J
        · repeat (first | refine br_t (by assumption) ?_ | refine br_f (by assumption) ?_ | refine br_t (by decide) ?_ | refine br_f (by decide) ?_ | refine nm_e ?_ | refine And.intro (by assumption) ?_ | refine And.intro rfl ?_ | refine lx_isA (by assumption) ?_ | refine lx_nA (by assumption) ?_ | refine ly_isA (by assumption) ?_ | refine ly_nA (by assumption) ?_)
          exact J
      · have b5 : ¬ v1 ≤ yinLen (nI (m + 1) - 1).toNatClampNeg - 2 := by
          rw [e, d6, hZQ] at b4
          rw [e, d4]
          exact b4
        repeat (first | refine br_t (by assumption) ?_ | refine br_f (by assumption) ?_ | refine br_t (by decide) ?_ | refine br_f (by decide) ?_ | refine nm_e ?_ | refine And.intro (by assumption) ?_ | refine And.intro rfl ?_ | refine lx_isA (by assumption) ?_ | refine lx_nA (by assumption) ?_ | refine ly_isA (by assumption) ?_ | refine ly_nA (by assumption) ?_)
        exact J
  · repeat (first | refine br_t (by assumption) ?_ | refine br_f (by assumption) ?_ | refine br_t (by decide) ?_ | refine br_f (by decide) ?_ | refine nm_e ?_ | refine And.intro (by assumption) ?_ | refine And.intro rfl ?_ | refine lx_isA (by assumption) ?_ | refine lx_nA (by assumption) ?_ | refine ly_isA (by assumption) ?_ | refine ly_nA (by assumption) ?_)
    exact J
theorem i_vc_beginSection {k : Nat} {u : SX} {v : SY} (I : i_Rel k u v) (hk : k + 5 ≤ 2562) (v1 : Int32) (v2 : Int32) (v3 : Int32) (v4 : Int32) : wpX_beginSection (fun r u' => wpY_beginSection (fun r' v' => r' = r ∧ i_Rel (k + 5) u' v') v v1 v2 v3 v4) u v1 v2 v3 v4 := by
  have J := i_up I
  obtain ⟨ns, no, ng, ni, nb, nr, R0, R1, xphase, xopenOut, xopenGroup, yinGroup, yfinalC0, yfinalC1, xregionSize, xcounter, xmemory, xstmtOp, xstmtA, xstmtB, xstmtOwner, xoutRegion, xoutLoaded, xoutGroup, xoutAlign, xoutVma, xoutLma, xoutDot, xgroupStart, xgroupEnd, xgroupResident, xinKind, xinId, xinAlign, xinSize, xinFirstByte, xinStmt, xinLive, xinVma, xfedBytes, xrelocOwner, xrelocOffset, xrelocType, xrelocTarget, xrelocAddend, ystOut, youtSize, youtRes, ygStart, ygEnd, yinBss, yinLen, yinVma, yinLma, yrom, yram, rfl, rfl, hS, hN, hQ, hZ, hM, hP⟩ := I
  rcases Decidable.em (xphase = 0) with hp | hp
  · have hP0 : ∀ j, j < 128 → yrom j = 255 := by
      rcases hP with ⟨_, h⟩ | ⟨h, _⟩
      · exact h
      · rw [hp] at h; exact absurd h (by decide)
    have n16 := hN.1
    by_cases b1 : v1 < 1
    · repeat (first | refine br_t (by assumption) ?_ | refine br_f (by assumption) ?_ | refine br_t (by decide) ?_ | refine br_f (by decide) ?_ | refine nm_e ?_ | refine And.intro (by assumption) ?_ | refine And.intro rfl ?_ | refine lx_isA (by assumption) ?_ | refine lx_nA (by assumption) ?_ | refine ly_isA (by assumption) ?_ | refine ly_nA (by assumption) ?_)
      exact J
    by_cases b2 : 3 < v1
    · repeat (first | refine br_t (by assumption) ?_ | refine br_f (by assumption) ?_ | refine br_t (by decide) ?_ | refine br_f (by decide) ?_ | refine nm_e ?_ | refine And.intro (by assumption) ?_ | refine And.intro rfl ?_ | refine lx_isA (by assumption) ?_ | refine lx_nA (by assumption) ?_ | refine ly_isA (by assumption) ?_ | refine ly_nA (by assumption) ?_)
      exact J
    by_cases b3 : v2 < 0
    · repeat (first | refine br_t (by assumption) ?_ | refine br_f (by assumption) ?_ | refine br_t (by decide) ?_ | refine br_f (by decide) ?_ | refine nm_e ?_ | refine And.intro (by assumption) ?_ | refine And.intro rfl ?_ | refine lx_isA (by assumption) ?_ | refine lx_nA (by assumption) ?_ | refine ly_isA (by assumption) ?_ | refine ly_nA (by assumption) ?_)
      exact J
    by_cases b4 : 15 < v2
    · repeat (first | refine br_t (by assumption) ?_ | refine br_f (by assumption) ?_ | refine br_t (by decide) ?_ | refine br_f (by decide) ?_ | refine nm_e ?_ | refine And.intro (by assumption) ?_ | refine And.intro rfl ?_ | refine lx_isA (by assumption) ?_ | refine lx_nA (by assumption) ?_ | refine ly_isA (by assumption) ?_ | refine ly_nA (by assumption) ?_)
      exact J
    rcases Classical.em (lk_Ai v3) with b5 | b5
    · by_cases hn : ni < 16
      · have r1 : nI ni < 16 := nI_lt (b := 16) hn (by omega)
        have r2 : vp_in (nI ni) 16 := vp_in_nI hn (by omega)
        obtain ⟨A, hA, eA⟩ := lk_Ai_A b5
        have r3 : nI ni = nI ni + 1 - 1 := by rw [nI_1, nI_pred]
        by_cases b6 : v1 = 3
        · by_cases b7 : v4 < 0
          · repeat (first | refine br_t (by assumption) ?_ | refine br_f (by assumption) ?_ | refine br_t (by decide) ?_ | refine br_f (by decide) ?_ | refine nm_e ?_ | refine And.intro (by assumption) ?_ | refine And.intro rfl ?_ | refine lx_isA (by assumption) ?_ | refine lx_nA (by assumption) ?_ | refine ly_isA (by assumption) ?_ | refine ly_nA (by assumption) ?_)
            exact J
          by_cases b8 : v4 ≤ 128
          · repeat (first | refine br_t (by assumption) ?_ | refine br_f (by assumption) ?_ | refine br_t (by decide) ?_ | refine br_f (by decide) ?_ | refine nm_e ?_ | refine And.intro (by assumption) ?_ | refine And.intro rfl ?_ | refine lx_isA (by assumption) ?_ | refine lx_nA (by assumption) ?_ | refine ly_isA (by assumption) ?_ | refine ly_nA (by assumption) ?_)
            obtain ⟨Qn, hq, eq⟩ := nI_of2 (M := 128) (n := 128) (by decide) b7 b8
            rw [nI_clamp (show ni < 2 ^ 31 by omega)]
            have K : i_Rel (k + 5) (xphase, (nI ns), xopenOut, xopenGroup, (nI no), (nI ng), (nI (ni + 1)), (nI nb), (nI nr), xregionSize, xcounter, xmemory, xstmtOp, xstmtA, xstmtB, xstmtOwner, xoutRegion, xoutLoaded, xoutGroup, xoutAlign, xoutVma, xoutLma, xoutDot, xgroupStart, xgroupEnd, xgroupResident, (upd xinKind ni v1), (upd xinId ni v2), (upd xinAlign ni v3), (upd xinSize ni v4), (upd xinFirstByte ni (nI nb)), xinStmt, xinLive, xinVma, xfedBytes, xrelocOwner, xrelocOffset, xrelocType, xrelocTarget, xrelocAddend) ((nI R0), (nI R1), xphase, (nI ns), (nI no), (nI ng), (nI (ni + 1)), (nI nb), (nI nr), xopenOut, yinGroup, (nI (ni + 1) - 1), yfinalC0, yfinalC1, xstmtOp, xstmtA, xstmtB, ystOut, xoutRegion, xoutLoaded, xoutGroup, xoutVma, xoutLma, youtSize, xoutAlign, youtRes, ygStart, ygEnd, (upd xinKind ni v1), (upd xinId ni v2), (upd xinAlign ni v3), (upd yinBss ni v4), (upd xinFirstByte ni (nI nb)), (upd yinLen ni 0), xinStmt, xinLive, yinVma, yinLma, xfedBytes, xrelocOwner, xrelocOffset, xrelocType, xrelocTarget, xrelocAddend, yrom, yram) := ⟨ns, no, ng, (ni + 1), nb, nr, R0, R1, xphase, xopenOut, xopenGroup, yinGroup, yfinalC0, yfinalC1, xregionSize, xcounter, xmemory, xstmtOp, xstmtA, xstmtB, xstmtOwner, xoutRegion, xoutLoaded, xoutGroup, xoutAlign, xoutVma, xoutLma, xoutDot, xgroupStart, xgroupEnd, xgroupResident, _, _, _, _, _, xinStmt, xinLive, xinVma, xfedBytes, xrelocOwner, xrelocOffset, xrelocType, xrelocTarget, xrelocAddend, ystOut, youtSize, youtRes, ygStart, ygEnd, _, _, yinVma, yinLma, yrom, yram, rfl, rfl, hS, by rw [eA, eq]; exact lk_N_sec hN hn hA (Or.inl ⟨b6, hq⟩), lk_Q_sec hQ, hZ, hM, Or.inl ⟨hp, hP0⟩⟩
            rw [nI_pred, ← nI_1] at K
            exact K
          · repeat (first | refine br_t (by assumption) ?_ | refine br_f (by assumption) ?_ | refine br_t (by decide) ?_ | refine br_f (by decide) ?_ | refine nm_e ?_ | refine And.intro (by assumption) ?_ | refine And.intro rfl ?_ | refine lx_isA (by assumption) ?_ | refine lx_nA (by assumption) ?_ | refine ly_isA (by assumption) ?_ | refine ly_nA (by assumption) ?_)
            exact J
        · repeat (first | refine br_t (by assumption) ?_ | refine br_f (by assumption) ?_ | refine br_t (by decide) ?_ | refine br_f (by decide) ?_ | refine nm_e ?_ | refine And.intro (by assumption) ?_ | refine And.intro rfl ?_ | refine lx_isA (by assumption) ?_ | refine lx_nA (by assumption) ?_ | refine ly_isA (by assumption) ?_ | refine ly_nA (by assumption) ?_)
          rw [nI_clamp (show ni < 2 ^ 31 by omega)]
          have K : i_Rel (k + 5) (xphase, (nI ns), xopenOut, xopenGroup, (nI no), (nI ng), (nI (ni + 1)), (nI nb), (nI nr), xregionSize, xcounter, xmemory, xstmtOp, xstmtA, xstmtB, xstmtOwner, xoutRegion, xoutLoaded, xoutGroup, xoutAlign, xoutVma, xoutLma, xoutDot, xgroupStart, xgroupEnd, xgroupResident, (upd xinKind ni v1), (upd xinId ni v2), (upd xinAlign ni v3), (upd xinSize ni 0), (upd xinFirstByte ni (nI nb)), xinStmt, xinLive, xinVma, xfedBytes, xrelocOwner, xrelocOffset, xrelocType, xrelocTarget, xrelocAddend) ((nI R0), (nI R1), xphase, (nI ns), (nI no), (nI ng), (nI (ni + 1)), (nI nb), (nI nr), xopenOut, yinGroup, (nI (ni + 1) - 1), yfinalC0, yfinalC1, xstmtOp, xstmtA, xstmtB, ystOut, xoutRegion, xoutLoaded, xoutGroup, xoutVma, xoutLma, youtSize, xoutAlign, youtRes, ygStart, ygEnd, (upd xinKind ni v1), (upd xinId ni v2), (upd xinAlign ni v3), (upd yinBss ni 0), (upd xinFirstByte ni (nI nb)), (upd yinLen ni 0), xinStmt, xinLive, yinVma, yinLma, xfedBytes, xrelocOwner, xrelocOffset, xrelocType, xrelocTarget, xrelocAddend, yrom, yram) := ⟨ns, no, ng, (ni + 1), nb, nr, R0, R1, xphase, xopenOut, xopenGroup, yinGroup, yfinalC0, yfinalC1, xregionSize, xcounter, xmemory, xstmtOp, xstmtA, xstmtB, xstmtOwner, xoutRegion, xoutLoaded, xoutGroup, xoutAlign, xoutVma, xoutLma, xoutDot, xgroupStart, xgroupEnd, xgroupResident, _, _, _, _, _, xinStmt, xinLive, xinVma, xfedBytes, xrelocOwner, xrelocOffset, xrelocType, xrelocTarget, xrelocAddend, ystOut, youtSize, youtRes, ygStart, ygEnd, _, _, yinVma, yinLma, yrom, yram, rfl, rfl, hS, by rw [eA]; exact lk_N_sec (Q := 0) hN hn hA (Or.inr ⟨b6, rfl⟩), lk_Q_sec hQ, hZ, hM, Or.inl ⟨hp, hP0⟩⟩
          rw [nI_pred, ← nI_1] at K
          exact K
      · have r1 : ¬ nI ni < 16 := nI_nlt (b := 16) (by omega) (by omega)
        by_cases b6 : v1 = 3
        · by_cases b7 : v4 < 0
          · repeat (first | refine br_t (by assumption) ?_ | refine br_f (by assumption) ?_ | refine br_t (by decide) ?_ | refine br_f (by decide) ?_ | refine nm_e ?_ | refine And.intro (by assumption) ?_ | refine And.intro rfl ?_ | refine lx_isA (by assumption) ?_ | refine lx_nA (by assumption) ?_ | refine ly_isA (by assumption) ?_ | refine ly_nA (by assumption) ?_)
            exact J
          by_cases b8 : v4 ≤ 128
          · repeat (first | refine br_t (by assumption) ?_ | refine br_f (by assumption) ?_ | refine br_t (by decide) ?_ | refine br_f (by decide) ?_ | refine nm_e ?_ | refine And.intro (by assumption) ?_ | refine And.intro rfl ?_ | refine lx_isA (by assumption) ?_ | refine lx_nA (by assumption) ?_ | refine ly_isA (by assumption) ?_ | refine ly_nA (by assumption) ?_)
            exact J
          · repeat (first | refine br_t (by assumption) ?_ | refine br_f (by assumption) ?_ | refine br_t (by decide) ?_ | refine br_f (by decide) ?_ | refine nm_e ?_ | refine And.intro (by assumption) ?_ | refine And.intro rfl ?_ | refine lx_isA (by assumption) ?_ | refine lx_nA (by assumption) ?_ | refine ly_isA (by assumption) ?_ | refine ly_nA (by assumption) ?_)
            exact J
        · repeat (first | refine br_t (by assumption) ?_ | refine br_f (by assumption) ?_ | refine br_t (by decide) ?_ | refine br_f (by decide) ?_ | refine nm_e ?_ | refine And.intro (by assumption) ?_ | refine And.intro rfl ?_ | refine lx_isA (by assumption) ?_ | refine lx_nA (by assumption) ?_ | refine ly_isA (by assumption) ?_ | refine ly_nA (by assumption) ?_)
          exact J
    · repeat (first | refine br_t (by assumption) ?_ | refine br_f (by assumption) ?_ | refine br_t (by decide) ?_ | refine br_f (by decide) ?_ | refine nm_e ?_ | refine And.intro (by assumption) ?_ | refine And.intro rfl ?_ | refine lx_isA (by assumption) ?_ | refine lx_nA (by assumption) ?_ | refine ly_isA (by assumption) ?_ | refine ly_nA (by assumption) ?_)
      exact J
  · repeat (first | refine br_t (by assumption) ?_ | refine br_f (by assumption) ?_ | refine br_t (by decide) ?_ | refine br_f (by decide) ?_ | refine nm_e ?_ | refine And.intro (by assumption) ?_ | refine And.intro rfl ?_ | refine lx_isA (by assumption) ?_ | refine lx_nA (by assumption) ?_ | refine ly_isA (by assumption) ?_ | refine ly_nA (by assumption) ?_)
    exact J
end
