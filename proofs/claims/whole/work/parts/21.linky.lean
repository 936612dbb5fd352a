
section
/-! U: link on Y's side: who is taken, who is live -/
theorem ly_in {post : SY → Prop} {J2 : Int32 → (Nat → Int32) → (Nat → Int32) → (Nat → Int32) → (Nat → Int32) → (Nat → Int32) → (Nat → Int32) → (Nat → Int32) → (Nat → Int32) → (Nat → Int32) → (Nat → Int32) → (Nat → Int32) → (Nat → Int32) → (Nat → Int32) → (Nat → Int32) → (Nat → Int32) → (Nat → Int32) → (Nat → Int32) → (Nat → Int32) → (Nat → Int32) → (Nat → Int32) → (Nat → Int32) → (Nat → Int32) → (Nat → Int32) → (Nat → Int32) → (Nat → Int32) → (Nat → Int32) → (Nat → Int32) → (Nat → Int32) → (Nat → Int32) → (Nat → Int32) → (Nat → Int32) → (Nat → Int32) → Prop} {R0 R1 ns no ng ni nb nr : Nat} {yphase yopenOut yinGroup ycur yfinalC0 yfinalC1 : Int32} {ystOp ystA ystB ystOut youtReg youtLoaded youtGroup youtVma youtLma youtSize youtAlign youtRes ygStart ygEnd yinKind yinId yinAlign yinBss yinStart yinLen yinStmt yinLive yinVma yinLma ybytes yrSec yrOff yrType yrTgt yrAdd yrom yram : Nat → Int32} {gc : Int32} {s : Nat} (hs : s < 16) (hn : ns ≤ 32) (h : wY_assign_151 post J2 gc (nI s) (nI R0) (nI R1) yphase (nI ns) (nI no) (nI ng) (nI ni) (nI nb) (nI nr) yopenOut yinGroup ycur yfinalC0 yfinalC1 ystOp ystA ystB ystOut youtReg youtLoaded youtGroup youtVma youtLma youtSize youtAlign youtRes ygStart ygEnd yinKind yinId yinAlign yinBss yinStart yinLen (upd yinStmt s (lk_fm ystOp ystA ystB yinKind yinId ns s)) yinLive yinVma yinLma ybytes yrSec yrOff yrType yrTgt yrAdd yrom yram) : ∃ n, wY_assign_46 post J2 gc (nI s) (nI R0) (nI R1) yphase (nI ns) (nI no) (nI ng) (nI ni) (nI nb) (nI nr) yopenOut yinGroup ycur yfinalC0 yfinalC1 n 0 ystOp ystA ystB ystOut youtReg youtLoaded youtGroup youtVma youtLma youtSize youtAlign youtRes ygStart ygEnd yinKind yinId yinAlign yinBss yinStart yinLen (upd yinStmt s (-1)) yinLive yinVma yinLma ybytes yrSec yrOff yrType yrTgt yrAdd yrom yram := by
  have es : (nI s).toNatClampNeg = s := nI_clamp (by omega)
  have vs : vp_in (nI s) 16 := vp_in_nI hs (by omega)
  have H : ∀ d i, i + d = ns → wY_assign_46 post J2 gc (nI s) (nI R0) (nI R1) yphase (nI ns) (nI no) (nI ng) (nI ni) (nI nb) (nI nr) yopenOut yinGroup ycur yfinalC0 yfinalC1 (d + 1) (nI i) ystOp ystA ystB ystOut youtReg youtLoaded youtGroup youtVma youtLma youtSize youtAlign youtRes ygStart ygEnd yinKind yinId yinAlign yinBss yinStart yinLen (upd yinStmt s (lk_ff (lk_mt ystOp ystA ystB yinKind yinId s) i 0)) yinLive yinVma yinLma ybytes yrSec yrOff yrType yrTgt yrAdd yrom yram := by
    intro d
    induction d with
    | zero =>
      intro i hi
      have e1 : i = ns := hi
      subst e1
      exact br_t (nI_le (by omega) (by omega)) h
    | succ d ih =>
      intro i hi
      have hi2 := ih (i + 1) (by omega)
      have e : (nI i).toNatClampNeg = i := nI_clamp (by omega)
      have vi : vp_in (nI i) 32 := vp_in_nI (by omega) (by omega)
      have sn := lk_ff_sn (lk_mt ystOp ystA ystB yinKind yinId s) i 0 (by omega)
      rw [Nat.zero_add] at sn
      have w : upd yinStmt s (lk_ff (lk_mt ystOp ystA ystB yinKind yinId s) i 0) (nI s).toNatClampNeg = lk_ff (lk_mt ystOp ystA ystB yinKind yinId s) i 0 := by rw [es, pk_us]
      refine br_f (nI_ge (by omega) (by omega)) (br_f (nI_ge (b := 32) (by omega) (by omega)) ⟨vs, ?_⟩)
      rcases lk_ff_or (lk_mt ystOp ystA ystB yinKind yinId s) i 0 with z | ⟨q, _, hq, _, z⟩
      · refine br_f (by rw [w, z]; decide) ?_
        rw [z, if_pos rfl] at sn
        have H1 : ((ystOp (nI i).toNatClampNeg = 3 ∨ ystOp (nI i).toNatClampNeg = 4) ∧ (ystA (nI i).toNatClampNeg = -1 ∨ ystA (nI i).toNatClampNeg = yinId (nI s).toNatClampNeg) ∧ (ystB (nI i).toNatClampNeg = 0 ∨ ystB (nI i).toNatClampNeg = yinKind (nI s).toNatClampNeg)) → wY_assign_46 post J2 gc (nI s) (nI R0) (nI R1) yphase (nI ns) (nI no) (nI ng) (nI ni) (nI nb) (nI nr) yopenOut yinGroup ycur yfinalC0 yfinalC1 (d + 1) (nI i + 1) ystOp ystA ystB ystOut youtReg youtLoaded youtGroup youtVma youtLma youtSize youtAlign youtRes ygStart ygEnd yinKind yinId yinAlign yinBss yinStart yinLen (upd (upd yinStmt s (lk_ff (lk_mt ystOp ystA ystB yinKind yinId s) i 0)) (nI s).toNatClampNeg (nI i)) yinLive yinVma yinLma ybytes yrSec yrOff yrType yrTgt yrAdd yrom yram := by
          rw [e, es, lk_uu, nI_1]
          intro y
          rw [if_pos (show lk_mt ystOp ystA ystB yinKind yinId s i = true from decide_eq_true y)] at sn
          rw [sn] at hi2
          exact hi2
        have H2 : ¬ ((ystOp (nI i).toNatClampNeg = 3 ∨ ystOp (nI i).toNatClampNeg = 4) ∧ (ystA (nI i).toNatClampNeg = -1 ∨ ystA (nI i).toNatClampNeg = yinId (nI s).toNatClampNeg) ∧ (ystB (nI i).toNatClampNeg = 0 ∨ ystB (nI i).toNatClampNeg = yinKind (nI s).toNatClampNeg)) → wY_assign_46 post J2 gc (nI s) (nI R0) (nI R1) yphase (nI ns) (nI no) (nI ng) (nI ni) (nI nb) (nI nr) yopenOut yinGroup ycur yfinalC0 yfinalC1 (d + 1) (nI i + 1) ystOp ystA ystB ystOut youtReg youtLoaded youtGroup youtVma youtLma youtSize youtAlign youtRes ygStart ygEnd yinKind yinId yinAlign yinBss yinStart yinLen (upd yinStmt s (lk_ff (lk_mt ystOp ystA ystB yinKind yinId s) i 0)) yinLive yinVma yinLma ybytes yrSec yrOff yrType yrTgt yrAdd yrom yram := by
          rw [e, es, nI_1, z]
          intro y
          rw [if_neg (show ¬ lk_mt ystOp ystA ystB yinKind yinId s i = true from fun x => y (of_decide_eq_true x))] at sn
          rw [sn] at hi2
          exact hi2
        clear ih h hi2 sn w
        by_cases t1 : ystOp (nI i).toNatClampNeg = 3
        · by_cases a1 : ystA (nI i).toNatClampNeg = -1
          · by_cases b1 : ystB (nI i).toNatClampNeg = 0
            · repeat (first | refine br_t (by assumption) ?_ | refine br_f (by assumption) ?_ | refine br_t (by decide) ?_ | refine br_f (by decide) ?_ | refine nm_e ?_ | refine And.intro (by assumption) ?_)
              exact H1 ⟨Or.inl t1, Or.inl a1, Or.inl b1⟩
            by_cases b2 : ystB (nI i).toNatClampNeg = yinKind (nI s).toNatClampNeg
            · repeat (first | refine br_t (by assumption) ?_ | refine br_f (by assumption) ?_ | refine br_t (by decide) ?_ | refine br_f (by decide) ?_ | refine nm_e ?_ | refine And.intro (by assumption) ?_)
              exact H1 ⟨Or.inl t1, Or.inl a1, Or.inr b2⟩
            repeat (first | refine br_t (by assumption) ?_ | refine br_f (by assumption) ?_ | refine br_t (by decide) ?_ | refine br_f (by decide) ?_ | refine nm_e ?_ | refine And.intro (by assumption) ?_)
            exact H2 (fun z => z.2.2.elim b1 b2)
          by_cases a2 : ystA (nI i).toNatClampNeg = yinId (nI s).toNatClampNeg
          · by_cases b1 : ystB (nI i).toNatClampNeg = 0
            · repeat (first | refine br_t (by assumption) ?_ | refine br_f (by assumption) ?_ | refine br_t (by decide) ?_ | refine br_f (by decide) ?_ | refine nm_e ?_ | refine And.intro (by assumption) ?_)
              exact H1 ⟨Or.inl t1, Or.inr a2, Or.inl b1⟩
            by_cases b2 : ystB (nI i).toNatClampNeg = yinKind (nI s).toNatClampNeg
            · repeat (first | refine br_t (by assumption) ?_ | refine br_f (by assumption) ?_ | refine br_t (by decide) ?_ | refine br_f (by decide) ?_ | refine nm_e ?_ | refine And.intro (by assumption) ?_)
              exact H1 ⟨Or.inl t1, Or.inr a2, Or.inr b2⟩
            repeat (first | refine br_t (by assumption) ?_ | refine br_f (by assumption) ?_ | refine br_t (by decide) ?_ | refine br_f (by decide) ?_ | refine nm_e ?_ | refine And.intro (by assumption) ?_)
            exact H2 (fun z => z.2.2.elim b1 b2)
          repeat (first | refine br_t (by assumption) ?_ | refine br_f (by assumption) ?_ | refine br_t (by decide) ?_ | refine br_f (by decide) ?_ | refine nm_e ?_ | refine And.intro (by assumption) ?_)
          exact H2 (fun z => z.2.1.elim a1 a2)
        by_cases t2 : ystOp (nI i).toNatClampNeg = 4
        · by_cases a1 : ystA (nI i).toNatClampNeg = -1
          · by_cases b1 : ystB (nI i).toNatClampNeg = 0
            · repeat (first | refine br_t (by assumption) ?_ | refine br_f (by assumption) ?_ | refine br_t (by decide) ?_ | refine br_f (by decide) ?_ | refine nm_e ?_ | refine And.intro (by assumption) ?_)
              exact H1 ⟨Or.inr t2, Or.inl a1, Or.inl b1⟩
            by_cases b2 : ystB (nI i).toNatClampNeg = yinKind (nI s).toNatClampNeg
            · repeat (first | refine br_t (by assumption) ?_ | refine br_f (by assumption) ?_ | refine br_t (by decide) ?_ | refine br_f (by decide) ?_ | refine nm_e ?_ | refine And.intro (by assumption) ?_)
              exact H1 ⟨Or.inr t2, Or.inl a1, Or.inr b2⟩
            repeat (first | refine br_t (by assumption) ?_ | refine br_f (by assumption) ?_ | refine br_t (by decide) ?_ | refine br_f (by decide) ?_ | refine nm_e ?_ | refine And.intro (by assumption) ?_)
            exact H2 (fun z => z.2.2.elim b1 b2)
          by_cases a2 : ystA (nI i).toNatClampNeg = yinId (nI s).toNatClampNeg
          · by_cases b1 : ystB (nI i).toNatClampNeg = 0
            · repeat (first | refine br_t (by assumption) ?_ | refine br_f (by assumption) ?_ | refine br_t (by decide) ?_ | refine br_f (by decide) ?_ | refine nm_e ?_ | refine And.intro (by assumption) ?_)
              exact H1 ⟨Or.inr t2, Or.inr a2, Or.inl b1⟩
            by_cases b2 : ystB (nI i).toNatClampNeg = yinKind (nI s).toNatClampNeg
            · repeat (first | refine br_t (by assumption) ?_ | refine br_f (by assumption) ?_ | refine br_t (by decide) ?_ | refine br_f (by decide) ?_ | refine nm_e ?_ | refine And.intro (by assumption) ?_)
              exact H1 ⟨Or.inr t2, Or.inr a2, Or.inr b2⟩
            repeat (first | refine br_t (by assumption) ?_ | refine br_f (by assumption) ?_ | refine br_t (by decide) ?_ | refine br_f (by decide) ?_ | refine nm_e ?_ | refine And.intro (by assumption) ?_)
            exact H2 (fun z => z.2.2.elim b1 b2)
          repeat (first | refine br_t (by assumption) ?_ | refine br_f (by assumption) ?_ | refine br_t (by decide) ?_ | refine br_f (by decide) ?_ | refine nm_e ?_ | refine And.intro (by assumption) ?_)
          exact H2 (fun z => z.2.1.elim a1 a2)
        repeat (first | refine br_t (by assumption) ?_ | refine br_f (by assumption) ?_ | refine br_t (by decide) ?_ | refine br_f (by decide) ?_ | refine nm_e ?_ | refine And.intro (by assumption) ?_)
        exact H2 (fun z => z.1.elim t1 t2)
      · refine br_t (by rw [w, z]; exact nI_pos' (by omega)) (nm_r (nI_1 i) ?_)
        rw [z, if_neg (lk_nn1 (by omega))] at sn
        rw [sn] at hi2
        rw [z]
        exact hi2
  exact ⟨_, H ns 0 (by omega)⟩
theorem ly_as {post : SY → Prop} {R0 R1 ns no ng ni nb nr : Nat} {yphase yopenOut yinGroup ycur yfinalC0 yfinalC1 : Int32} {ystOp ystA ystB ystOut youtReg youtLoaded youtGroup youtVma youtLma youtSize youtAlign youtRes ygStart ygEnd yinKind yinId yinAlign yinBss yinStart yinLen yinStmt yinLive yinVma yinLma ybytes yrSec yrOff yrType yrTgt yrAdd yrom yram : Nat → Int32} {gc : Int32} (h16 : ni ≤ 16) (hn : ns ≤ 32) (h : post ((nI R0), (nI R1), yphase, (nI ns), (nI no), (nI ng), (nI ni), (nI nb), (nI nr), yopenOut, yinGroup, ycur, yfinalC0, yfinalC1, ystOp, ystA, ystB, ystOut, youtReg, youtLoaded, youtGroup, youtVma, youtLma, youtSize, youtAlign, youtRes, ygStart, ygEnd, yinKind, yinId, yinAlign, yinBss, yinStart, yinLen, (lk_as yinStmt ni (lk_fm ystOp ystA ystB yinKind yinId ns)), (lk_as yinLive ni (lk_l0 ystOp (lk_fm ystOp ystA ystB yinKind yinId ns) gc)), (lk_as yinVma ni (fun _ => -1)), (lk_as yinLma ni (fun _ => -1)), ybytes, yrSec, yrOff, yrType, yrTgt, yrAdd, yrom, yram)) : wpY_assign post ((nI R0), (nI R1), yphase, (nI ns), (nI no), (nI ng), (nI ni), (nI nb), (nI nr), yopenOut, yinGroup, ycur, yfinalC0, yfinalC1, ystOp, ystA, ystB, ystOut, youtReg, youtLoaded, youtGroup, youtVma, youtLma, youtSize, youtAlign, youtRes, ygStart, ygEnd, yinKind, yinId, yinAlign, yinBss, yinStart, yinLen, yinStmt, yinLive, yinVma, yinLma, ybytes, yrSec, yrOff, yrType, yrTgt, yrAdd, yrom, yram) gc := by
  have H : ∀ d s, s + d = ni → wY_assign_2 post gc (nI R0) (nI R1) yphase (nI ns) (nI no) (nI ng) (nI ni) (nI nb) (nI nr) yopenOut yinGroup ycur yfinalC0 yfinalC1 (d + 1) (nI s) ystOp ystA ystB ystOut youtReg youtLoaded youtGroup youtVma youtLma youtSize youtAlign youtRes ygStart ygEnd yinKind yinId yinAlign yinBss yinStart yinLen (lk_as yinStmt s (lk_fm ystOp ystA ystB yinKind yinId ns)) (lk_as yinLive s (lk_l0 ystOp (lk_fm ystOp ystA ystB yinKind yinId ns) gc)) (lk_as yinVma s (fun _ => -1)) (lk_as yinLma s (fun _ => -1)) ybytes yrSec yrOff yrType yrTgt yrAdd yrom yram := by
    intro d
    induction d with
    | zero =>
      intro s hs
      have e1 : s = ni := hs
      subst e1
      exact br_t (nI_le (by omega) (by omega)) h
    | succ d ih =>
      intro s hs
      have es : (nI s).toNatClampNeg = s := nI_clamp (by omega)
      have vs : vp_in (nI s) 16 := vp_in_nI (by omega) (by omega)
      have hi := ih (s + 1) (by omega)
      refine br_f (nI_ge (by omega) (by omega)) (br_f (nI_ge (b := 16) (by omega) (by omega)) ⟨vs, nm_r (e' := upd (lk_as yinStmt s (lk_fm ystOp ystA ystB yinKind yinId ns)) s (-1)) (by rw [es]) ⟨vs, nm_r (e' := upd (lk_as yinLive s (lk_l0 ystOp (lk_fm ystOp ystA ystB yinKind yinId ns) gc)) s 0) (by rw [es]) ⟨vs, nm_r (e' := lk_as yinVma (s + 1) (fun _ => -1)) (by rw [es]; exact lk_as_s rfl) ⟨vs, nm_r (e' := lk_as yinLma (s + 1) (fun _ => -1)) (by rw [es]; exact lk_as_s rfl) (ly_in (by omega) hn ?_)⟩⟩⟩⟩)
      rw [show upd (lk_as yinStmt s (lk_fm ystOp ystA ystB yinKind yinId ns)) s (lk_fm ystOp ystA ystB yinKind yinId ns s) = lk_as yinStmt (s + 1) (lk_fm ystOp ystA ystB yinKind yinId ns) from lk_as_s rfl]
      have w : lk_as yinStmt (s + 1) (lk_fm ystOp ystA ystB yinKind yinId ns) (nI s).toNatClampNeg = lk_fm ystOp ystA ystB yinKind yinId ns s := by rw [es]; exact lk_as_t (Nat.lt_succ_self s)
      refine ⟨vs, ?_⟩
      rcases lk_fm_or (op := ystOp) (sa := ystA) (sb := ystB) (kd := yinKind) (id := yinId) (ns := ns) (s := s) with z | ⟨q, hq, _, z⟩
      · refine br_t (by rw [w, z]; decide) (nm_r (nI_1 s) ?_)
        rw [lk_as_s (if_neg (fun y => y.1 z)).symm]
        exact hi
      · have nz : ¬ lk_fm ystOp ystA ystB yinKind yinId ns s = -1 := by rw [z]; exact lk_nn1 (by omega)
        refine br_f (by rw [w, z]; exact nI_pos (by omega)) ?_
        by_cases b : gc = 0
        · refine br_t b ⟨vs, nm_r ?_ (nm_r (nI_1 s) hi)⟩
          rw [es, lk_uu]
          exact lk_as_s (if_pos ⟨nz, Or.inl b⟩).symm
        · have v2 : vp_in (lk_as yinStmt (s + 1) (lk_fm ystOp ystA ystB yinKind yinId ns) (nI s).toNatClampNeg) 32 := by rw [w, z]; exact vp_in_nI (by omega) (by omega)
          refine br_f b ⟨vs, v2, ?_⟩
          by_cases c : ystOp (lk_as yinStmt (s + 1) (lk_fm ystOp ystA ystB yinKind yinId ns) (nI s).toNatClampNeg).toNatClampNeg = 4
          · refine br_t c ⟨vs, nm_r ?_ (nm_r (nI_1 s) hi)⟩
            rw [w] at c
            rw [es, lk_uu]
            exact lk_as_s (if_pos ⟨nz, Or.inr c⟩).symm
          · refine br_f c (nm_r (nI_1 s) ?_)
            rw [w] at c
            rw [lk_as_s (if_neg (fun y => y.2.elim b c)).symm]
            exact hi
  have H2 := H ni 0 (by omega)
  rw [lk_as_0, lk_as_0, lk_as_0, lk_as_0] at H2
  exact ⟨_, H2⟩
theorem ly_pass {post : SY → Prop} {J2 : Int32 → (Nat → Int32) → (Nat → Int32) → (Nat → Int32) → (Nat → Int32) → (Nat → Int32) → (Nat → Int32) → (Nat → Int32) → (Nat → Int32) → (Nat → Int32) → (Nat → Int32) → (Nat → Int32) → (Nat → Int32) → (Nat → Int32) → (Nat → Int32) → (Nat → Int32) → (Nat → Int32) → (Nat → Int32) → (Nat → Int32) → (Nat → Int32) → (Nat → Int32) → (Nat → Int32) → (Nat → Int32) → (Nat → Int32) → (Nat → Int32) → (Nat → Int32) → (Nat → Int32) → (Nat → Int32) → (Nat → Int32) → (Nat → Int32) → (Nat → Int32) → (Nat → Int32) → (Nat → Int32) → Prop} {R0 R1 ns no ng ni nb nr : Nat} {yphase yopenOut yinGroup ycur yfinalC0 yfinalC1 : Int32} {ystOp ystA ystB ystOut youtReg youtLoaded youtGroup youtVma youtLma youtSize youtAlign youtRes ygStart ygEnd yinKind yinId yinAlign yinBss yinStart yinLen yinStmt yinLive yinVma yinLma ybytes yrSec yrOff yrType yrTgt yrAdd yrom yram : Nat → Int32} {x1 : Int32} (hq : lk_hq ni nr yrSec yrTgt) (ht : lk_ht ni yinStmt) (h : J2 (x1 + 1) ystOp ystA ystB ystOut youtReg youtLoaded youtGroup youtVma youtLma youtSize youtAlign youtRes ygStart ygEnd yinKind yinId yinAlign yinBss yinStart yinLen yinStmt (lk_ps (lk_sp yrSec yrTgt yinStmt ni) nr yinLive) yinVma yinLma ybytes yrSec yrOff yrType yrTgt yrAdd yrom yram) : ∃ n, wY_closeLive_10 post J2 x1 (nI R0) (nI R1) yphase (nI ns) (nI no) (nI ng) (nI ni) (nI nb) (nI nr) yopenOut yinGroup ycur yfinalC0 yfinalC1 n 0 ystOp ystA ystB ystOut youtReg youtLoaded youtGroup youtVma youtLma youtSize youtAlign youtRes ygStart ygEnd yinKind yinId yinAlign yinBss yinStart yinLen yinStmt yinLive yinVma yinLma ybytes yrSec yrOff yrType yrTgt yrAdd yrom yram := by
  obtain ⟨q1, q2, q3⟩ := hq
  have H : ∀ d r, r + d = nr → wY_closeLive_10 post J2 x1 (nI R0) (nI R1) yphase (nI ns) (nI no) (nI ng) (nI ni) (nI nb) (nI nr) yopenOut yinGroup ycur yfinalC0 yfinalC1 (d + 1) (nI r) ystOp ystA ystB ystOut youtReg youtLoaded youtGroup youtVma youtLma youtSize youtAlign youtRes ygStart ygEnd yinKind yinId yinAlign yinBss yinStart yinLen yinStmt (lk_ps (lk_sp yrSec yrTgt yinStmt ni) r yinLive) yinVma yinLma ybytes yrSec yrOff yrType yrTgt yrAdd yrom yram := by
    intro d
    induction d with
    | zero =>
      intro r hr
      have e1 : r = nr := hr
      subst e1
      exact br_t (nI_le (by omega) (by omega)) (nm_e h)
    | succ d ih =>
      intro r hr
      obtain ⟨o, t, ho, eo, ht16, et⟩ := q3 r (by omega)
      have e : (nI r).toNatClampNeg = r := nI_clamp (by omega)
      have v1 : vp_in (nI r) 32 := vp_in_nI (by omega) (by omega)
      have v2 : vp_in (yrSec (nI r).toNatClampNeg) 16 := by rw [e, eo]; exact vp_in_nI (by omega) (by omega)
      have c := lk_on_t (st := yinStmt) (ni := ni) (by omega) (by omega) et
      have hi := ih (r + 1) (by omega)
      have es : lk_ps (lk_sp yrSec yrTgt yinStmt ni) (r + 1) yinLive = lk_sp yrSec yrTgt yinStmt ni r (lk_ps (lk_sp yrSec yrTgt yinStmt ni) r yinLive) := rfl
      rw [es] at hi
      refine br_f (nI_ge (by omega) (by omega)) (br_f (nI_ge (b := 32) (by omega) (by omega)) ⟨v1, nm_r (e' := nI t) (by rw [e, et]) ⟨v1, v2, ?_⟩⟩)
      have hn : ¬ (lk_ps (lk_sp yrSec yrTgt yinStmt ni) r yinLive (yrSec r).toNatClampNeg = 1 ∧ lk_on yrTgt yinStmt ni r = true) → wY_closeLive_10 post J2 x1 (nI R0) (nI R1) yphase (nI ns) (nI no) (nI ng) (nI ni) (nI nb) (nI nr) yopenOut yinGroup ycur yfinalC0 yfinalC1 (d + 1) (nI (r + 1)) ystOp ystA ystB ystOut youtReg youtLoaded youtGroup youtVma youtLma youtSize youtAlign youtRes ygStart ygEnd yinKind yinId yinAlign yinBss yinStart yinLen yinStmt (lk_ps (lk_sp yrSec yrTgt yinStmt ni) r yinLive) yinVma yinLma ybytes yrSec yrOff yrType yrTgt yrAdd yrom yram := by
        intro y
        have e2 : lk_sp yrSec yrTgt yinStmt ni r (lk_ps (lk_sp yrSec yrTgt yinStmt ni) r yinLive) = lk_ps (lk_sp yrSec yrTgt yinStmt ni) r yinLive := if_neg y
        rw [e2] at hi
        exact hi
      by_cases a : lk_ps (lk_sp yrSec yrTgt yinStmt ni) r yinLive (yrSec (nI r).toNatClampNeg).toNatClampNeg = 1
      · refine br_t a (br_f (nI_pos (by omega)) ?_)
        rw [e] at a
        by_cases b : ni ≤ t
        · exact br_t (nI_le b (by omega)) (nm_r (nI_1 r) (hn (fun y => by have := (c.mp y.2).1; omega)))
        · refine br_f (nI_ge (by omega) (by omega)) ⟨vp_in_nI (by omega) (by omega), ?_⟩
          rcases ht t (by omega) with z | ⟨q, hq2, z⟩
          · exact br_t (by rw [nI_clamp (by omega), z]; decide) (nm_r (nI_1 r) (hn (fun y => (c.mp y.2).2 z)))
          · refine br_f (by rw [nI_clamp (by omega), z]; exact nI_pos (by omega)) ⟨vp_in_nI (by omega) (by omega), nm_r ?_ (nm_r (nI_1 r) hi)⟩
            have on : lk_on yrTgt yinStmt ni r = true := c.mpr ⟨by omega, by rw [z]; exact lk_nn1 (by omega)⟩
            have e2 : lk_sp yrSec yrTgt yinStmt ni r (lk_ps (lk_sp yrSec yrTgt yinStmt ni) r yinLive) = upd (lk_ps (lk_sp yrSec yrTgt yinStmt ni) r yinLive) (yrTgt r).toNatClampNeg 1 := if_pos ⟨a, on⟩
            rw [e2, et]
      · refine br_f a (nm_r (nI_1 r) (hn (fun y => a ?_)))
        rw [e]
        exact y.1
  exact ⟨_, H nr 0 (by omega)⟩
theorem ly_close {post : SY → Prop} {R0 R1 ns no ng ni nb nr : Nat} {yphase yopenOut yinGroup ycur yfinalC0 yfinalC1 : Int32} {ystOp ystA ystB ystOut youtReg youtLoaded youtGroup youtVma youtLma youtSize youtAlign youtRes ygStart ygEnd yinKind yinId yinAlign yinBss yinStart yinLen yinStmt yinLive yinVma yinLma ybytes yrSec yrOff yrType yrTgt yrAdd yrom yram : Nat → Int32} (hq : lk_hq ni nr yrSec yrTgt) (ht : lk_ht ni yinStmt) (h : post ((nI R0), (nI R1), yphase, (nI ns), (nI no), (nI ng), (nI ni), (nI nb), (nI nr), yopenOut, yinGroup, ycur, yfinalC0, yfinalC1, ystOp, ystA, ystB, ystOut, youtReg, youtLoaded, youtGroup, youtVma, youtLma, youtSize, youtAlign, youtRes, ygStart, ygEnd, yinKind, yinId, yinAlign, yinBss, yinStart, yinLen, yinStmt, (lk_it (lk_sp yrSec yrTgt yinStmt ni) nr 17 yinLive), yinVma, yinLma, ybytes, yrSec, yrOff, yrType, yrTgt, yrAdd, yrom, yram)) : wpY_closeLive post ((nI R0), (nI R1), yphase, (nI ns), (nI no), (nI ng), (nI ni), (nI nb), (nI nr), yopenOut, yinGroup, ycur, yfinalC0, yfinalC1, ystOp, ystA, ystB, ystOut, youtReg, youtLoaded, youtGroup, youtVma, youtLma, youtSize, youtAlign, youtRes, ygStart, ygEnd, yinKind, yinId, yinAlign, yinBss, yinStart, yinLen, yinStmt, yinLive, yinVma, yinLma, ybytes, yrSec, yrOff, yrType, yrTgt, yrAdd, yrom, yram) := by
  have H : ∀ d x, x + d = 17 → wY_closeLive_2 post (nI R0) (nI R1) yphase (nI ns) (nI no) (nI ng) (nI ni) (nI nb) (nI nr) yopenOut yinGroup ycur yfinalC0 yfinalC1 (d + 1) (nI x) ystOp ystA ystB ystOut youtReg youtLoaded youtGroup youtVma youtLma youtSize youtAlign youtRes ygStart ygEnd yinKind yinId yinAlign yinBss yinStart yinLen yinStmt (lk_it (lk_sp yrSec yrTgt yinStmt ni) nr x yinLive) yinVma yinLma ybytes yrSec yrOff yrType yrTgt yrAdd yrom yram := by
    intro d
    induction d with
    | zero =>
      intro x hx
      have e1 : x = 17 := hx
      subst e1
      exact br_t (by decide) h
    | succ d ih =>
      intro x hx
      have hi := ih (x + 1) (by omega)
      rw [← nI_1] at hi
      exact br_f (nI_nlt (a := 16) (b := x) (by omega) (by omega)) (ly_pass hq ht hi)
  exact ⟨_, H 17 0 rfl⟩
theorem ly_ud {post : Int32 → SY → Prop} {R0 R1 ns no ng ni nb nr : Nat} {yphase yopenOut yinGroup ycur yfinalC0 yfinalC1 : Int32} {ystOp ystA ystB ystOut youtReg youtLoaded youtGroup youtVma youtLma youtSize youtAlign youtRes ygStart ygEnd yinKind yinId yinAlign yinBss yinStart yinLen yinStmt yinLive yinVma yinLma ybytes yrSec yrOff yrType yrTgt yrAdd yrom yram : Nat → Int32} (hq : lk_hq ni nr yrSec yrTgt) (ht : lk_ht ni yinStmt) (h1 : lk_ex (lk_ud yrSec yrTgt yinStmt yinLive ni) nr 0 = true → post (-6) ((nI R0), (nI R1), yphase, (nI ns), (nI no), (nI ng), (nI ni), (nI nb), (nI nr), yopenOut, yinGroup, ycur, yfinalC0, yfinalC1, ystOp, ystA, ystB, ystOut, youtReg, youtLoaded, youtGroup, youtVma, youtLma, youtSize, youtAlign, youtRes, ygStart, ygEnd, yinKind, yinId, yinAlign, yinBss, yinStart, yinLen, yinStmt, yinLive, yinVma, yinLma, ybytes, yrSec, yrOff, yrType, yrTgt, yrAdd, yrom, yram)) (h0 : lk_ex (lk_ud yrSec yrTgt yinStmt yinLive ni) nr 0 = false → ∃ n, wY_link_105 post (nI R0) (nI R1) yphase (nI ns) (nI no) (nI ng) (nI ni) (nI nb) (nI nr) yopenOut yinGroup ycur yfinalC0 yfinalC1 ystOp ystA ystB ystOut youtReg youtLoaded youtGroup youtVma youtLma youtSize youtAlign youtRes ygStart ygEnd yinKind yinId yinAlign yinBss yinStart yinLen yinStmt yinLive yinVma yinLma ybytes yrSec yrOff yrType yrTgt yrAdd yrom yram n 0) : ∃ n, wY_link_37 post (nI R0) (nI R1) yphase (nI ns) (nI no) (nI ng) (nI ni) (nI nb) (nI nr) yopenOut yinGroup ycur yfinalC0 yfinalC1 ystOp ystA ystB ystOut youtReg youtLoaded youtGroup youtVma youtLma youtSize youtAlign youtRes ygStart ygEnd yinKind yinId yinAlign yinBss yinStart yinLen yinStmt yinLive yinVma yinLma ybytes yrSec yrOff yrType yrTgt yrAdd yrom yram n 0 := by
  obtain ⟨q1, q2, q3⟩ := hq
  have H : ∀ d r, r + d = nr → (lk_ex (lk_ud yrSec yrTgt yinStmt yinLive ni) d r = true → post (-6) ((nI R0), (nI R1), yphase, (nI ns), (nI no), (nI ng), (nI ni), (nI nb), (nI nr), yopenOut, yinGroup, ycur, yfinalC0, yfinalC1, ystOp, ystA, ystB, ystOut, youtReg, youtLoaded, youtGroup, youtVma, youtLma, youtSize, youtAlign, youtRes, ygStart, ygEnd, yinKind, yinId, yinAlign, yinBss, yinStart, yinLen, yinStmt, yinLive, yinVma, yinLma, ybytes, yrSec, yrOff, yrType, yrTgt, yrAdd, yrom, yram)) → (lk_ex (lk_ud yrSec yrTgt yinStmt yinLive ni) d r = false → ∃ n, wY_link_105 post (nI R0) (nI R1) yphase (nI ns) (nI no) (nI ng) (nI ni) (nI nb) (nI nr) yopenOut yinGroup ycur yfinalC0 yfinalC1 ystOp ystA ystB ystOut youtReg youtLoaded youtGroup youtVma youtLma youtSize youtAlign youtRes ygStart ygEnd yinKind yinId yinAlign yinBss yinStart yinLen yinStmt yinLive yinVma yinLma ybytes yrSec yrOff yrType yrTgt yrAdd yrom yram n 0) → wY_link_37 post (nI R0) (nI R1) yphase (nI ns) (nI no) (nI ng) (nI ni) (nI nb) (nI nr) yopenOut yinGroup ycur yfinalC0 yfinalC1 ystOp ystA ystB ystOut youtReg youtLoaded youtGroup youtVma youtLma youtSize youtAlign youtRes ygStart ygEnd yinKind yinId yinAlign yinBss yinStart yinLen yinStmt yinLive yinVma yinLma ybytes yrSec yrOff yrType yrTgt yrAdd yrom yram (d + 1) (nI r) := by
    intro d
    induction d with
    | zero => intro r hr _ h0; exact br_t (nI_le (by omega) (by omega)) (h0 rfl)
    | succ d ih =>
      intro r hr h1 h0
      obtain ⟨o, t, ho, eo, ht16, et⟩ := q3 r (by omega)
      have e : (nI r).toNatClampNeg = r := nI_clamp (by omega)
      have v1 : vp_in (nI r) 32 := vp_in_nI (by omega) (by omega)
      have v2 : vp_in (yrSec (nI r).toNatClampNeg) 16 := by rw [e, eo]; exact vp_in_nI (by omega) (by omega)
      have c := lk_on_t (st := yinStmt) (ni := ni) (by omega) (by omega) et
      have hn : ¬ lk_ud yrSec yrTgt yinStmt yinLive ni r = true → wY_link_37 post (nI R0) (nI R1) yphase (nI ns) (nI no) (nI ng) (nI ni) (nI nb) (nI nr) yopenOut yinGroup ycur yfinalC0 yfinalC1 ystOp ystA ystB ystOut youtReg youtLoaded youtGroup youtVma youtLma youtSize youtAlign youtRes ygStart ygEnd yinKind yinId yinAlign yinBss yinStart yinLen yinStmt yinLive yinVma yinLma ybytes yrSec yrOff yrType yrTgt yrAdd yrom yram (d + 1) (nI (r + 1)) := by
        intro z
        rw [lk_ex_f z] at h1 h0
        exact ih (r + 1) (by omega) h1 h0
      refine br_f (nI_ge (by omega) (by omega)) (br_f (nI_ge (b := 32) (by omega) (by omega)) ⟨v1, nm_r (e' := nI t) (by rw [e, et]) ⟨v1, v2, ?_⟩⟩)
      by_cases a : yinLive (yrSec (nI r).toNatClampNeg).toNatClampNeg = 1
      · refine br_t a (br_f (nI_pos (by omega)) ?_)
        rw [e] at a
        by_cases b : ni ≤ t
        · exact br_t (nI_le b (by omega)) (h1 (lk_ex_t (decide_eq_true ⟨a, fun y => by have := (c.mp y).1; omega⟩)))
        · refine br_f (nI_ge (by omega) (by omega)) ⟨vp_in_nI (by omega) (by omega), ?_⟩
          rcases ht t (by omega) with z | ⟨q, hq2, z⟩
          · exact br_f (by rw [nI_clamp (by omega), z]; decide) (h1 (lk_ex_t (decide_eq_true ⟨a, fun y => (c.mp y).2 z⟩)))
          · refine br_t (by rw [nI_clamp (by omega), z]; exact nI_pos' (by omega)) (nm_r (nI_1 r) (hn (fun y => ?_)))
            exact (of_decide_eq_true y).2 (c.mpr ⟨by omega, by rw [z]; exact lk_nn1 (by omega)⟩)
      · refine br_f a (nm_r (nI_1 r) (hn (fun y => a ?_)))
        rw [e]
        exact (of_decide_eq_true y).1
  exact ⟨_, H nr 0 (by omega) h1 h0⟩
theorem ly_nl {post : Int32 → SY → Prop} {R0 R1 ns no ng ni nb nr : Nat} {yphase yopenOut yinGroup ycur yfinalC0 yfinalC1 : Int32} {ystOp ystA ystB ystOut youtReg youtLoaded youtGroup youtVma youtLma youtSize youtAlign youtRes ygStart ygEnd yinKind yinId yinAlign yinBss yinStart yinLen yinStmt yinLive yinVma yinLma ybytes yrSec yrOff yrType yrTgt yrAdd yrom yram : Nat → Int32} {ox : Nat → Int32} (h16 : ni ≤ 16) (hl : lk_hl ni no ns yinStmt yinLive ox ystOut) (h1 : lk_ex (lk_nl yinKind yinStmt yinLive youtLoaded ystOut) ni 0 = true → post (-7) ((nI R0), (nI R1), yphase, (nI ns), (nI no), (nI ng), (nI ni), (nI nb), (nI nr), yopenOut, yinGroup, ycur, yfinalC0, yfinalC1, ystOp, ystA, ystB, ystOut, youtReg, youtLoaded, youtGroup, youtVma, youtLma, youtSize, youtAlign, youtRes, ygStart, ygEnd, yinKind, yinId, yinAlign, yinBss, yinStart, yinLen, yinStmt, yinLive, yinVma, yinLma, ybytes, yrSec, yrOff, yrType, yrTgt, yrAdd, yrom, yram)) (h0 : lk_ex (lk_nl yinKind yinStmt yinLive youtLoaded ystOut) ni 0 = false → wY_link_167 post (nI R0) (nI R1) yphase (nI ns) (nI no) (nI ng) (nI ni) (nI nb) (nI nr) yopenOut yinGroup ycur yfinalC0 yfinalC1 ystOp ystA ystB ystOut youtReg youtLoaded youtGroup youtVma youtLma youtSize youtAlign youtRes ygStart ygEnd yinKind yinId yinAlign yinBss yinStart yinLen yinStmt yinLive yinVma yinLma ybytes yrSec yrOff yrType yrTgt yrAdd yrom yram) : ∃ n, wY_link_105 post (nI R0) (nI R1) yphase (nI ns) (nI no) (nI ng) (nI ni) (nI nb) (nI nr) yopenOut yinGroup ycur yfinalC0 yfinalC1 ystOp ystA ystB ystOut youtReg youtLoaded youtGroup youtVma youtLma youtSize youtAlign youtRes ygStart ygEnd yinKind yinId yinAlign yinBss yinStart yinLen yinStmt yinLive yinVma yinLma ybytes yrSec yrOff yrType yrTgt yrAdd yrom yram n 0 := by
  obtain ⟨l1, l2, l3⟩ := hl
  have H : ∀ d s, s + d = ni → (lk_ex (lk_nl yinKind yinStmt yinLive youtLoaded ystOut) d s = true → post (-7) ((nI R0), (nI R1), yphase, (nI ns), (nI no), (nI ng), (nI ni), (nI nb), (nI nr), yopenOut, yinGroup, ycur, yfinalC0, yfinalC1, ystOp, ystA, ystB, ystOut, youtReg, youtLoaded, youtGroup, youtVma, youtLma, youtSize, youtAlign, youtRes, ygStart, ygEnd, yinKind, yinId, yinAlign, yinBss, yinStart, yinLen, yinStmt, yinLive, yinVma, yinLma, ybytes, yrSec, yrOff, yrType, yrTgt, yrAdd, yrom, yram)) → (lk_ex (lk_nl yinKind yinStmt yinLive youtLoaded ystOut) d s = false → wY_link_167 post (nI R0) (nI R1) yphase (nI ns) (nI no) (nI ng) (nI ni) (nI nb) (nI nr) yopenOut yinGroup ycur yfinalC0 yfinalC1 ystOp ystA ystB ystOut youtReg youtLoaded youtGroup youtVma youtLma youtSize youtAlign youtRes ygStart ygEnd yinKind yinId yinAlign yinBss yinStart yinLen yinStmt yinLive yinVma yinLma ybytes yrSec yrOff yrType yrTgt yrAdd yrom yram) → wY_link_105 post (nI R0) (nI R1) yphase (nI ns) (nI no) (nI ng) (nI ni) (nI nb) (nI nr) yopenOut yinGroup ycur yfinalC0 yfinalC1 ystOp ystA ystB ystOut youtReg youtLoaded youtGroup youtVma youtLma youtSize youtAlign youtRes ygStart ygEnd yinKind yinId yinAlign yinBss yinStart yinLen yinStmt yinLive yinVma yinLma ybytes yrSec yrOff yrType yrTgt yrAdd yrom yram (d + 1) (nI s) := by
    intro d
    induction d with
    | zero => intro s hs _ h0; exact br_t (nI_le (by omega) (by omega)) (h0 rfl)
    | succ d ih =>
      intro s hs h1 h0
      have e : (nI s).toNatClampNeg = s := nI_clamp (by omega)
      have v1 : vp_in (nI s) 16 := vp_in_nI (by omega) (by omega)
      have hn : ¬ lk_nl yinKind yinStmt yinLive youtLoaded ystOut s = true → wY_link_105 post (nI R0) (nI R1) yphase (nI ns) (nI no) (nI ng) (nI ni) (nI nb) (nI nr) yopenOut yinGroup ycur yfinalC0 yfinalC1 ystOp ystA ystB ystOut youtReg youtLoaded youtGroup youtVma youtLma youtSize youtAlign youtRes ygStart ygEnd yinKind yinId yinAlign yinBss yinStart yinLen yinStmt yinLive yinVma yinLma ybytes yrSec yrOff yrType yrTgt yrAdd yrom yram (d + 1) (nI (s + 1)) := by
        intro z
        rw [lk_ex_f z] at h1 h0
        exact ih (s + 1) (by omega) h1 h0
      refine br_f (nI_ge (by omega) (by omega)) (br_f (nI_ge (b := 16) (by omega) (by omega)) ⟨v1, ?_⟩)
      by_cases b : yinLive (nI s).toNatClampNeg = 1
      · refine br_t b ⟨v1, ?_⟩
        by_cases a : yinKind (nI s).toNatClampNeg = 3
        · refine br_t a (nm_r (nI_1 s) (hn (fun y => (of_decide_eq_true y).2.1 ?_)))
          rw [e] at a
          exact a
        · obtain ⟨q, k, hq, eq, hk, _, ek⟩ := l3 s (by omega) (by rw [e] at b; exact b)
          have v2 : vp_in (yinStmt (nI s).toNatClampNeg) 32 := by rw [e, eq]; exact vp_in_nI (by omega) (by omega)
          have v3 : vp_in (ystOut (yinStmt (nI s).toNatClampNeg).toNatClampNeg) 8 := by rw [e, eq, nI_clamp (by omega), ek]; exact vp_in_nI (by omega) (by omega)
          refine br_f a ⟨v1, v2, v3, ?_⟩
          by_cases c : youtLoaded (ystOut (yinStmt (nI s).toNatClampNeg).toNatClampNeg).toNatClampNeg = 0
          · refine br_t c (h1 (lk_ex_t (decide_eq_true ?_)))
            rw [e] at a b c
            exact ⟨b, a, c⟩
          · refine br_f c (nm_r (nI_1 s) (hn (fun y => ?_)))
            rw [e] at c
            exact c (of_decide_eq_true y).2.2
      · refine br_f b (nm_r (nI_1 s) (hn (fun y => b ?_)))
        rw [e]
        exact (of_decide_eq_true y).1
  exact ⟨_, H ni 0 (by omega) h1 h0⟩
end
