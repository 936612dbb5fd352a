
section
/-! AF: Y's image and ROM -/
theorem ly_rv {post : Int32 → Prop} {R0 R1 ns no ng ni nb nr : Nat} {yphase yopenOut yinGroup ycur yfinalC0 yfinalC1 : Int32} {ystOp ystA ystB ystOut youtReg youtLoaded youtGroup youtVma youtLma youtSize youtAlign youtRes ygStart ygEnd yinKind yinId yinAlign yinBss yinStart yinLen yinStmt yinLive yinVma yinLma ybytes yrSec yrOff yrType yrTgt yrAdd yrom yram : Nat → Int32} {r : Nat} (hr : r < nr) (hq : lk_hq ni nr yrSec yrTgt) (h : post (lk_rv ni yrSec yrOff yrType yrTgt yrAdd yinVma yinLma r)) : wpY_relocValue post ((nI R0), (nI R1), yphase, (nI ns), (nI no), (nI ng), (nI ni), (nI nb), (nI nr), yopenOut, yinGroup, ycur, yfinalC0, yfinalC1, ystOp, ystA, ystB, ystOut, youtReg, youtLoaded, youtGroup, youtVma, youtLma, youtSize, youtAlign, youtRes, ygStart, ygEnd, yinKind, yinId, yinAlign, yinBss, yinStart, yinLen, yinStmt, yinLive, yinVma, yinLma, ybytes, yrSec, yrOff, yrType, yrTgt, yrAdd, yrom, yram) (nI r) := by
  obtain ⟨h16, h32, h3⟩ := hq
  obtain ⟨o, t, ho, eo, ht, et⟩ := h3 r hr
  have e : (nI r).toNatClampNeg = r := nI_clamp (by omega)
  have ec : (nI t).toNatClampNeg = t := nI_clamp (by omega)
  have eoc : (nI o).toNatClampNeg = o := nI_clamp (by omega)
  have v32 : vp_in (nI r) 32 := vp_in_nI (by omega) (by omega)
  unfold lk_rv at h
  rw [et] at h
  refine ⟨v32, nm_r (e' := nI t) (by rw [e, et]) ⟨v32, nm_r (e' := nI o) (by rw [e, eo]) (br_f (nI_pos (by omega)) ?_)⟩⟩
  by_cases c : t < ni
  · have v16 : vp_in (nI t) 16 := vp_in_nI (by omega) (by omega)
    rw [if_neg (nI_ge c (by omega)), ec] at h
    refine br_t (nI_lt c (by omega)) ⟨v32, ?_⟩
    by_cases a : yrType r = 1
    · rw [if_pos a] at h
      refine br_t (by rw [e]; exact a) ⟨v16, v32, ?_⟩
      rw [ec, e]
      exact h
    · rw [if_neg a] at h
      refine br_f (by rw [e]; exact a) ⟨v32, ?_⟩
      by_cases b : yrType r = 2
      · rw [if_pos b] at h
        refine br_t (by rw [e]; exact b) ⟨v16, v32, ?_⟩
        rw [ec, e]
        exact h
      · rw [if_neg b, eo] at h
        refine br_f (by rw [e]; exact b) ⟨v16, v32, vp_in_nI (by omega) (by omega), v32, ?_⟩
        rw [ec, e]
        exact h
  · rw [if_pos (nI_le (by omega) (by omega))] at h
    exact br_f (nI_nlt (by omega) (by omega)) h
theorem ly_rb {post : Int32 → Prop} {R0 R1 ns no ng ni nb nr : Nat} {yphase yopenOut yinGroup ycur yfinalC0 yfinalC1 : Int32} {ystOp ystA ystB ystOut youtReg youtLoaded youtGroup youtVma youtLma youtSize youtAlign youtRes ygStart ygEnd yinKind yinId yinAlign yinBss yinStart yinLen yinStmt yinLive yinVma yinLma ybytes yrSec yrOff yrType yrTgt yrAdd yrom yram : Nat → Int32} {s p T : Nat} (hs : s < 16) (hq : lk_hq ni nr yrSec yrTgt) (eT : yinStart s = nI T) (hT : T + p < 256) (h : post (lk_by ni nr yinStart ybytes yrSec yrOff yrType yrTgt yrAdd yinVma yinLma s p)) : wpY_relocByte post ((nI R0), (nI R1), yphase, (nI ns), (nI no), (nI ng), (nI ni), (nI nb), (nI nr), yopenOut, yinGroup, ycur, yfinalC0, yfinalC1, ystOp, ystA, ystB, ystOut, youtReg, youtLoaded, youtGroup, youtVma, youtLma, youtSize, youtAlign, youtRes, ygStart, ygEnd, yinKind, yinId, yinAlign, yinBss, yinStart, yinLen, yinStmt, yinLive, yinVma, yinLma, ybytes, yrSec, yrOff, yrType, yrTgt, yrAdd, yrom, yram) (nI s) (nI p) := by
  have h32 := hq.2.1
  have e : (nI s).toNatClampNeg = s := nI_clamp (by omega)
  have v16 : vp_in (nI s) 16 := vp_in_nI hs (by omega)
  unfold lk_by at h
  rw [eT, nI_add] at h
  have H : ∀ d r, r + d = nr → wY_relocByte_35 post (nI s) (nI p) (nI R0) (nI R1) yphase (nI ns) (nI no) (nI ng) (nI ni) (nI nb) (nI nr) yopenOut yinGroup ycur yfinalC0 yfinalC1 ystOp ystA ystB ystOut youtReg youtLoaded youtGroup youtVma youtLma youtSize youtAlign youtRes ygStart ygEnd yinKind yinId yinAlign yinBss yinStart yinLen yinStmt yinLive yinVma yinLma ybytes yrSec yrOff yrType yrTgt yrAdd yrom yram (d + 1) (lk_rb yrSec yrOff (lk_lo ni yrSec yrOff yrType yrTgt yrAdd yinVma yinLma) (lk_hi ni yrSec yrOff yrType yrTgt yrAdd yinVma yinLma) s p (ybytes (nI (T + p)).toNatClampNeg) r) (nI r) := by
    intro d
    induction d with
    | zero =>
      intro r hr
      have e1 : r = nr := hr
      subst e1
      exact br_t (nI_le (by omega) (by omega)) h
    | succ d ih =>
      intro r hr
      have er : (nI r).toNatClampNeg = r := nI_clamp (by omega)
      have v32 : vp_in (nI r) 32 := vp_in_nI (by omega) (by omega)
      have hi := ih (r + 1) (by omega)
      rw [lk_rb_s] at hi
      refine br_f (nI_ge (by omega) (by omega)) (br_f (nI_ge (b := 32) (by omega) (by omega)) ⟨v32, ?_⟩)
      by_cases a : yrSec r = nI s
      · refine br_t (by rw [er]; exact a) ⟨v32, ?_⟩
        by_cases b : yrOff r = nI p
        · rw [if_pos ⟨a, Or.inl b⟩, if_pos b] at hi
          refine br_t (by rw [er]; exact b) (ly_rv (by omega) hq ⟨v32, br_t (by rw [er]; exact b) (nm_e (nm_r (nI_1 r) hi))⟩)
        · refine br_f (by rw [er]; exact b) ⟨v32, ?_⟩
          by_cases c : yrOff r + 1 = nI p
          · rw [if_pos ⟨a, Or.inr c⟩, if_neg b] at hi
            refine br_t (by rw [er]; exact c) (ly_rv (by omega) hq ⟨v32, br_f (by rw [er]; exact b) (nm_e (nm_r (nI_1 r) hi))⟩)
          · rw [if_neg (fun z => z.2.elim b c)] at hi
            exact br_f (by rw [er]; exact c) (nm_r (nI_1 r) hi)
      · rw [if_neg (fun z => a z.1)] at hi
        exact br_f (by rw [er]; exact a) (nm_r (nI_1 r) hi)
  exact ⟨v16, nm_r (e' := nI (T + p)) (by rw [e, eT, nI_add]) (br_f (nI_pos (by omega)) (br_f (nI_ge (b := 256) (by omega) (by omega)) ⟨vp_in_nI (by omega) (by omega), nm_e ⟨_, H nr 0 (by omega)⟩⟩))⟩
theorem ly_ib {post : Int32 → Prop} {R0 R1 ns no ng ni nb nr : Nat} {yphase yopenOut yinGroup ycur yfinalC0 yfinalC1 : Int32} {ystOp ystA ystB ystOut youtReg youtLoaded youtGroup youtVma youtLma youtSize youtAlign youtRes ygStart ygEnd yinKind yinId yinAlign yinBss yinStart yinLen yinStmt yinLive yinVma yinLma ybytes yrSec yrOff yrType yrTgt yrAdd yrom yram : Nat → Int32} {IV : Nat → Nat} {k X : Nat} {z : Int32} (hq : lk_hq ni nr yrSec yrTgt) (hv : ∀ s, s < ni → yinLive s = 1 → ∃ q, q < 32 ∧ yinStmt s = nI q ∧ yinVma s = nI (IV s) ∧ IV s < 2 ^ 30) (hb : ∀ s, s < ni → ∃ T Z, yinStart s = nI T ∧ yinLen s = nI Z ∧ T + Z ≤ 256) (hk : k < 8) (hX : X < 2 ^ 30) (hz : youtVma k + z = nI X) (h : post (lk_ib ni nr ystOut yinKind yinStmt yinLive yinLen yinStart ybytes yrSec yrOff yrType yrTgt yrAdd yinVma yinLma (nI k) (nI X))) : wpY_imageByte post ((nI R0), (nI R1), yphase, (nI ns), (nI no), (nI ng), (nI ni), (nI nb), (nI nr), yopenOut, yinGroup, ycur, yfinalC0, yfinalC1, ystOp, ystA, ystB, ystOut, youtReg, youtLoaded, youtGroup, youtVma, youtLma, youtSize, youtAlign, youtRes, ygStart, ygEnd, yinKind, yinId, yinAlign, yinBss, yinStart, yinLen, yinStmt, yinLive, yinVma, yinLma, ybytes, yrSec, yrOff, yrType, yrTgt, yrAdd, yrom, yram) (nI k) z := by
  have h16 := hq.1
  have e : (nI k).toNatClampNeg = k := nI_clamp (by omega)
  have v8 : vp_in (nI k) 8 := vp_in_nI hk (by omega)
  unfold lk_ib at h
  have H : ∀ d s, s + d = ni → post (lk_fv (lk_ip ystOut yinKind yinStmt yinLive yinVma yinLen (nI k) (nI X)) (fun s => lk_by ni nr yinStart ybytes yrSec yrOff yrType yrTgt yrAdd yinVma yinLma s (nI X - yinVma s).toNatClampNeg) d s) → wY_imageByte_12 post (nI k) (nI X) (nI R0) (nI R1) yphase (nI ns) (nI no) (nI ng) (nI ni) (nI nb) (nI nr) yopenOut yinGroup ycur yfinalC0 yfinalC1 ystOp ystA ystB ystOut youtReg youtLoaded youtGroup youtVma youtLma youtSize youtAlign youtRes ygStart ygEnd yinKind yinId yinAlign yinBss yinStart yinLen yinStmt yinLive yinVma yinLma ybytes yrSec yrOff yrType yrTgt yrAdd yrom yram (d + 1) (nI s) := by
    intro d
    induction d with
    | zero => intro s hs h; exact br_t (nI_le (by omega) (by omega)) h
    | succ d ih =>
      intro s hs h
      have es : (nI s).toNatClampNeg = s := nI_clamp (by omega)
      have v16 : vp_in (nI s) 16 := vp_in_nI (by omega) (by omega)
      have hn : ¬ lk_ip ystOut yinKind yinStmt yinLive yinVma yinLen (nI k) (nI X) s = true → wY_imageByte_12 post (nI k) (nI X) (nI R0) (nI R1) yphase (nI ns) (nI no) (nI ng) (nI ni) (nI nb) (nI nr) yopenOut yinGroup ycur yfinalC0 yfinalC1 ystOp ystA ystB ystOut youtReg youtLoaded youtGroup youtVma youtLma youtSize youtAlign youtRes ygStart ygEnd yinKind yinId yinAlign yinBss yinStart yinLen yinStmt yinLive yinVma yinLma ybytes yrSec yrOff yrType yrTgt yrAdd yrom yram (d + 1) (nI (s + 1)) := by
        intro y
        rw [lk_fv_f y] at h
        exact ih (s + 1) (by omega) h
      refine br_f (nI_ge (by omega) (by omega)) (br_f (nI_ge (b := 16) (by omega) (by omega)) ⟨v16, ?_⟩)
      by_cases a : yinLive s = 1
      · refine br_t (by rw [es]; exact a) ⟨v16, ?_⟩
        by_cases b : yinKind s = 3
        · exact br_t (by rw [es]; exact b) (nm_r (nI_1 s) (hn (fun y => (of_decide_eq_true y).2.1 b)))
        · obtain ⟨q, hq32, eq, ev, hIV⟩ := hv s (by omega) a
          obtain ⟨T, Z, eT, eZ, hTZ⟩ := hb s (by omega)
          have vq : vp_in (yinStmt (nI s).toNatClampNeg) 32 := by rw [es, eq]; exact vp_in_nI hq32 (by omega)
          refine br_f (by rw [es]; exact b) ⟨v16, br_f (by rw [es, eq]; exact nI_pos (by omega)) ⟨v16, vq, ?_⟩⟩
          by_cases c : ystOut (yinStmt s).toNatClampNeg = nI k
          · refine br_t (by rw [es]; exact c) ⟨v16, ?_⟩
            by_cases f : IV s ≤ X
            · refine br_f (by rw [es, ev]; exact nI_nlt f (by omega)) ⟨v16, v16, ?_⟩
              by_cases g : X < IV s + Z
              · have hip : lk_ip ystOut yinKind yinStmt yinLive yinVma yinLen (nI k) (nI X) s = true := decide_eq_true ⟨a, b, by rw [eq]; exact nI_pos' (by omega), c, by rw [ev]; exact nI_le f (by omega), by rw [ev, eZ, nI_add]; exact nI_lt g (by omega)⟩
                have ex : nI X - yinVma s = nI (X - IV s) := by rw [ev, pk_sub f]
                rw [lk_fv_t hip] at h
                rw [ex, nI_clamp (by omega)] at h
                refine br_f (by rw [es, ev, eZ, nI_add]; exact nI_ge g (by omega)) ⟨v16, ?_⟩
                rw [es, ex]
                exact ly_rb (by omega) hq eT (by omega) h
              · refine br_t (by rw [es, ev, eZ, nI_add]; exact nI_le (by omega) (by omega)) (nm_r (nI_1 s) (hn (fun y => ?_)))
                have y6 := (of_decide_eq_true y).2.2.2.2.2
                rw [ev, eZ, nI_add, nI_ltI (by omega) (by omega)] at y6
                exact g y6
            · refine br_t (by rw [es, ev]; exact nI_lt (by omega) (by omega)) (nm_r (nI_1 s) (hn (fun y => ?_)))
              have y5 := (of_decide_eq_true y).2.2.2.2.1
              rw [ev, nI_leI (by omega) (by omega)] at y5
              exact f y5
          · exact br_f (by rw [es]; exact c) (nm_r (nI_1 s) (hn (fun y => c (of_decide_eq_true y).2.2.2.1)))
      · exact br_f (by rw [es]; exact a) (nm_r (nI_1 s) (hn (fun y => a (of_decide_eq_true y).1)))
  exact ⟨v8, nm_r (e' := nI X) (by rw [e, hz]) ⟨_, H ni 0 (by omega) h⟩⟩
theorem ly_407 {post : Int32 → SY → Prop} {J : Int32 → (Nat → Int32) → (Nat → Int32) → (Nat → Int32) → (Nat → Int32) → (Nat → Int32) → (Nat → Int32) → (Nat → Int32) → (Nat → Int32) → (Nat → Int32) → (Nat → Int32) → (Nat → Int32) → (Nat → Int32) → (Nat → Int32) → (Nat → Int32) → (Nat → Int32) → (Nat → Int32) → (Nat → Int32) → (Nat → Int32) → (Nat → Int32) → (Nat → Int32) → (Nat → Int32) → (Nat → Int32) → (Nat → Int32) → (Nat → Int32) → (Nat → Int32) → (Nat → Int32) → (Nat → Int32) → (Nat → Int32) → (Nat → Int32) → (Nat → Int32) → (Nat → Int32) → (Nat → Int32) → Prop} {R0 R1 ns no ng ni nb nr : Nat} {yphase yopenOut yinGroup ycur yfinalC0 yfinalC1 : Int32} {ystOp ystA ystB ystOut youtReg youtLoaded youtGroup youtVma youtLma youtSize youtAlign youtRes ygStart ygEnd yinKind yinId yinAlign yinBss yinStart yinLen yinStmt yinLive yinVma yinLma ybytes yrSec yrOff yrType yrTgt yrAdd yrom yram : Nat → Int32} {IV : Nat → Nat} {k v l S : Nat} (hq : lk_hq ni nr yrSec yrTgt) (hv : ∀ s, s < ni → yinLive s = 1 → ∃ q, q < 32 ∧ yinStmt s = nI q ∧ yinVma s = nI (IV s) ∧ IV s < 2 ^ 30) (hb : ∀ s, s < ni → ∃ T Z, yinStart s = nI T ∧ yinLen s = nI Z ∧ T + Z ≤ 256) (hk : k < 8) (ev : youtVma k = nI v) (el : youtLma k = nI l) (eS : youtSize k = nI S) (hl : l + S ≤ R0) (hR : R0 ≤ 128) (hvS : v + S < 2 ^ 30) (h : J (nI (k + 1)) ystOp ystA ystB ystOut youtReg youtLoaded youtGroup youtVma youtLma youtSize youtAlign youtRes ygStart ygEnd yinKind yinId yinAlign yinBss yinStart yinLen yinStmt yinLive yinVma yinLma ybytes yrSec yrOff yrType yrTgt yrAdd (lk_wr yrom l (l + S) (fun j => lk_ib ni nr ystOut yinKind yinStmt yinLive yinLen yinStart ybytes yrSec yrOff yrType yrTgt yrAdd yinVma yinLma (nI k) (nI (v + (j - l))))) yram) : ∃ n, wY_link_407 post J (nI k) (nI R0) (nI R1) yphase (nI ns) (nI no) (nI ng) (nI ni) (nI nb) (nI nr) yopenOut yinGroup ycur yfinalC0 yfinalC1 n 0 ystOp ystA ystB ystOut youtReg youtLoaded youtGroup youtVma youtLma youtSize youtAlign youtRes ygStart ygEnd yinKind yinId yinAlign yinBss yinStart yinLen yinStmt yinLive yinVma yinLma ybytes yrSec yrOff yrType yrTgt yrAdd yrom yram := by
  have e : (nI k).toNatClampNeg = k := nI_clamp (by omega)
  have v8 : vp_in (nI k) 8 := vp_in_nI hk (by omega)
  have H : ∀ d i, i + d = S → wY_link_407 post J (nI k) (nI R0) (nI R1) yphase (nI ns) (nI no) (nI ng) (nI ni) (nI nb) (nI nr) yopenOut yinGroup ycur yfinalC0 yfinalC1 (d + 1) (nI i) ystOp ystA ystB ystOut youtReg youtLoaded youtGroup youtVma youtLma youtSize youtAlign youtRes ygStart ygEnd yinKind yinId yinAlign yinBss yinStart yinLen yinStmt yinLive yinVma yinLma ybytes yrSec yrOff yrType yrTgt yrAdd (lk_wr yrom l (l + i) (fun j => lk_ib ni nr ystOut yinKind yinStmt yinLive yinLen yinStart ybytes yrSec yrOff yrType yrTgt yrAdd yinVma yinLma (nI k) (nI (v + (j - l))))) yram := by
    intro d
    induction d with
    | zero =>
      intro i hi
      have e1 : i = S := hi
      subst e1
      exact ⟨v8, br_t (by rw [e, eS]; exact nI_le (by omega) (by omega)) (nm_r (nI_1 k) h)⟩
    | succ d ih =>
      intro i hi
      refine ⟨v8, br_f (by rw [e, eS]; exact nI_ge (by omega) (by omega)) (br_f (nI_ge (b := 1100) (by omega) (by omega)) ⟨v8, nm_r (e' := nI (l + i)) (by rw [e, el, nI_add, Int32.sub_zero]) (br_f (nI_pos (by omega)) (br_f (nI_ge (by omega) (by omega)) (ly_ib hq hv hb hk (X := v + i) (by omega) (by rw [ev, nI_add]) ⟨vp_in_nI (by omega) (by omega), nm_r ?_ (nm_r (nI_1 i) (ih (i + 1) (by omega)))⟩)))⟩)⟩
      rw [nI_clamp (by omega)]
      refine lk_wr_s (by omega) ?_
      rw [Nat.add_sub_cancel_left]
  have H2 := H S 0 (by omega)
  rw [lk_wr_e (show l + 0 ≤ l from Nat.le_refl l)] at H2
  exact ⟨_, H2⟩
theorem ly_378 {R0 R1 ns no ng ni nb nr : Nat} {yphase yopenOut yinGroup ycur yfinalC0 yfinalC1 : Int32} {ystOp ystA ystB ystOut youtReg youtLoaded youtGroup youtVma youtLma youtSize youtAlign youtRes ygStart ygEnd yinKind yinId yinAlign yinBss yinStart yinLen yinStmt yinLive yinVma yinLma ybytes yrSec yrOff yrType yrTgt yrAdd yram : Nat → Int32} {V L D IV : Nat → Nat} {mf : Nat → Int32} (hq : lk_hq ni nr yrSec yrTgt) (hv : ∀ s, s < ni → yinLive s = 1 → ∃ q, q < 32 ∧ yinStmt s = nI q ∧ yinVma s = nI (IV s) ∧ IV s < 2 ^ 30) (hb : ∀ s, s < ni → ∃ T Z, yinStart s = nI T ∧ yinLen s = nI Z ∧ T + Z ≤ 256) (hk : lk_hk no youtReg youtVma youtLma V L D) (hs : ∀ k, k < no → youtSize k = nI (D k - V k)) (hR : R0 ≤ 128) (hl : ∀ k, k < no → youtLoaded k = 1 → L k + (D k - V k) ≤ R0) (hm : ∀ k, k < no → youtLoaded k = 1 → ∀ o, o < D k - V k → lk_ib ni nr ystOut yinKind yinStmt yinLive yinLen yinStart ybytes yrSec yrOff yrType yrTgt yrAdd yinVma yinLma (nI k) (nI (V k + o)) = mf (L k + o)) : ∀ d k, k + d = no → ∀ rom : Nat → Int32, lk_J youtLoaded L D V mf k rom → ∃ rom' : Nat → Int32, lk_J youtLoaded L D V mf no rom' ∧ ∀ post : Int32 → SY → Prop, post 0 ((nI R0), (nI R1), yphase, (nI ns), (nI no), (nI ng), (nI ni), (nI nb), (nI nr), yopenOut, yinGroup, ycur, yfinalC0, yfinalC1, ystOp, ystA, ystB, ystOut, youtReg, youtLoaded, youtGroup, youtVma, youtLma, youtSize, youtAlign, youtRes, ygStart, ygEnd, yinKind, yinId, yinAlign, yinBss, yinStart, yinLen, yinStmt, yinLive, yinVma, yinLma, ybytes, yrSec, yrOff, yrType, yrTgt, yrAdd, rom', yram) → wY_link_378 post (nI R0) (nI R1) yphase (nI ns) (nI no) (nI ng) (nI ni) (nI nb) (nI nr) yopenOut yinGroup ycur yfinalC0 yfinalC1 (d + 1) (nI k) ystOp ystA ystB ystOut youtReg youtLoaded youtGroup youtVma youtLma youtSize youtAlign youtRes ygStart ygEnd yinKind yinId yinAlign yinBss yinStart yinLen yinStmt yinLive yinVma yinLma ybytes yrSec yrOff yrType yrTgt yrAdd rom yram := by
  obtain ⟨h8, hk⟩ := hk
  intro d
  induction d with
  | zero =>
    intro k hkd rom hJ
    have e1 : k = no := hkd
    subst e1
    exact ⟨rom, hJ, fun post hp => br_t (nI_le (by omega) (by omega)) hp⟩
  | succ d ih =>
    intro k hkd rom hJ
    obtain ⟨_, ev, el, hvd, hD, _, _⟩ := hk k (by omega)
    have eS := hs k (by omega)
    have e : (nI k).toNatClampNeg = k := nI_clamp (by omega)
    have v8 : vp_in (nI k) 8 := vp_in_nI (by omega) (by omega)
    have n1 : ¬ nI no ≤ nI k := nI_ge (by omega) (by omega)
    have n2 : ¬ (8 : Int32) ≤ nI k := nI_ge (b := 8) (by omega) (by omega)
    by_cases a : youtLoaded k = 1
    · obtain ⟨rom', j1, j2⟩ := ih (k + 1) (by omega) _ (lk_J_s (F := fun j => lk_ib ni nr ystOut yinKind yinStmt yinLive yinLen yinStart ybytes yrSec yrOff yrType yrTgt yrAdd yinVma yinLma (nI k) (nI (V k + (j - L k)))) hJ a (fun o ho => by
        rw [Nat.add_sub_cancel_left]
        exact hm k (by omega) a o ho))
      exact ⟨rom', j1, fun post hp => br_f n1 (br_f n2 ⟨v8, br_t (by rw [e]; exact a) (ly_407 hq hv hb (by omega) ev el eS (hl k (by omega) a) hR (by omega) (j2 post hp))⟩)⟩
    · obtain ⟨rom', j1, j2⟩ := ih (k + 1) (by omega) rom (lk_J_n hJ a)
      exact ⟨rom', j1, fun post hp => br_f n1 (br_f n2 ⟨v8, br_f (by rw [e]; exact a) (nm_r (nI_1 k) (j2 post hp))⟩)⟩
theorem ly_rom {R0 R1 ns no ng ni nb nr : Nat} {yphase yopenOut yinGroup ycur yfinalC0 yfinalC1 : Int32} {ystOp ystA ystB ystOut youtReg youtLoaded youtGroup youtVma youtLma youtSize youtAlign youtRes ygStart ygEnd yinKind yinId yinAlign yinBss yinStart yinLen yinStmt yinLive yinVma yinLma ybytes yrSec yrOff yrType yrTgt yrAdd yrom yram : Nat → Int32} {V L D IV : Nat → Nat} {mf : Nat → Int32} (hq : lk_hq ni nr yrSec yrTgt) (hv : ∀ s, s < ni → yinLive s = 1 → ∃ q, q < 32 ∧ yinStmt s = nI q ∧ yinVma s = nI (IV s) ∧ IV s < 2 ^ 30) (hb : ∀ s, s < ni → ∃ T Z, yinStart s = nI T ∧ yinLen s = nI Z ∧ T + Z ≤ 256) (hk : lk_hk no youtReg youtVma youtLma V L D) (hs : ∀ k, k < no → youtSize k = nI (D k - V k)) (hR : R0 ≤ 128) (hl : ∀ k, k < no → youtLoaded k = 1 → L k + (D k - V k) ≤ R0) (hm : ∀ k, k < no → youtLoaded k = 1 → ∀ o, o < D k - V k → lk_ib ni nr ystOut yinKind yinStmt yinLive yinLen yinStart ybytes yrSec yrOff yrType yrTgt yrAdd yinVma yinLma (nI k) (nI (V k + o)) = mf (L k + o)) : ∃ rom' : Nat → Int32, lk_J youtLoaded L D V mf no rom' ∧ ∀ post : Int32 → SY → Prop, post 0 ((nI R0), (nI R1), yphase, (nI ns), (nI no), (nI ng), (nI ni), (nI nb), (nI nr), yopenOut, yinGroup, ycur, yfinalC0, yfinalC1, ystOp, ystA, ystB, ystOut, youtReg, youtLoaded, youtGroup, youtVma, youtLma, youtSize, youtAlign, youtRes, ygStart, ygEnd, yinKind, yinId, yinAlign, yinBss, yinStart, yinLen, yinStmt, yinLive, yinVma, yinLma, ybytes, yrSec, yrOff, yrType, yrTgt, yrAdd, rom', yram) → ∃ n, wY_link_354 post (nI R0) (nI R1) yphase (nI ns) (nI no) (nI ng) (nI ni) (nI nb) (nI nr) yopenOut yinGroup ycur yfinalC0 yfinalC1 n 0 ystOp ystA ystB ystOut youtReg youtLoaded youtGroup youtVma youtLma youtSize youtAlign youtRes ygStart ygEnd yinKind yinId yinAlign yinBss yinStart yinLen yinStmt yinLive yinVma yinLma ybytes yrSec yrOff yrType yrTgt yrAdd yrom yram := by
  obtain ⟨rom', j1, j2⟩ := ly_378 (yphase := yphase) (yopenOut := yopenOut) (yinGroup := yinGroup) (ycur := ycur) (yfinalC0 := yfinalC0) (yfinalC1 := yfinalC1) (R1 := R1) (ns := ns) (ng := ng) (nb := nb) (ystOp := ystOp) (ystA := ystA) (ystB := ystB) (youtGroup := youtGroup) (youtAlign := youtAlign) (youtRes := youtRes) (ygStart := ygStart) (ygEnd := ygEnd) (yinId := yinId) (yinAlign := yinAlign) (yinBss := yinBss) (yram := yram) hq hv hb hk hs hR hl hm no 0 (by omega) (lk_wr yrom 0 128 (fun _ => 255)) (lk_J_0 (fun j hj => lk_wr_t (Nat.zero_le j) hj))
  refine ⟨rom', j1, fun post hp => ?_⟩
  have H : ∀ d x, x + d = 128 → wY_link_354 post (nI R0) (nI R1) yphase (nI ns) (nI no) (nI ng) (nI ni) (nI nb) (nI nr) yopenOut yinGroup ycur yfinalC0 yfinalC1 (d + 1) (nI x) ystOp ystA ystB ystOut youtReg youtLoaded youtGroup youtVma youtLma youtSize youtAlign youtRes ygStart ygEnd yinKind yinId yinAlign yinBss yinStart yinLen yinStmt yinLive yinVma yinLma ybytes yrSec yrOff yrType yrTgt yrAdd (lk_wr yrom 0 x (fun _ => 255)) yram := by
    intro d
    induction d with
    | zero =>
      intro x hx
      have e1 : x = 128 := hx
      subst e1
      exact br_t (nI_le (a := 128) (b := 128) (by omega) (by omega)) ⟨_, j2 post hp⟩
    | succ d ih =>
      intro x hx
      exact br_f (nI_ge (b := 128) (by omega) (by omega)) ⟨vp_in_nI (by omega) (by omega), nm_r (by rw [nI_clamp (by omega)]; exact lk_wr_s (Nat.zero_le x) rfl) (nm_r (nI_1 x) (ih (x + 1) (by omega)))⟩
  have H2 := H 128 0 rfl
  rw [lk_wr_0] at H2
  exact ⟨_, H2⟩
end
