section
/-! G: what feeding keeps -/
theorem lk_no_lt {op : Nat → Int32} {i n : Nat} (h : op i = 1) (hi : i < n) : lk_no op i < lk_no op n := by
  have h1 := lk_no_m (op := op) (i := i + 1) (n - (i + 1))
  rw [show i + 1 + (n - (i + 1)) = n by omega, lk_no_s, if_pos h] at h1
  omega
theorem lk_sc_u {op a b ox oy rg ld gp : Nat → Int32} {i n : Nat} {x1 x2 x3 x4 x5 : Int32} (hi : i < n) (h : lk_sc op a b ox oy rg ld gp i) : lk_sc (upd op n x1) (upd a n x2) (upd b n x3) (upd ox n x4) (upd oy n x5) rg ld gp i := by
  have e : ∀ (f : Nat → Int32) (x : Int32), upd f n x i = f i := fun f x => pk_un (by omega)
  unfold lk_sc at h ⊢
  simp only [lk_is_u i (Nat.le_of_lt hi), lk_ig_u i (Nat.le_of_lt hi), lk_no_u i (Nat.le_of_lt hi), lk_ng_u i (Nat.le_of_lt hi), e]
  exact h
theorem lk_sc_o {op a b ox oy rg ld gp : Nat → Int32} {i n no : Nat} {y1 y2 y3 : Int32} (hi : i < n) (hn : no = lk_no op n) (h : lk_sc op a b ox oy rg ld gp i) : lk_sc op a b ox oy (upd rg no y1) (upd ld no y2) (upd gp no y3) i := by
  rcases h with ⟨h1, h2, h3, h4, h5, h6, h7, h8⟩ | h
  · have hl := lk_no_lt h1 hi
    have e : ∀ (f : Nat → Int32) (x : Int32), upd f no x (lk_no op i) = f (lk_no op i) := fun f x => pk_un (by omega)
    exact Or.inl ⟨h1, h2, h3, h4, h5, by rw [e]; exact h6, by rw [e]; exact h7, by rw [e]; exact h8⟩
  · exact Or.inr h
theorem lk_no_a {op : Nat → Int32} {n : Nat} {x : Int32} : lk_no (upd op n x) (n + 1) = lk_no op n + (if x = 1 then 1 else 0) := by
  rw [lk_no_s, lk_no_u n (Nat.le_refl n), pk_us]
theorem lk_ng_a {op : Nat → Int32} {n : Nat} {x : Int32} : lk_ng (upd op n x) (n + 1) = lk_ng op n + (if x = 8 then 1 else 0) := by
  rw [lk_ng_s, lk_ng_u n (Nat.le_refl n), pk_us]
theorem lk_is_a {op : Nat → Int32} {n : Nat} {x : Int32} : lk_is (upd op n x) (n + 1) = if x = 1 then true else if x = 2 then false else lk_is op n := by
  rw [lk_is_s, lk_is_u n (Nat.le_refl n), pk_us]
theorem lk_ig_a {op : Nat → Int32} {n : Nat} {x : Int32} : lk_ig (upd op n x) (n + 1) = if x = 8 then true else if x = 9 then false else lk_ig op n := by
  rw [lk_ig_s, lk_ig_u n (Nat.le_refl n), pk_us]
/-- the script part of the relation: oo the open section on both sides, xg X's open group, yg Y's flag -/
def lk_S (ns no ng : Nat) (op sa sb ox oy rg ld gp : Nat → Int32) (oo xg yg : Int32) : Prop :=
  ns ≤ 32 ∧ no ≤ 8 ∧ ng ≤ 4 ∧ no = lk_no op ns ∧ ng = lk_ng op ns ∧ oo = (if lk_is op ns = true then nI (no - 1) else -1) ∧ xg = (if lk_ig op ns = true then nI (ng - 1) else -1) ∧ yg = (if lk_ig op ns = true then 1 else 0) ∧ ∀ i, i < ns → lk_sc op sa sb ox oy rg ld gp i
/-- a statement that opens no section and no group -/
theorem lk_S_st {ns no ng : Nat} {op sa sb ox oy rg ld gp : Nat → Int32} {oo xg yg oo' xg' yg' x a b o1 o2 : Int32} (h : lk_S ns no ng op sa sb ox oy rg ld gp oo xg yg) (hc : ns < 32) (n1 : ¬ x = 1) (n8 : ¬ x = 8)
    (e1 : oo' = if x = 2 then -1 else oo) (e2 : xg' = if x = 9 then -1 else xg) (e3 : yg' = if x = 9 then 0 else yg)
    (hs : lk_sc (upd op ns x) (upd sa ns a) (upd sb ns b) (upd ox ns o1) (upd oy ns o2) rg ld gp ns) :
    lk_S (ns + 1) no ng (upd op ns x) (upd sa ns a) (upd sb ns b) (upd ox ns o1) (upd oy ns o2) rg ld gp oo' xg' yg' := by
  obtain ⟨c1, c2, c3, c4, c5, c6, c7, c8, c9⟩ := h
  refine ⟨by omega, c2, c3, ?_, ?_, ?_, ?_, ?_, ?_⟩
  · rw [lk_no_a, if_neg n1]; omega
  · rw [lk_ng_a, if_neg n8]; omega
  · rw [lk_is_a, if_neg n1, e1, c6]
    by_cases h2 : x = 2
    · rw [if_pos h2, if_pos h2, if_neg (by decide)]
    · rw [if_neg h2, if_neg h2]
  · rw [lk_ig_a, if_neg n8, e2, c7]
    by_cases h2 : x = 9
    · rw [if_pos h2, if_pos h2, if_neg (by decide)]
    · rw [if_neg h2, if_neg h2]
  · rw [lk_ig_a, if_neg n8, e3, c8]
    by_cases h2 : x = 9
    · rw [if_pos h2, if_pos h2, if_neg (by decide)]
    · rw [if_neg h2, if_neg h2]
  · intro i hi
    by_cases e : i = ns
    · subst e; exact hs
    · exact lk_sc_u (by omega) (c9 i (by omega))
theorem lk_S_sec {ns no ng : Nat} {op sa sb ox oy rg ld gp : Nat → Int32} {oo xg yg a b : Int32} (h : lk_S ns no ng op sa sb ox oy rg ld gp oo xg yg) (hc : ns < 32) (ho : no < 8) (hi : lk_is op ns = false) (hab : (a = 0 ∧ b = 1 ∧ lk_ig op ns = false) ∨ (a = 1 ∧ (b = 0 ∨ b = 1))) :
    lk_S (ns + 1) (no + 1) ng (upd op ns 1) (upd sa ns a) (upd sb ns b) (upd ox ns (nI no)) (upd oy ns (nI no)) (upd rg no a) (upd ld no b) (upd gp no xg) (nI no) xg yg := by
  obtain ⟨c1, c2, c3, c4, c5, c6, c7, c8, c9⟩ := h
  have n8 : ¬ (1 : Int32) = 8 := by decide
  have n9 : ¬ (1 : Int32) = 9 := by decide
  refine ⟨by omega, by omega, c3, ?_, ?_, ?_, ?_, ?_, ?_⟩
  · rw [lk_no_a, if_pos rfl]; omega
  · rw [lk_ng_a, if_neg n8]; omega
  · rw [lk_is_a, if_pos rfl, if_pos rfl, Nat.add_sub_cancel]
  · rw [lk_ig_a, if_neg n8, if_neg n9]; exact c7
  · rw [lk_ig_a, if_neg n8, if_neg n9]; exact c8
  · intro i hin
    by_cases e : i = ns
    · subst e
      refine Or.inl ⟨pk_us, ?_, ?_, ?_, ?_, ?_, ?_, ?_⟩
      · rw [lk_is_u i (Nat.le_refl i)]; exact hi
      · rw [pk_us, pk_us, lk_ig_u i (Nat.le_refl i)]; exact hab
      · rw [pk_us, lk_no_u i (Nat.le_refl i), ← c4]
      · rw [pk_us, lk_no_u i (Nat.le_refl i), ← c4]
      · rw [lk_no_u i (Nat.le_refl i), ← c4, pk_us, pk_us]
      · rw [lk_no_u i (Nat.le_refl i), ← c4, pk_us, pk_us]
      · rw [lk_no_u i (Nat.le_refl i), ← c4, pk_us, lk_ig_u i (Nat.le_refl i), lk_ng_u i (Nat.le_refl i), ← c5]; exact c7
    · have h1 : i < ns := by omega
      have g := lk_sc_o (y1 := a) (y2 := b) (y3 := xg) h1 c4 (c9 i h1)
      exact lk_sc_u h1 g
theorem lk_S_ovl {ns no ng : Nat} {op sa sb ox oy rg ld gp : Nat → Int32} {oo xg yg a b o2 : Int32} (h : lk_S ns no ng op sa sb ox oy rg ld gp oo xg yg) (hc : ns < 32) (hg : ng < 4) (hi : lk_is op ns = false) (hj : lk_ig op ns = false) :
    lk_S (ns + 1) no (ng + 1) (upd op ns 8) (upd sa ns a) (upd sb ns b) (upd ox ns (nI ng)) (upd oy ns o2) rg ld gp oo (nI ng) 1 := by
  obtain ⟨c1, c2, c3, c4, c5, c6, c7, c8, c9⟩ := h
  have n1 : ¬ (8 : Int32) = 1 := by decide
  have n2 : ¬ (8 : Int32) = 2 := by decide
  refine ⟨by omega, c2, by omega, ?_, ?_, ?_, ?_, ?_, ?_⟩
  · rw [lk_no_a, if_neg n1]; omega
  · rw [lk_ng_a, if_pos rfl]; omega
  · rw [lk_is_a, if_neg n1, if_neg n2]; exact c6
  · rw [lk_ig_a, if_pos rfl, if_pos rfl, Nat.add_sub_cancel]
  · rw [lk_ig_a, if_pos rfl, if_pos rfl]
  · intro i hin
    by_cases e : i = ns
    · subst e
      refine Or.inr (Or.inr (Or.inr (Or.inl ⟨pk_us, ?_, ?_, ?_⟩)))
      · rw [lk_is_u i (Nat.le_refl i)]; exact hi
      · rw [lk_ig_u i (Nat.le_refl i)]; exact hj
      · rw [pk_us, lk_ng_u i (Nat.le_refl i), ← c5]
    · exact lk_sc_u (by omega) (c9 i (by omega))
/-- the input sections -/
def lk_n1 (nb : Nat) (kd al sz fb bs ln : Nat → Int32) (s : Nat) : Prop := ∃ A T Z Q : Nat, lk_A A ∧ al s = nI A ∧ fb s = nI T ∧ ln s = nI Z ∧ T + Z ≤ nb ∧ sz s = nI Q ∧ ((kd s = 3 ∧ Z = 0 ∧ Q ≤ 128 ∧ bs s = nI Q) ∨ (¬ kd s = 3 ∧ Q = Z))
def lk_N (ni nb : Nat) (kd al sz fb bs ln : Nat → Int32) : Prop := ni ≤ 16 ∧ nb ≤ 256 ∧ ∀ s, s < ni → lk_n1 nb kd al sz fb bs ln s
theorem lk_N_sec {ni nb A Q : Nat} {kd al sz fb bs ln : Nat → Int32} {k : Int32} (h : lk_N ni nb kd al sz fb bs ln) (hn : ni < 16) (hA : lk_A A) (hQ : (k = 3 ∧ Q ≤ 128) ∨ (¬ k = 3 ∧ Q = 0)) :
    lk_N (ni + 1) nb (upd kd ni k) (upd al ni (nI A)) (upd sz ni (nI Q)) (upd fb ni (nI nb)) (upd bs ni (nI Q)) (upd ln ni 0) := by
  obtain ⟨c1, c2, c3⟩ := h
  refine ⟨by omega, c2, fun s hs => ?_⟩
  by_cases e : s = ni
  · subst e
    refine ⟨A, nb, 0, Q, hA, pk_us, pk_us, pk_us, Nat.le_refl nb, pk_us, ?_⟩
    rw [pk_us, pk_us]
    rcases hQ with ⟨q1, q2⟩ | ⟨q1, q2⟩
    · exact Or.inl ⟨q1, rfl, q2, rfl⟩
    · exact Or.inr ⟨q1, q2⟩
  · obtain ⟨A', T, Z, Q', d1, d2, d3, d4, d5, d6, d7⟩ := c3 s (by omega)
    exact ⟨A', T, Z, Q', d1, by rw [pk_un e]; exact d2, by rw [pk_un e]; exact d3, by rw [pk_un e]; exact d4, d5, by rw [pk_un e]; exact d6, by rw [pk_un e, pk_un e]; exact d7⟩
theorem lk_N_byte {ni nb : Nat} {kd al sz fb bs ln : Nat → Int32} (h : lk_N (ni + 1) nb kd al sz fb bs ln) (hb : nb < 256) (hk : ¬ kd ni = 3) :
    lk_N (ni + 1) (nb + 1) kd al (upd sz ni (sz ni + 1)) fb bs (upd ln ni (ln ni + 1)) := by
  obtain ⟨c1, c2, c3⟩ := h
  refine ⟨c1, by omega, fun s hs => ?_⟩
  obtain ⟨A, T, Z, Q, d1, d2, d3, d4, d5, d6, d7⟩ := c3 s hs
  by_cases e : s = ni
  · subst e
    rcases d7 with ⟨q1, _⟩ | ⟨q1, q2⟩
    · exact absurd q1 hk
    · exact ⟨A, T, Z + 1, Q + 1, d1, d2, d3, by rw [pk_us, d4, nI_1], by omega, by rw [pk_us, d6, nI_1], Or.inr ⟨q1, by omega⟩⟩
  · exact ⟨A, T, Z, Q, d1, d2, d3, by rw [pk_un e]; exact d4, by omega, by rw [pk_un e]; exact d6, d7⟩
/-- the relocations -/
def lk_Q (nr ni : Nat) (kd ln ro rf rt : Nat → Int32) : Prop := nr ≤ 32 ∧ ∀ r, r < nr → ∃ o f t Z : Nat, o < ni ∧ ro r = nI o ∧ ¬ kd o = 3 ∧ ln o = nI Z ∧ Z ≤ 256 ∧ f + 2 ≤ Z ∧ rf r = nI f ∧ t < 16 ∧ rt r = nI t
theorem lk_Q_sec {nr ni : Nat} {kd ln ro rf rt : Nat → Int32} {k z : Int32} (h : lk_Q nr ni kd ln ro rf rt) : lk_Q nr (ni + 1) (upd kd ni k) (upd ln ni z) ro rf rt := by
  refine ⟨h.1, fun r hr => ?_⟩
  obtain ⟨o, f, t, Z, d1, d2, d3, d4, d5, d6, d7, d8, d9⟩ := h.2 r hr
  have e : o ≠ ni := by omega
  exact ⟨o, f, t, Z, by omega, d2, by rw [pk_un e]; exact d3, by rw [pk_un e]; exact d4, d5, d6, d7, d8, d9⟩
theorem lk_Q_byte {nr ni c : Nat} {kd ln ro rf rt : Nat → Int32} (h : lk_Q nr ni kd ln ro rf rt) (hz : ∀ Z, ln c = nI Z → Z ≤ 256 → Z < 256) : lk_Q nr ni kd (upd ln c (ln c + 1)) ro rf rt := by
  refine ⟨h.1, fun r hr => ?_⟩
  obtain ⟨o, f, t, Z, d1, d2, d3, d4, d5, d6, d7, d8, d9⟩ := h.2 r hr
  by_cases e : o = c
  · subst e
    have := hz Z d4 d5
    exact ⟨o, f, t, Z + 1, d1, d2, d3, by rw [pk_us, d4, nI_1], by omega, by omega, d7, d8, d9⟩
  · exact ⟨o, f, t, Z, d1, d2, d3, by rw [pk_un e]; exact d4, d5, d6, d7, d8, d9⟩
theorem lk_Q_rel {nr ni o f t Z : Nat} {kd ln ro rf rt : Nat → Int32} (h : lk_Q nr ni kd ln ro rf rt) (hc : nr < 32) (d1 : o < ni) (d3 : ¬ kd o = 3) (d4 : ln o = nI Z) (d5 : Z ≤ 256) (d6 : f + 2 ≤ Z) (d8 : t < 16) : lk_Q (nr + 1) ni kd ln (upd ro nr (nI o)) (upd rf nr (nI f)) (upd rt nr (nI t)) := by
  refine ⟨by omega, fun r hr => ?_⟩
  by_cases e : r = nr
  · subst e
    exact ⟨o, f, t, Z, d1, pk_us, d3, d4, d5, d6, pk_us, d8, pk_us⟩
  · rw [pk_un e, pk_un e, pk_un e]
    exact h.2 r (by omega)
end
