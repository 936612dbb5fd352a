section
/-! I: writes to a stretch of memory -/
def lk_wr (m : Nat → Int32) (s e : Nat) (F : Nat → Int32) : Nat → Int32 := fun j => if s ≤ j ∧ j < e then F j else m j
theorem lk_wr_0 {m F : Nat → Int32} {s : Nat} : lk_wr m s s F = m := by
  funext j
  exact if_neg (by omega)
theorem lk_wr_e {m F : Nat → Int32} {s e : Nat} (h : e ≤ s) : lk_wr m s e F = m := by
  funext j
  exact if_neg (by omega)
theorem lk_wr_t {m F : Nat → Int32} {s e j : Nat} (h1 : s ≤ j) (h2 : j < e) : lk_wr m s e F j = F j := if_pos ⟨h1, h2⟩
theorem lk_wr_f {m F : Nat → Int32} {s e j : Nat} (h : ¬ (s ≤ j ∧ j < e)) : lk_wr m s e F j = m j := if_neg h
theorem lk_wr_s {m F : Nat → Int32} {s x : Nat} {v : Int32} (h : s ≤ x) (hv : v = F x) : upd (lk_wr m s x F) x v = lk_wr m s (x + 1) F := by
  funext j
  by_cases e : j = x
  · subst e
    rw [pk_us, lk_wr_t h (Nat.lt_succ_self j), hv]
  · rw [pk_un e]
    by_cases c : s ≤ j ∧ j < x
    · rw [lk_wr_t c.1 c.2, lk_wr_t c.1 (by omega)]
    · rw [lk_wr_f c, lk_wr_f (by omega)]
/-- X's one memory against Y's ROM and RAM -/
def lk_M (me rom ram : Nat → Int32) : Prop := (∀ j, j < 128 → me j = rom j) ∧ (∀ j, j < 128 → me (256 + j) = ram j)
theorem lk_M_wr {me rom ram F F' : Nat → Int32} {a b : Nat} (h : lk_M me rom ram) (ha : 256 ≤ a) (hF : ∀ j, j < 128 → a ≤ 256 + j → 256 + j < b → F (256 + j) = F' j) : lk_M (lk_wr me a b F) rom (lk_wr ram (a - 256) (b - 256) F') := by
  refine ⟨fun j hj => ?_, fun j hj => ?_⟩
  · rw [lk_wr_f (by omega)]; exact h.1 j hj
  · by_cases c : a ≤ 256 + j ∧ 256 + j < b
    · rw [lk_wr_t c.1 c.2, lk_wr_t (by omega) (by omega)]
      exact hF j hj c.1 c.2
    · rw [lk_wr_f c, lk_wr_f (by omega)]; exact h.2 j hj
end
section
/-! J: the walk's invariant, and what each statement does to it -/
def lk_ga (p : Nat → Bool) (al : Nat → Int32) : Nat → Int32
  | 0 => 1
  | s + 1 => if p s = true ∧ lk_ga p al s < al s then al s else lk_ga p al s
theorem lk_ga_s (p : Nat → Bool) (al : Nat → Int32) (s : Nat) : lk_ga p al (s + 1) = if p s = true ∧ lk_ga p al s < al s then al s else lk_ga p al s := rfl
theorem lk_ga_A {p : Nat → Bool} {al : Nat → Int32} : ∀ n, (∀ s, s < n → ∃ A, lk_A A ∧ al s = nI A) → ∃ A, lk_A A ∧ lk_ga p al n = nI A := by
  intro n
  induction n with
  | zero => intro _; exact ⟨1, Or.inl rfl, rfl⟩
  | succ n ih =>
    intro h
    rw [lk_ga_s]
    by_cases c : p n = true ∧ lk_ga p al n < al n
    · rw [if_pos c]; exact h n (Nat.lt_succ_self n)
    · rw [if_neg c]; exact ih (fun s hs => h s (by omega))
def lk_W (ni : Nat) (rg ld : Nat → Int32) (own sz : Nat → Nat) (pl : Nat → Prop) (B n nc ng : Nat) (ig : Bool) (C0 C1 : Nat) (V L D G0 GE IV : Nat → Nat) (ct vm lm dt gs ge xv os yg0 yg1 yv yl : Nat → Int32) (c0 c1 g0 yge grp k dot vma lma ing : Int32) : Prop :=
  lk_G rg ld ni own sz pl B n nc ng C0 C1 V L D G0 GE IV ∧
  (ct 0 = nI C0 ∧ ct 1 = nI C1 ∧ c0 = nI C0 ∧ c1 = nI C1) ∧
  (∀ j, j < n → vm j = nI (V j) ∧ lm j = nI (L j) ∧ dt j = nI (D j)) ∧
  (∀ j, j < nc → os j = nI (D j - V j)) ∧
  (∀ g, g < ng → gs g = nI (G0 g) ∧ ge g = nI (GE g)) ∧
  (∀ g, g < ng → (ig = true → g + 1 < ng) → yg0 g = nI (G0 g) ∧ yg1 g = nI (GE g)) ∧
  (∀ s, s < ni → pl s → xv s = nI (IV s) ∧ yv s = nI (IV s) ∧ yl s = nI (IV s) + (lm (own s) - vm (own s))) ∧
  (ing = (if ig = true then 1 else 0) ∧ grp = nI ng - 1 ∧ (ig = true → 1 ≤ ng ∧ g0 = nI (G0 (ng - 1)) ∧ yge = nI (GE (ng - 1)))) ∧
  ((nc < n → k = nI nc ∧ dot = nI (D nc) ∧ vma = nI (V nc) ∧ lma = nI (L nc)) ∧ (nc = n → k = -1))
theorem lk_W_pl {ni : Nat} {rg ld : Nat → Int32} {own sz : Nat → Nat} {pl pl' : Nat → Prop} {B B' n nc ng : Nat} {ig : Bool} {C0 C1 : Nat} {V L D G0 GE IV : Nat → Nat} {ct vm lm dt gs ge xv os yg0 yg1 yv yl : Nat → Int32} {c0 c1 g0 yge grp k dot vma lma ing : Int32}
    (h : lk_W ni rg ld own sz pl B n nc ng ig C0 C1 V L D G0 GE IV ct vm lm dt gs ge xv os yg0 yg1 yv yl c0 c1 g0 yge grp k dot vma lma ing) (hB : B ≤ B') (hp : ∀ s, s < ni → pl' s → pl s) :
    lk_W ni rg ld own sz pl' B' n nc ng ig C0 C1 V L D G0 GE IV ct vm lm dt gs ge xv os yg0 yg1 yv yl c0 c1 g0 yge grp k dot vma lma ing := by
  obtain ⟨h1, h2, h3, h4, h5, h6, h7, h8, h9⟩ := h
  exact ⟨lk_G_B (lk_G_pl h1 hp) hB, h2, h3, h4, h5, h6, fun s hs p => h7 s hs (hp s hs p), h8, h9⟩
/-- OP_SECTION -/
theorem lk_W_sec {ni : Nat} {rg ld : Nat → Int32} {own sz : Nat → Nat} {pl : Nat → Prop} {B n ng : Nat} {ig : Bool} {C0 C1 v l : Nat} {V L D G0 GE IV : Nat → Nat} {ct vm lm dt gs ge xv os yg0 yg1 yv yl : Nat → Int32} {c0 c1 g0 yge grp k dot vma lma ing : Int32}
    (h : lk_W ni rg ld own sz pl B n n ng ig C0 C1 V L D G0 GE IV ct vm lm dt gs ge xv os yg0 yg1 yv yl c0 c1 g0 yge grp k dot vma lma ing)
    (hv : v ≤ B) (hl : l ≤ B) (h256 : rg n = 1 → 256 ≤ v) (hr : rg n = 0 → l = v) (hc : ld n = 1 → C0 ≤ l) :
    lk_W ni rg ld own sz pl B (n + 1) n ng ig C0 C1 (lk_up V n v) (lk_up L n l) (lk_up D n v) G0 GE IV ct (upd vm n (nI v)) (upd lm n (nI l)) (upd dt n (nI v)) gs ge xv os yg0 yg1 yv yl c0 c1 g0 yge grp (nI n) (nI v) (nI v) (nI l) ing := by
  obtain ⟨h1, h2, h3, h4, h5, h6, h7, h8, h9⟩ := h
  refine ⟨lk_G_sec h1 hv hl h256 hr hc, h2, fun j hj => ?_, fun j hj => ?_, h5, h6, fun s hs p => ?_, h8, fun _ => ?_, fun z => by omega⟩
  · by_cases e : j = n
    · subst e
      rw [pk_us, pk_us, pk_us, lk_ups, lk_ups, lk_ups]
      exact ⟨rfl, rfl, rfl⟩
    · rw [pk_un e, pk_un e, pk_un e, lk_upn e, lk_upn e, lk_upn e]
      exact h3 j (by omega)
  · have e : j ≠ n := by omega
    rw [lk_upn e, lk_upn e]
    exact h4 j hj
  · have e : own s ≠ n := by
      have := (h1.2.2.2.2.2.2.1 s hs p).1
      omega
    rw [pk_un e, pk_un e]
    exact h7 s hs p
  · rw [lk_ups, lk_ups, lk_ups]
    exact ⟨rfl, rfl, rfl, rfl⟩
/-- the open section's dot moved -/
theorem lk_W_dot {ni : Nat} {rg ld : Nat → Int32} {own sz : Nat → Nat} {pl : Nat → Prop} {B B' nc ng : Nat} {ig : Bool} {C0 C1 x : Nat} {V L D G0 GE IV : Nat → Nat} {ct vm lm dt gs ge xv os yg0 yg1 yv yl : Nat → Int32} {c0 c1 g0 yge grp k dot vma lma ing : Int32}
    (h : lk_W ni rg ld own sz pl B (nc + 1) nc ng ig C0 C1 V L D G0 GE IV ct vm lm dt gs ge xv os yg0 yg1 yv yl c0 c1 g0 yge grp k dot vma lma ing)
    (hx : D nc ≤ x) (hB : B + (x - D nc) ≤ B') :
    lk_W ni rg ld own sz pl B' (nc + 1) nc ng ig C0 C1 V L (lk_up D nc x) G0 GE IV ct vm lm (upd dt nc (nI x)) gs ge xv os yg0 yg1 yv yl c0 c1 g0 yge grp k (nI x) vma lma ing := by
  obtain ⟨h1, h2, h3, h4, h5, h6, h7, h8, h9, h10⟩ := h
  refine ⟨lk_G_dot h1 hx hB, h2, fun j hj => ?_, fun j hj => ?_, h5, h6, h7, h8, fun z => ?_, h10⟩
  · by_cases e : j = nc
    · subst e
      rw [pk_us, lk_ups]
      exact ⟨(h3 j hj).1, (h3 j hj).2.1, rfl⟩
    · rw [pk_un e, lk_upn e]
      exact h3 j hj
  · rw [lk_upn (show j ≠ nc by omega)]
    exact h4 j hj
  · obtain ⟨a1, a2, a3, a4⟩ := h9 z
    rw [lk_ups]
    exact ⟨a1, rfl, a3, a4⟩
/-- an input section placed at x -/
theorem lk_W_put {ni : Nat} {rg ld : Nat → Int32} {own sz : Nat → Nat} {pl : Nat → Prop} {B B' nc ng : Nat} {ig : Bool} {C0 C1 x q : Nat} {V L D G0 GE IV : Nat → Nat} {ct vm lm dt gs ge xv os yg0 yg1 yv yl : Nat → Int32} {c0 c1 g0 yge grp k dot vma lma ing : Int32}
    (h : lk_W ni rg ld own sz pl B (nc + 1) nc ng ig C0 C1 V L D G0 GE IV ct vm lm dt gs ge xv os yg0 yg1 yv yl c0 c1 g0 yge grp k dot vma lma ing)
    (hq : ¬ pl q) (ho : own q = nc) (hx : D nc ≤ x) (hB : B + (x + sz q - D nc) ≤ B') :
    lk_W ni rg ld own sz (fun t => pl t ∨ t = q) B' (nc + 1) nc ng ig C0 C1 V L (lk_up D nc (x + sz q)) G0 GE (lk_up IV q x) ct vm lm (upd dt nc (nI (x + sz q))) gs ge (upd xv q (nI x)) os yg0 yg1 (upd yv q (nI x)) (upd yl q (nI x + (lma - vma))) c0 c1 g0 yge grp k (nI (x + sz q)) vma lma ing := by
  have hd := lk_W_dot h (x := x + sz q) (by omega) hB
  obtain ⟨_, h2, h3, h4, h5, h6, h7, h8, h9, h10⟩ := hd
  refine ⟨lk_G_put h.1 hq ho hx hB, h2, h3, h4, h5, h6, fun s hs p => ?_, h8, h9, h10⟩
  by_cases e : s = q
  · subst e
    obtain ⟨_, _, a3, a4⟩ := h9 (by omega)
    rw [pk_us, pk_us, pk_us, lk_ups, ho]
    obtain ⟨b1, b2, _⟩ := h3 nc (by omega)
    exact ⟨rfl, rfl, by rw [a3, a4, b1, b2]⟩
  · rw [pk_un e, pk_un e, pk_un e, lk_upn e]
    exact h7 s hs (p.resolve_right e)
/-- OP_END -/
theorem lk_W_end {ni : Nat} {rg ld : Nat → Int32} {own sz : Nat → Nat} {pl : Nat → Prop} {B nc ng : Nat} {ig : Bool} {C0 C1 C0' C1' : Nat} {V L D G0 GE GE' IV : Nat → Nat} {ct ct' vm lm dt gs ge ge' xv os yg0 yg1 yv yl : Nat → Int32} {c0 c1 c0' c1' g0 yge yge' grp k dot vma lma ing : Int32}
    (h : lk_W ni rg ld own sz pl B (nc + 1) nc ng ig C0 C1 V L D G0 GE IV ct vm lm dt gs ge xv os yg0 yg1 yv yl c0 c1 g0 yge grp k dot vma lma ing)
    (h0 : C0' ≤ B) (h0' : C0 ≤ C0') (hl : ld nc = 1 → L nc + (D nc - V nc) ≤ C0') (h1 : C1' ≤ B) (h1' : 256 ≤ C1')
    (hg : ∀ g, g < ng → GE' g = GE g ∨ (rg nc = 1 ∧ GE' g = D nc ∧ GE g ≤ D nc))
    (hct : ct' 0 = nI C0' ∧ ct' 1 = nI C1' ∧ c0' = nI C0' ∧ c1' = nI C1')
    (hge : ∀ g, g < ng → ge' g = nI (GE' g))
    (hyg : ∀ g, g < ng → (ig = true → g + 1 < ng) → GE' g = GE g)
    (hye : ig = true → yge' = nI (GE' (ng - 1))) :
    lk_W ni rg ld own sz pl B (nc + 1) (nc + 1) ng ig C0' C1' V L D G0 GE' IV ct' vm lm dt gs ge' xv (upd os nc (nI (D nc - V nc))) yg0 yg1 yv yl c0' c1' g0 yge' grp (-1) dot vma lma ing := by
  obtain ⟨a1, a2, a3, a4, a5, a6, a7, ⟨a8, a9, a10⟩, a11, a12⟩ := h
  refine ⟨lk_G_end a1 h0 h0' hl h1 h1' hg, hct, a3, fun j hj => ?_, fun g hgn => ⟨(a5 g hgn).1, hge g hgn⟩, fun g hgn hi => ?_, a7, ⟨a8, a9, fun e => ⟨(a10 e).1, (a10 e).2.1, hye e⟩⟩, fun z => absurd z (Nat.lt_irrefl _), fun _ => rfl⟩
  · by_cases e : j = nc
    · subst e; rw [pk_us]
    · rw [pk_un e]; exact a4 j (by omega)
  · rw [hyg g hgn hi]; exact a6 g hgn hi
/-- a counter moved outside any section and group -/
theorem lk_W_cnt {ni : Nat} {rg ld : Nat → Int32} {own sz : Nat → Nat} {pl : Nat → Prop} {B B' n ng : Nat} {ig : Bool} {C0 C1 C0' C1' : Nat} {V L D G0 GE IV : Nat → Nat} {ct ct' vm lm dt gs ge xv os yg0 yg1 yv yl : Nat → Int32} {c0 c1 c0' c1' g0 yge grp k dot vma lma ing : Int32}
    (h : lk_W ni rg ld own sz pl B n n ng ig C0 C1 V L D G0 GE IV ct vm lm dt gs ge xv os yg0 yg1 yv yl c0 c1 g0 yge grp k dot vma lma ing)
    (hB : B ≤ B') (h0 : C0' ≤ B') (h0' : C0 ≤ C0') (h1 : C1' ≤ B') (h1' : 256 ≤ C1')
    (hct : ct' 0 = nI C0' ∧ ct' 1 = nI C1' ∧ c0' = nI C0' ∧ c1' = nI C1') :
    lk_W ni rg ld own sz pl B' n n ng ig C0' C1' V L D G0 GE IV ct' vm lm dt gs ge xv os yg0 yg1 yv yl c0' c1' g0 yge grp k dot vma lma ing := by
  obtain ⟨a1, a2, a3, a4, a5, a6, a7, a8, a9⟩ := h
  exact ⟨lk_G_cnt a1 hB h0 h0' h1 h1', hct, a3, a4, a5, a6, a7, a8, a9⟩
/-- OP_OVERLAY -/
theorem lk_W_ovl {ni : Nat} {rg ld : Nat → Int32} {own sz : Nat → Nat} {pl : Nat → Prop} {B n ng : Nat} {C0 C1 : Nat} {V L D G0 GE IV : Nat → Nat} {ct vm lm dt gs ge xv os yg0 yg1 yv yl : Nat → Int32} {c0 c1 g0 yge grp k dot vma lma ing : Int32}
    (h : lk_W ni rg ld own sz pl B n n ng false C0 C1 V L D G0 GE IV ct vm lm dt gs ge xv os yg0 yg1 yv yl c0 c1 g0 yge grp k dot vma lma ing) :
    lk_W ni rg ld own sz pl B n n (ng + 1) true C0 C1 V L D (lk_up G0 ng C1) (lk_up GE ng C1) IV ct vm lm dt (upd gs ng (nI C1)) (upd ge ng (nI C1)) xv os yg0 yg1 yv yl c0 c1 (nI C1) (nI C1) (nI ng) k dot vma lma 1 := by
  obtain ⟨a1, a2, a3, a4, a5, a6, a7, ⟨a8, a9, a10⟩, a11⟩ := h
  refine ⟨lk_G_ovl a1, a2, a3, a4, fun g hg => ?_, fun g hg hi => ?_, a7, ⟨rfl, ?_, fun _ => ⟨by omega, ?_, ?_⟩⟩, a11⟩
  · by_cases e : g = ng
    · subst e
      rw [pk_us, pk_us, lk_ups, lk_ups]
      exact ⟨rfl, rfl⟩
    · rw [pk_un e, pk_un e, lk_upn e, lk_upn e]
      exact a5 g (by omega)
  · have := hi rfl
    have e : g ≠ ng := by omega
    rw [lk_upn e, lk_upn e]
    exact a6 g (by omega) (fun z => absurd z (by decide))
  · exact (nI_pred ng).symm
  · rw [Nat.add_sub_cancel, lk_ups]
  · rw [Nat.add_sub_cancel, lk_ups]
/-- OP_OVERLAY_END -/
theorem lk_W_ove {ni : Nat} {rg ld : Nat → Int32} {own sz : Nat → Nat} {pl : Nat → Prop} {B n ng : Nat} {C0 C1 : Nat} {V L D G0 GE IV : Nat → Nat} {ct vm lm dt gs ge xv os yg0 yg1 yv yl : Nat → Int32} {c0 c1 g0 yge grp k dot vma lma ing : Int32}
    (h : lk_W ni rg ld own sz pl B n n (ng + 1) true C0 C1 V L D G0 GE IV ct vm lm dt gs ge xv os yg0 yg1 yv yl c0 c1 g0 yge grp k dot vma lma ing) :
    lk_W ni rg ld own sz pl B n n (ng + 1) false C0 (GE ng) V L D G0 GE IV (upd ct 1 (nI (GE ng))) vm lm dt gs ge xv os (upd yg0 ng g0) (upd yg1 ng yge) yv yl c0 yge g0 yge grp k dot vma lma 0 := by
  obtain ⟨a1, ⟨b1, b2, b3, b4⟩, a3, a4, a5, a6, a7, ⟨a8, a9, a10⟩, a11⟩ := h
  obtain ⟨_, e1, e2⟩ := a10 rfl
  rw [Nat.add_sub_cancel] at e1 e2
  obtain ⟨d1, d2, d3, _⟩ := a1.2.2.2.2.2.1 ng (by omega)
  refine ⟨lk_G_cnt a1 (Nat.le_refl B) a1.1.1 (Nat.le_refl C0) d3 (by omega), ⟨?_, pk_us, b3, e2⟩, a3, a4, a5, fun g hg _ => ?_, a7, ⟨rfl, a9, fun z => absurd z (by decide)⟩, a11⟩
  · rw [pk_un (by decide)]; exact b1
  · by_cases e : g = ng
    · subst e
      rw [pk_us, pk_us]
      exact ⟨e1, e2⟩
    · rw [pk_un e, pk_un e]
      exact a6 g hg (fun _ => by omega)
end
