section
/-! M: the invariant at statement i -/
def lk_nc (op : Nat → Int32) (i : Nat) : Nat := lk_no op i - (if lk_is op i = true then 1 else 0)
theorem lk_nc_f {op : Nat → Int32} {i : Nat} (h : lk_is op i = false) : lk_nc op i = lk_no op i := by
  unfold lk_nc
  rw [h, if_neg (by decide)]
  exact Nat.sub_zero _
theorem lk_nc_t {op : Nat → Int32} {i : Nat} (h : lk_is op i = true) : lk_no op i = lk_nc op i + 1 := by
  have := lk_is_p i h
  unfold lk_nc
  rw [if_pos h]
  omega
def lk_pl (st lv : Nat → Int32) (i s : Nat) : Prop := lv s = 1 ∧ ∃ q, q < i ∧ st s = nI q
def lk_hA (ni ns : Nat) (op st lv : Nat → Int32) : Prop := ns ≤ 32 ∧ ∀ s, s < ni → lv s = 1 → ∃ q, q < ns ∧ (op q = 3 ∨ op q = 4) ∧ st s = nI q
theorem lk_pl_n {ni ns i : Nat} {op st lv : Nat → Int32} (hA : lk_hA ni ns op st lv) (hi : i < ns) (h : ¬ (op i = 3 ∨ op i = 4)) : ∀ s, s < ni → lk_pl st lv (i + 1) s → lk_pl st lv i s := by
  intro s hs ⟨hl, q, hq, e⟩
  refine ⟨hl, q, ?_, e⟩
  obtain ⟨q', h1, h2, h3⟩ := hA.2 s hs hl
  have h32 := hA.1
  have e2 : q = q' := (nI_eq (by omega) (by omega)).mp (e.symm.trans h3)
  have : q ≠ i := fun z => h (by rw [← z, e2]; exact h2)
  omega
end
section
variable {ni ns i : Nat} {op rg ld st lv : Nat → Int32} {own sz : Nat → Nat} {C0 C1 : Nat} {V L D G0 GE IV : Nat → Nat} {ct vm lm dt gs ge xv os yg0 yg1 yv yl : Nat → Int32} {c0 c1 g0 yge grp k dot vma lma ing : Int32}
def lk_WI (ni : Nat) (op rg ld st lv : Nat → Int32) (own sz : Nat → Nat) (i : Nat) (C0 C1 : Nat) (V L D G0 GE IV : Nat → Nat) (ct vm lm dt gs ge xv os yg0 yg1 yv yl : Nat → Int32) (c0 c1 g0 yge grp k dot vma lma ing : Int32) : Prop :=
  lk_W ni rg ld own sz (lk_pl st lv i) (2000 + 4700 * i) (lk_no op i) (lk_nc op i) (lk_ng op i) (lk_ig op i) C0 C1 V L D G0 GE IV ct vm lm dt gs ge xv os yg0 yg1 yv yl c0 c1 g0 yge grp k dot vma lma ing
/-- at the beginning -/
theorem lk_WI_0 (h0 : ct 0 = 0) (h1 : ct 1 = 256) : lk_WI ni op rg ld st lv own sz 0 0 256 V L D G0 GE IV ct vm lm dt gs ge xv os yg0 yg1 yv yl 0 256 g0 yge (-1) (-1) dot vma lma 0 := by
  refine ⟨lk_G_0 (by omega) (fun s _ p => ?_), ⟨h0, h1, rfl, rfl⟩, fun j h => absurd h (Nat.not_lt_zero j), fun j h => absurd h (Nat.not_lt_zero j), fun j h => absurd h (Nat.not_lt_zero j), fun j h => absurd h (Nat.not_lt_zero j), fun s _ p => ?_, ⟨rfl, (show (-1 : Int32) = nI 0 - 1 by decide), fun z => Bool.noConfusion z⟩, fun z => absurd z (Nat.lt_irrefl 0), fun _ => rfl⟩
  · obtain ⟨_, q, hq, _⟩ := p
    exact absurd hq (Nat.not_lt_zero q)
  · obtain ⟨_, q, hq, _⟩ := p
    exact absurd hq (Nat.not_lt_zero q)
/-- OP_SECTION -/
theorem lk_V_sec {v l : Nat} (h : lk_WI ni op rg ld st lv own sz i C0 C1 V L D G0 GE IV ct vm lm dt gs ge xv os yg0 yg1 yv yl c0 c1 g0 yge grp k dot vma lma ing) (hA : lk_hA ni ns op st lv) (hi : i < ns) (ho : op i = 1) (his : lk_is op i = false)
    (hv : v ≤ 2000 + 4700 * i + 15) (hl : l ≤ 2000 + 4700 * i + 15) (h256 : rg (lk_no op i) = 1 → 256 ≤ v) (hr : rg (lk_no op i) = 0 → l = v) (hc : ld (lk_no op i) = 1 → C0 ≤ l) :
    lk_WI ni op rg ld st lv own sz (i + 1) C0 C1 (lk_up V (lk_no op i) v) (lk_up L (lk_no op i) l) (lk_up D (lk_no op i) v) G0 GE IV ct (upd vm (lk_no op i) (nI v)) (upd lm (lk_no op i) (nI l)) (upd dt (lk_no op i) (nI v)) gs ge xv os yg0 yg1 yv yl c0 c1 g0 yge grp (nI (lk_no op i)) (nI v) (nI v) (nI l) ing := by
  have e1 : lk_no op (i + 1) = lk_no op i + 1 := by rw [lk_no_s, if_pos ho]
  have e2 : lk_nc op (i + 1) = lk_no op i := by
    unfold lk_nc
    rw [e1, lk_is_s, if_pos ho, if_pos rfl]
    omega
  have e3 : lk_ng op (i + 1) = lk_ng op i := by rw [lk_ng_s, ho, if_neg (by decide)]; rfl
  have e4 : lk_ig op (i + 1) = lk_ig op i := by rw [lk_ig_s, ho, if_neg (by decide), if_neg (by decide)]
  unfold lk_WI at h ⊢
  rw [e1, e2, e3, e4]
  rw [lk_nc_f his] at h
  exact lk_W_sec (lk_W_pl h (B' := 2000 + 4700 * (i + 1)) (by omega) (lk_pl_n hA hi (by rw [ho]; decide))) (by omega) (by omega) h256 hr hc
/-- a dot op in the open section -/
theorem lk_V_dot {x : Nat} (h : lk_WI ni op rg ld st lv own sz i C0 C1 V L D G0 GE IV ct vm lm dt gs ge xv os yg0 yg1 yv yl c0 c1 g0 yge grp k dot vma lma ing) (hA : lk_hA ni ns op st lv) (hi : i < ns) (ho : op i = 5 ∨ op i = 6 ∨ op i = 7) (his : lk_is op i = true)
    (hx : D (lk_nc op i) ≤ x) (hx2 : x ≤ D (lk_nc op i) + 1023) :
    lk_WI ni op rg ld st lv own sz (i + 1) C0 C1 V L (lk_up D (lk_nc op i) x) G0 GE IV ct vm lm (upd dt (lk_nc op i) (nI x)) gs ge xv os yg0 yg1 yv yl c0 c1 g0 yge grp k (nI x) vma lma ing := by
  have n1 : ¬ op i = 1 := by rcases ho with e | e | e <;> rw [e] <;> decide
  have n2 : ¬ op i = 2 := by rcases ho with e | e | e <;> rw [e] <;> decide
  have n3 : ¬ (op i = 3 ∨ op i = 4) := by rcases ho with e | e | e <;> rw [e] <;> decide
  have n8 : ¬ op i = 8 := by rcases ho with e | e | e <;> rw [e] <;> decide
  have n9 : ¬ op i = 9 := by rcases ho with e | e | e <;> rw [e] <;> decide
  have e1 : lk_no op (i + 1) = lk_no op i := by rw [lk_no_s, if_neg n1]; rfl
  have e2 : lk_nc op (i + 1) = lk_nc op i := by
    unfold lk_nc
    rw [e1, lk_is_s, if_neg n1, if_neg n2]
  have e3 : lk_ng op (i + 1) = lk_ng op i := by rw [lk_ng_s, if_neg n8]; rfl
  have e4 : lk_ig op (i + 1) = lk_ig op i := by rw [lk_ig_s, if_neg n8, if_neg n9]
  unfold lk_WI at h ⊢
  rw [e1, e2, e3, e4]
  rw [lk_nc_t his] at h ⊢
  exact lk_W_pl (lk_W_dot h (B' := 2000 + 4700 * (i + 1)) hx (by omega)) (Nat.le_refl _) (lk_pl_n hA hi n3)
/-- OP_END -/
theorem lk_V_end {C0' C1' : Nat} {GE' : Nat → Nat} {ct' ge' : Nat → Int32} {c0' c1' yge' : Int32} (h : lk_WI ni op rg ld st lv own sz i C0 C1 V L D G0 GE IV ct vm lm dt gs ge xv os yg0 yg1 yv yl c0 c1 g0 yge grp k dot vma lma ing) (hA : lk_hA ni ns op st lv) (hi : i < ns) (ho : op i = 2) (his : lk_is op i = true)
    (h0 : C0' ≤ 2000 + 4700 * i) (h0' : C0 ≤ C0') (hl : ld (lk_nc op i) = 1 → L (lk_nc op i) + (D (lk_nc op i) - V (lk_nc op i)) ≤ C0') (h1 : C1' ≤ 2000 + 4700 * i) (h1' : 256 ≤ C1')
    (hg : ∀ g, g < lk_ng op i → GE' g = GE g ∨ (rg (lk_nc op i) = 1 ∧ GE' g = D (lk_nc op i) ∧ GE g ≤ D (lk_nc op i)))
    (hct : ct' 0 = nI C0' ∧ ct' 1 = nI C1' ∧ c0' = nI C0' ∧ c1' = nI C1')
    (hge : ∀ g, g < lk_ng op i → ge' g = nI (GE' g))
    (hyg : ∀ g, g < lk_ng op i → (lk_ig op i = true → g + 1 < lk_ng op i) → GE' g = GE g)
    (hye : lk_ig op i = true → yge' = nI (GE' (lk_ng op i - 1))) :
    lk_WI ni op rg ld st lv own sz (i + 1) C0' C1' V L D G0 GE' IV ct' vm lm dt gs ge' xv (upd os (lk_nc op i) (nI (D (lk_nc op i) - V (lk_nc op i)))) yg0 yg1 yv yl c0' c1' g0 yge' grp (-1) dot vma lma ing := by
  have e1 : lk_no op (i + 1) = lk_no op i := by rw [lk_no_s, ho, if_neg (by decide)]; rfl
  have e2 : lk_nc op (i + 1) = lk_no op i := by
    rw [lk_nc_f, e1]
    rw [lk_is_s, ho, if_neg (by decide), if_pos rfl]
  have e3 : lk_ng op (i + 1) = lk_ng op i := by rw [lk_ng_s, ho, if_neg (by decide)]; rfl
  have e4 : lk_ig op (i + 1) = lk_ig op i := by rw [lk_ig_s, ho, if_neg (by decide), if_neg (by decide)]
  unfold lk_WI at h ⊢
  rw [e1, e2, e3, e4]
  rw [lk_nc_t his] at h ⊢
  exact lk_W_pl (lk_W_end h h0 h0' hl h1 h1' hg hct hge hyg hye) (by omega) (lk_pl_n hA hi (by rw [ho]; decide))
/-- a counter op outside -/
theorem lk_V_cnt {C0' C1' : Nat} {ct' : Nat → Int32} {c0' c1' : Int32} (h : lk_WI ni op rg ld st lv own sz i C0 C1 V L D G0 GE IV ct vm lm dt gs ge xv os yg0 yg1 yv yl c0 c1 g0 yge grp k dot vma lma ing) (hA : lk_hA ni ns op st lv) (hi : i < ns) (ho : op i = 5 ∨ op i = 6 ∨ op i = 7) (his : lk_is op i = false)
    (h0 : C0' ≤ 2000 + 4700 * i + 1023) (h0' : C0 ≤ C0') (h1 : C1' ≤ 2000 + 4700 * i + 1023) (h1' : 256 ≤ C1')
    (hct : ct' 0 = nI C0' ∧ ct' 1 = nI C1' ∧ c0' = nI C0' ∧ c1' = nI C1') :
    lk_WI ni op rg ld st lv own sz (i + 1) C0' C1' V L D G0 GE IV ct' vm lm dt gs ge xv os yg0 yg1 yv yl c0' c1' g0 yge grp k dot vma lma ing := by
  have n1 : ¬ op i = 1 := by rcases ho with e | e | e <;> rw [e] <;> decide
  have n2 : ¬ op i = 2 := by rcases ho with e | e | e <;> rw [e] <;> decide
  have n3 : ¬ (op i = 3 ∨ op i = 4) := by rcases ho with e | e | e <;> rw [e] <;> decide
  have n8 : ¬ op i = 8 := by rcases ho with e | e | e <;> rw [e] <;> decide
  have n9 : ¬ op i = 9 := by rcases ho with e | e | e <;> rw [e] <;> decide
  have e1 : lk_no op (i + 1) = lk_no op i := by rw [lk_no_s, if_neg n1]; rfl
  have e2 : lk_nc op (i + 1) = lk_no op i := by
    rw [lk_nc_f, e1]
    rw [lk_is_s, if_neg n1, if_neg n2]; exact his
  have e3 : lk_ng op (i + 1) = lk_ng op i := by rw [lk_ng_s, if_neg n8]; rfl
  have e4 : lk_ig op (i + 1) = lk_ig op i := by rw [lk_ig_s, if_neg n8, if_neg n9]
  unfold lk_WI at h ⊢
  rw [e1, e2, e3, e4]
  rw [lk_nc_f his] at h
  exact lk_W_pl (lk_W_cnt h (B' := 2000 + 4700 * (i + 1)) (by omega) (by omega) h0' (by omega) h1' hct) (Nat.le_refl _) (lk_pl_n hA hi n3)
/-- OP_OVERLAY -/
theorem lk_V_ovl (h : lk_WI ni op rg ld st lv own sz i C0 C1 V L D G0 GE IV ct vm lm dt gs ge xv os yg0 yg1 yv yl c0 c1 g0 yge grp k dot vma lma ing) (hA : lk_hA ni ns op st lv) (hi : i < ns) (ho : op i = 8) (his : lk_is op i = false) (hig : lk_ig op i = false) :
    lk_WI ni op rg ld st lv own sz (i + 1) C0 C1 V L D (lk_up G0 (lk_ng op i) C1) (lk_up GE (lk_ng op i) C1) IV ct vm lm dt (upd gs (lk_ng op i) (nI C1)) (upd ge (lk_ng op i) (nI C1)) xv os yg0 yg1 yv yl c0 c1 (nI C1) (nI C1) (nI (lk_ng op i)) k dot vma lma 1 := by
  have e1 : lk_no op (i + 1) = lk_no op i := by rw [lk_no_s, ho, if_neg (by decide)]; rfl
  have e2 : lk_nc op (i + 1) = lk_no op i := by
    rw [lk_nc_f, e1]
    rw [lk_is_s, ho, if_neg (by decide), if_neg (by decide)]; exact his
  have e3 : lk_ng op (i + 1) = lk_ng op i + 1 := by rw [lk_ng_s, ho, if_pos rfl]
  have e4 : lk_ig op (i + 1) = true := by rw [lk_ig_s, ho, if_pos rfl]
  unfold lk_WI at h ⊢
  rw [e1, e2, e3, e4]
  rw [lk_nc_f his, hig] at h
  exact lk_W_pl (lk_W_ovl h) (by omega) (lk_pl_n hA hi (by rw [ho]; decide))
/-- OP_OVERLAY_END -/
theorem lk_V_ove {g : Nat} (h : lk_WI ni op rg ld st lv own sz i C0 C1 V L D G0 GE IV ct vm lm dt gs ge xv os yg0 yg1 yv yl c0 c1 g0 yge grp k dot vma lma ing) (hA : lk_hA ni ns op st lv) (hi : i < ns) (ho : op i = 9) (his : lk_is op i = false) (hig : lk_ig op i = true) (hg : lk_ng op i = g + 1) :
    lk_WI ni op rg ld st lv own sz (i + 1) C0 (GE g) V L D G0 GE IV (upd ct 1 (nI (GE g))) vm lm dt gs ge xv os (upd yg0 g g0) (upd yg1 g yge) yv yl c0 yge g0 yge grp k dot vma lma 0 := by
  have e1 : lk_no op (i + 1) = lk_no op i := by rw [lk_no_s, ho, if_neg (by decide)]; rfl
  have e2 : lk_nc op (i + 1) = lk_no op i := by
    rw [lk_nc_f, e1]
    rw [lk_is_s, ho, if_neg (by decide), if_neg (by decide)]; exact his
  have e3 : lk_ng op (i + 1) = lk_ng op i := by rw [lk_ng_s, ho, if_neg (by decide)]; rfl
  have e4 : lk_ig op (i + 1) = false := by rw [lk_ig_s, ho, if_neg (by decide), if_pos rfl]
  unfold lk_WI at h ⊢
  rw [e1, e2, e3, e4]
  rw [lk_nc_f his, hig, hg] at h
  rw [hg]
  exact lk_W_pl (lk_W_ove h) (by omega) (lk_pl_n hA hi (by rw [ho]; decide))
/-- inside OP_INPUT, OP_KEEP: the sections below t are through -/
def lk_pp (st lv : Nat → Int32) (i t s : Nat) : Prop := lk_pl st lv i s ∨ (lv s = 1 ∧ st s = nI i ∧ s < t)
def lk_WP (ni : Nat) (op rg ld st lv : Nat → Int32) (own sz : Nat → Nat) (i t : Nat) (C0 C1 : Nat) (V L D G0 GE IV : Nat → Nat) (ct vm lm dt gs ge xv os yg0 yg1 yv yl : Nat → Int32) (c0 c1 g0 yge grp k dot vma lma ing : Int32) : Prop :=
  lk_W ni rg ld own sz (lk_pp st lv i t) (2000 + 4700 * i + 271 * t) (lk_nc op i + 1) (lk_nc op i) (lk_ng op i) (lk_ig op i) C0 C1 V L D G0 GE IV ct vm lm dt gs ge xv os yg0 yg1 yv yl c0 c1 g0 yge grp k dot vma lma ing
theorem lk_WP_0 (h : lk_WI ni op rg ld st lv own sz i C0 C1 V L D G0 GE IV ct vm lm dt gs ge xv os yg0 yg1 yv yl c0 c1 g0 yge grp k dot vma lma ing) (his : lk_is op i = true) :
    lk_WP ni op rg ld st lv own sz i 0 C0 C1 V L D G0 GE IV ct vm lm dt gs ge xv os yg0 yg1 yv yl c0 c1 g0 yge grp k dot vma lma ing := by
  unfold lk_WI at h
  unfold lk_WP
  rw [lk_nc_t his] at h
  exact lk_W_pl h (by omega) (fun s _ p => p.elim id (fun z => absurd z.2.2 (Nat.not_lt_zero s)))
theorem lk_WP_n {t : Nat} (h : lk_WP ni op rg ld st lv own sz i t C0 C1 V L D G0 GE IV ct vm lm dt gs ge xv os yg0 yg1 yv yl c0 c1 g0 yge grp k dot vma lma ing) (hn : ¬ (lv t = 1 ∧ st t = nI i)) :
    lk_WP ni op rg ld st lv own sz i (t + 1) C0 C1 V L D G0 GE IV ct vm lm dt gs ge xv os yg0 yg1 yv yl c0 c1 g0 yge grp k dot vma lma ing := by
  refine lk_W_pl h (by omega) (fun s _ p => p.elim Or.inl (fun z => Or.inr ⟨z.1, z.2.1, ?_⟩))
  have h1 := z.2.2
  have : s ≠ t := fun e => hn ⟨e ▸ z.1, e ▸ z.2.1⟩
  omega
theorem lk_WP_s {t x : Nat} (h : lk_WP ni op rg ld st lv own sz i t C0 C1 V L D G0 GE IV ct vm lm dt gs ge xv os yg0 yg1 yv yl c0 c1 g0 yge grp k dot vma lma ing) (hi : i < 2 ^ 31) (hs : st t = nI i) (ho : own t = lk_nc op i) (hx : D (lk_nc op i) ≤ x) (hx2 : x ≤ D (lk_nc op i) + 15) (hz : sz t ≤ 256) :
    lk_WP ni op rg ld st lv own sz i (t + 1) C0 C1 V L (lk_up D (lk_nc op i) (x + sz t)) G0 GE (lk_up IV t x) ct vm lm (upd dt (lk_nc op i) (nI (x + sz t))) gs ge (upd xv t (nI x)) os yg0 yg1 (upd yv t (nI x)) (upd yl t (nI x + (lma - vma))) c0 c1 g0 yge grp k (nI (x + sz t)) vma lma ing := by
  have hq : ¬ lk_pp st lv i t t := by
    intro z
    rcases z with ⟨_, q, hq, e⟩ | z
    · have := (nI_eq (by omega) hi).mp (e.symm.trans hs)
      omega
    · exact absurd z.2.2 (Nat.lt_irrefl t)
  refine lk_W_pl (lk_W_put h hq ho hx (B' := 2000 + 4700 * i + 271 * (t + 1)) (by omega)) (Nat.le_refl _) (fun s _ p => ?_)
  rcases p with p | ⟨p1, p2, p3⟩
  · exact Or.inl (Or.inl p)
  · by_cases e : s = t
    · exact Or.inr e
    · exact Or.inl (Or.inr ⟨p1, p2, by omega⟩)
theorem lk_WP_e (h : lk_WP ni op rg ld st lv own sz i ni C0 C1 V L D G0 GE IV ct vm lm dt gs ge xv os yg0 yg1 yv yl c0 c1 g0 yge grp k dot vma lma ing) (hn : ni ≤ 16) (ho : op i = 3 ∨ op i = 4) (his : lk_is op i = true) :
    lk_WI ni op rg ld st lv own sz (i + 1) C0 C1 V L D G0 GE IV ct vm lm dt gs ge xv os yg0 yg1 yv yl c0 c1 g0 yge grp k dot vma lma ing := by
  have n1 : ¬ op i = 1 := by rcases ho with e | e <;> rw [e] <;> decide
  have n2 : ¬ op i = 2 := by rcases ho with e | e <;> rw [e] <;> decide
  have n8 : ¬ op i = 8 := by rcases ho with e | e <;> rw [e] <;> decide
  have n9 : ¬ op i = 9 := by rcases ho with e | e <;> rw [e] <;> decide
  have e1 : lk_no op (i + 1) = lk_no op i := by rw [lk_no_s, if_neg n1]; rfl
  have e2 : lk_nc op (i + 1) = lk_nc op i := by
    unfold lk_nc
    rw [e1, lk_is_s, if_neg n1, if_neg n2]
  have e3 : lk_ng op (i + 1) = lk_ng op i := by rw [lk_ng_s, if_neg n8]; rfl
  have e4 : lk_ig op (i + 1) = lk_ig op i := by rw [lk_ig_s, if_neg n8, if_neg n9]
  unfold lk_WP at h
  unfold lk_WI
  rw [e1, e2, e3, e4, lk_nc_t his]
  refine lk_W_pl h (by omega) (fun s hs p => ?_)
  obtain ⟨p1, q, hq, e⟩ := p
  by_cases z : q = i
  · exact Or.inr ⟨p1, z ▸ e, hs⟩
  · exact Or.inl ⟨p1, q, by omega, e⟩
end
