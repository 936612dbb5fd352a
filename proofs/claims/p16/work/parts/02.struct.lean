section
/-! D: one live step; the script's structure; relocated bytes -/
theorem lk_uself {f : Nat → Int32} {t : Nat} {x : Int32} (h : f t = x) : upd f t x = f := by
  funext j
  by_cases hj : j = t
  · subst hj; rw [pk_us, h]
  · rw [pk_un hj]
theorem lk_uu {f : Nat → Int32} {t : Nat} {x y : Int32} : upd (upd f t x) t y = upd f t y := by
  funext j
  by_cases hj : j = t
  · subst hj; rw [pk_us, pk_us]
  · rw [pk_un hj, pk_un hj, pk_un hj]
def lk_on (tg st : Nat → Int32) (ni r : Nat) : Bool := decide (tg r < nI ni ∧ ¬ st (tg r).toNatClampNeg = -1)
def lk_sp (ow tg st : Nat → Int32) (ni r : Nat) (f : Nat → Int32) : Nat → Int32 := if f (ow r).toNatClampNeg = 1 ∧ lk_on tg st ni r = true then upd f (tg r).toNatClampNeg 1 else f
theorem lk_on_t {tg st : Nat → Int32} {ni r t : Nat} (hn : ni < 2 ^ 31) (ht : t < 2 ^ 31) (e : tg r = nI t) : lk_on tg st ni r = true ↔ t < ni ∧ ¬ st t = -1 := by
  unfold lk_on
  rw [decide_eq_true_iff, e, nI_clamp ht, nI_ltI ht hn]
theorem lk_sp_H {ow tg st : Nat → Int32} {nr ni : Nat} (hn : ni < 2 ^ 31) (ht : ∀ r, r < nr → ∃ t, t < 16 ∧ tg r = nI t) : lk_H (lk_sp ow tg st ni) nr ni := by
  intro r hr f
  obtain ⟨t, h16, et⟩ := ht r hr
  by_cases c : f (ow r).toNatClampNeg = 1 ∧ lk_on tg st ni r = true
  · have e : lk_sp ow tg st ni r f = upd f t 1 := by
      unfold lk_sp
      rw [if_pos c, et, nI_clamp (by omega)]
    have h1 := ((lk_on_t hn (by omega) et).mp c.2).1
    by_cases ft : f t = 1
    · exact Or.inl (e.trans (lk_uself ft))
    · exact Or.inr ⟨t, h1, ft, e⟩
  · exact Or.inl (if_neg c)
theorem lk_sp_cl {ow tg st : Nat → Int32} {ni r o t : Nat} {f : Nat → Int32} (hn : ni < 2 ^ 31) (e : lk_sp ow tg st ni r f = f) (ho : o < 2 ^ 31) (eo : ow r = nI o) (ht : t < 2 ^ 31) (et : tg r = nI t) (h1 : f o = 1) (h2 : t < ni) (h3 : ¬ st t = -1) : f t = 1 := by
  unfold lk_sp at e
  rw [if_pos ⟨by rw [eo, nI_clamp ho]; exact h1, (lk_on_t hn ht et).mpr ⟨h2, h3⟩⟩, et, nI_clamp ht] at e
  have h := congrFun e t
  rw [pk_us] at h
  exact h.symm
/-- what a pass keeps: a live one is assigned -/
def lk_la (st : Nat → Int32) (f : Nat → Int32) (ni : Nat) : Prop := ∀ s, s < ni → f s = 1 → ¬ st s = -1
theorem lk_sp_la {ow tg st : Nat → Int32} {ni r t : Nat} {f : Nat → Int32} (hn : ni < 2 ^ 31) (ht : t < 2 ^ 31) (et : tg r = nI t) (h : lk_la st f ni) : lk_la st (lk_sp ow tg st ni r f) ni := by
  intro s hs
  unfold lk_sp
  split
  · rename_i c
    have h1 := (lk_on_t hn ht et).mp c.2
    rw [et, nI_clamp ht]
    by_cases hj : s = t
    · subst hj; exact fun _ => h1.2
    · rw [pk_un hj]; exact h s hs
  · exact h s hs
theorem lk_ps_la {ow tg st : Nat → Int32} {ni nr : Nat} (hn : ni < 2 ^ 31) (ht : ∀ r, r < nr → ∃ t, t < 16 ∧ tg r = nI t) {f : Nat → Int32} (h : lk_la st f ni) : ∀ r, r ≤ nr → lk_la st (lk_ps (lk_sp ow tg st ni) r f) ni := by
  intro r
  induction r with
  | zero => intro _; exact h
  | succ r ih =>
    intro hr
    obtain ⟨t, h16, et⟩ := ht r (by omega)
    exact lk_sp_la hn (by omega) et (ih (by omega))
theorem lk_it_la {ow tg st : Nat → Int32} {ni nr : Nat} (hn : ni < 2 ^ 31) (ht : ∀ r, r < nr → ∃ t, t < 16 ∧ tg r = nI t) {f : Nat → Int32} (h : lk_la st f ni) : ∀ n, lk_la st (lk_it (lk_sp ow tg st ni) nr n f) ni := by
  intro n
  induction n with
  | zero => exact h
  | succ n ih => exact lk_ps_la hn ht ih nr (Nat.le_refl nr)
def lk_no (op : Nat → Int32) : Nat → Nat
  | 0 => 0
  | i + 1 => lk_no op i + (if op i = 1 then 1 else 0)
def lk_ng (op : Nat → Int32) : Nat → Nat
  | 0 => 0
  | i + 1 => lk_ng op i + (if op i = 8 then 1 else 0)
def lk_is (op : Nat → Int32) : Nat → Bool
  | 0 => false
  | i + 1 => if op i = 1 then true else if op i = 2 then false else lk_is op i
def lk_ig (op : Nat → Int32) : Nat → Bool
  | 0 => false
  | i + 1 => if op i = 8 then true else if op i = 9 then false else lk_ig op i
theorem lk_no_s (op : Nat → Int32) (i : Nat) : lk_no op (i + 1) = lk_no op i + (if op i = 1 then 1 else 0) := rfl
theorem lk_ng_s (op : Nat → Int32) (i : Nat) : lk_ng op (i + 1) = lk_ng op i + (if op i = 8 then 1 else 0) := rfl
theorem lk_is_s (op : Nat → Int32) (i : Nat) : lk_is op (i + 1) = if op i = 1 then true else if op i = 2 then false else lk_is op i := rfl
theorem lk_ig_s (op : Nat → Int32) (i : Nat) : lk_ig op (i + 1) = if op i = 8 then true else if op i = 9 then false else lk_ig op i := rfl
theorem lk_no_u {op : Nat → Int32} {n : Nat} {x : Int32} : ∀ i, i ≤ n → lk_no (upd op n x) i = lk_no op i := by
  intro i
  induction i with
  | zero => intro _; rfl
  | succ i ih => intro h; rw [lk_no_s, lk_no_s, ih (by omega), pk_un (by omega)]
theorem lk_ng_u {op : Nat → Int32} {n : Nat} {x : Int32} : ∀ i, i ≤ n → lk_ng (upd op n x) i = lk_ng op i := by
  intro i
  induction i with
  | zero => intro _; rfl
  | succ i ih => intro h; rw [lk_ng_s, lk_ng_s, ih (by omega), pk_un (by omega)]
theorem lk_is_u {op : Nat → Int32} {n : Nat} {x : Int32} : ∀ i, i ≤ n → lk_is (upd op n x) i = lk_is op i := by
  intro i
  induction i with
  | zero => intro _; rfl
  | succ i ih => intro h; rw [lk_is_s, lk_is_s, ih (by omega), pk_un (by omega)]
theorem lk_ig_u {op : Nat → Int32} {n : Nat} {x : Int32} : ∀ i, i ≤ n → lk_ig (upd op n x) i = lk_ig op i := by
  intro i
  induction i with
  | zero => intro _; rfl
  | succ i ih => intro h; rw [lk_ig_s, lk_ig_s, ih (by omega), pk_un (by omega)]
theorem lk_no_m {op : Nat → Int32} {i : Nat} : ∀ d, lk_no op i ≤ lk_no op (i + d) := by
  intro d
  induction d with
  | zero => exact Nat.le_refl _
  | succ d ih =>
    have := lk_no_s op (i + d)
    rw [show i + (d + 1) = i + d + 1 from rfl]
    omega
theorem lk_ng_m {op : Nat → Int32} {i : Nat} : ∀ d, lk_ng op i ≤ lk_ng op (i + d) := by
  intro d
  induction d with
  | zero => exact Nat.le_refl _
  | succ d ih =>
    have := lk_ng_s op (i + d)
    rw [show i + (d + 1) = i + d + 1 from rfl]
    omega
theorem lk_is_p {op : Nat → Int32} : ∀ i, lk_is op i = true → 1 ≤ lk_no op i := by
  intro i
  induction i with
  | zero => intro h; exact Bool.noConfusion h
  | succ i ih =>
    intro h
    rw [lk_is_s] at h
    rw [lk_no_s]
    by_cases h1 : op i = 1
    · rw [if_pos h1]; omega
    · rw [if_neg h1] at h
      by_cases h2 : op i = 2
      · rw [if_pos h2] at h; exact absurd h (by decide)
      · rw [if_neg h2] at h
        have := ih h
        omega
theorem lk_ig_p {op : Nat → Int32} : ∀ i, lk_ig op i = true → 1 ≤ lk_ng op i := by
  intro i
  induction i with
  | zero => intro h; exact Bool.noConfusion h
  | succ i ih =>
    intro h
    rw [lk_ig_s] at h
    rw [lk_ng_s]
    by_cases h1 : op i = 8
    · rw [if_pos h1]; omega
    · rw [if_neg h1] at h
      by_cases h2 : op i = 9
      · rw [if_pos h2] at h; exact absurd h (by decide)
      · rw [if_neg h2] at h
        have := ih h
        omega
/-- one statement's facts: X's owner ox, Y's stOut oy -/
def lk_sc (op a b ox oy rg ld gp : Nat → Int32) (i : Nat) : Prop :=
  (op i = 1 ∧ lk_is op i = false ∧ ((a i = 0 ∧ b i = 1 ∧ lk_ig op i = false) ∨ (a i = 1 ∧ (b i = 0 ∨ b i = 1))) ∧ ox i = nI (lk_no op i) ∧ oy i = nI (lk_no op i) ∧ rg (lk_no op i) = a i ∧ ld (lk_no op i) = b i ∧ gp (lk_no op i) = (if lk_ig op i = true then nI (lk_ng op i - 1) else -1))
  ∨ ((op i = 2 ∨ op i = 3 ∨ op i = 4) ∧ lk_is op i = true ∧ ox i = nI (lk_no op i - 1) ∧ oy i = nI (lk_no op i - 1))
  ∨ ((op i = 5 ∨ op i = 6 ∨ op i = 7) ∧ (∃ x, x ≤ 1023 ∧ a i = nI x ∧ (op i = 7 → lk_A x)) ∧ ((lk_is op i = true ∧ ox i = nI (lk_no op i - 1) ∧ oy i = nI (lk_no op i - 1)) ∨ (lk_is op i = false ∧ lk_ig op i = false ∧ ox i = -1 ∧ oy i = -1 ∧ (b i = 0 ∨ b i = 1))))
  ∨ (op i = 8 ∧ lk_is op i = false ∧ lk_ig op i = false ∧ ox i = nI (lk_ng op i))
  ∨ (op i = 9 ∧ lk_is op i = false ∧ lk_ig op i = true ∧ ox i = nI (lk_ng op i - 1))
/-- a relocated byte: the fed byte, then the first r relocations -/
def lk_rb (ow fo lo hi : Nat → Int32) (s p : Nat) (b0 : Int32) : Nat → Int32
  | 0 => b0
  | r + 1 => if ow r = nI s ∧ (fo r = nI p ∨ fo r + 1 = nI p) then (if fo r = nI p then lo r else hi r) else lk_rb ow fo lo hi s p b0 r
theorem lk_rb_s (ow fo lo hi : Nat → Int32) (s p : Nat) (b0 : Int32) (r : Nat) : lk_rb ow fo lo hi s p b0 (r + 1) = if ow r = nI s ∧ (fo r = nI p ∨ fo r + 1 = nI p) then (if fo r = nI p then lo r else hi r) else lk_rb ow fo lo hi s p b0 r := rfl
def lk_dj (ni : Nat) (act : Nat → Prop) (Lm len : Nat → Nat) : Prop := ∀ s t, s < ni → t < ni → act s → act t → s ≠ t → Lm s + len s ≤ Lm t ∨ Lm t + len t ≤ Lm s
def lk_I2 (act : Nat → Prop) (Lm len : Nat → Nat) (b0 : Nat → Nat → Int32) (m1 : Nat → Int32) (s : Nat) (m : Nat → Int32) : Prop :=
  (∀ t, t < s → act t → ∀ p, p < len t → m (Lm t + p) = b0 t p) ∧
  (∀ j, (∀ t, t < s → act t → ¬ (Lm t ≤ j ∧ j < Lm t + len t)) → m j = m1 j)
theorem lk_I2_0 {act : Nat → Prop} {Lm len : Nat → Nat} {b0 : Nat → Nat → Int32} {m1 : Nat → Int32} : lk_I2 act Lm len b0 m1 0 m1 :=
  ⟨fun t h => absurd h (Nat.not_lt_zero t), fun _ _ => rfl⟩
theorem lk_I2_n {act : Nat → Prop} {Lm len : Nat → Nat} {b0 : Nat → Nat → Int32} {m1 m : Nat → Int32} {s : Nat} (hI : lk_I2 act Lm len b0 m1 s m) (hn : ¬ act s) : lk_I2 act Lm len b0 m1 (s + 1) m := by
  refine ⟨fun t ht ha => ?_, fun j hj => hI.2 j (fun t ht ha => hj t (by omega) ha)⟩
  have hts : t ≠ s := fun e => hn (e ▸ ha)
  exact hI.1 t (by omega) ha
theorem lk_I2_s {ni : Nat} {act : Nat → Prop} {Lm len : Nat → Nat} {b0 : Nat → Nat → Int32} {m1 m m' : Nat → Int32} {s : Nat} (dj : lk_dj ni act Lm len) (hs : s < ni) (ha : act s) (hI : lk_I2 act Lm len b0 m1 s m) (h1 : ∀ p, p < len s → m' (Lm s + p) = b0 s p) (h2 : ∀ j, ¬ (Lm s ≤ j ∧ j < Lm s + len s) → m' j = m j) : lk_I2 act Lm len b0 m1 (s + 1) m' := by
  refine ⟨fun t ht hat p hp => ?_, fun j hj => ?_⟩
  · by_cases e : t = s
    · subst e; exact h1 p hp
    · have := dj s t hs (by omega) ha hat (fun z => e z.symm)
      rw [h2 _ (by omega)]
      exact hI.1 t (by omega) hat p hp
  · rw [h2 j (hj s (by omega) ha)]
    exact hI.2 j (fun t ht hat => hj t (by omega) hat)
def lk_I3 (ni : Nat) (act : Nat → Prop) (Lm len : Nat → Nat) (ow fo lo hi : Nat → Int32) (b0 : Nat → Nat → Int32) (m1 : Nat → Int32) (r : Nat) (m : Nat → Int32) : Prop :=
  (∀ s, s < ni → act s → ∀ p, p < len s → m (Lm s + p) = lk_rb ow fo lo hi s p (b0 s p) r) ∧
  (∀ j, (∀ s, s < ni → act s → ¬ (Lm s ≤ j ∧ j < Lm s + len s)) → m j = m1 j)
theorem lk_I3_0 {ni : Nat} {act : Nat → Prop} {Lm len : Nat → Nat} {ow fo lo hi : Nat → Int32} {b0 : Nat → Nat → Int32} {m1 m : Nat → Int32} (h : lk_I2 act Lm len b0 m1 ni m) : lk_I3 ni act Lm len ow fo lo hi b0 m1 0 m := h
theorem lk_I3_n {ni : Nat} {act : Nat → Prop} {Lm len : Nat → Nat} {ow fo lo hi : Nat → Int32} {b0 : Nat → Nat → Int32} {m1 m : Nat → Int32} {r o : Nat} (hn : ni < 2 ^ 31) (ho : o < ni) (eo : ow r = nI o) (hna : ¬ act o) (hI : lk_I3 ni act Lm len ow fo lo hi b0 m1 r m) : lk_I3 ni act Lm len ow fo lo hi b0 m1 (r + 1) m := by
  refine ⟨fun s hs ha p hp => ?_, hI.2⟩
  rw [lk_rb_s, if_neg]
  · exact hI.1 s hs ha p hp
  · intro c
    rw [eo, nI_eq (by omega) (by omega)] at c
    exact hna (c.1 ▸ ha)
theorem lk_I3_s {ni : Nat} {act : Nat → Prop} {Lm len : Nat → Nat} {ow fo lo hi : Nat → Int32} {b0 : Nat → Nat → Int32} {m1 m : Nat → Int32} {r o f : Nat} (dj : lk_dj ni act Lm len) (hn : ni < 2 ^ 31) (hl : ∀ s, s < ni → len s < 2 ^ 30) (ho : o < ni) (eo : ow r = nI o) (ef : fo r = nI f) (hf : f + 2 ≤ len o) (ha : act o) (hI : lk_I3 ni act Lm len ow fo lo hi b0 m1 r m) : lk_I3 ni act Lm len ow fo lo hi b0 m1 (r + 1) (upd (upd m (Lm o + f) (lo r)) (Lm o + f + 1) (hi r)) := by
  have hlo := hl o ho
  refine ⟨fun s hs has p hp => ?_, fun j hj => ?_⟩
  · rw [lk_rb_s]
    have hls := hl s hs
    by_cases e : s = o
    · subst e
      by_cases e1 : p = f
      · subst e1
        rw [if_pos ⟨eo, Or.inl ef⟩, if_pos ef, pk_un (by omega), pk_us]
      · have n1 : ¬ fo r = nI p := by rw [ef, nI_eq (by omega) (by omega)]; omega
        by_cases e2 : p = f + 1
        · subst e2
          rw [if_pos ⟨eo, Or.inr (by rw [ef, nI_1])⟩, if_neg n1, ← Nat.add_assoc, pk_us]
        · have n2 : ¬ fo r + 1 = nI p := by rw [ef, nI_1, nI_eq (by omega) (by omega)]; omega
          rw [if_neg (fun c => c.2.elim n1 n2), pk_un (by omega), pk_un (by omega)]
          exact hI.1 s hs has p hp
    · have n1 : ¬ ow r = nI s := by rw [eo, nI_eq (by omega) (by omega)]; exact fun z => e z.symm
      have := dj s o hs ho has ha e
      rw [if_neg (fun c => n1 c.1), pk_un (by omega), pk_un (by omega)]
      exact hI.1 s hs has p hp
  · have := hj o ho ha
    rw [pk_un (by omega), pk_un (by omega)]
    exact hI.2 j hj
end
