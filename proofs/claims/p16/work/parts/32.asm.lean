
section
theorem lk_asm1 {ni ns no ng : Nat} {op rg ld gp ox oy st lv sz : Nat → Int32} {C0 C1 : Nat} {V L D G0 GE IV : Nat → Nat} {ct vm lm dt gs ge xv os yg0 yg1 yv yl : Nat → Int32} {c0 c1 g0 yge grp k dot vma lma ing : Int32}
    (hW : lk_WI ni op rg ld st lv (fun s => (ox (st s).toNatClampNeg).toNatClampNeg) (fun s => (sz s).toNatClampNeg) ns C0 C1 V L D G0 GE IV ct vm lm dt gs ge xv os yg0 yg1 yv yl c0 c1 g0 yge grp k dot vma lma ing)
    (his : lk_is op ns = false) (hno : no = lk_no op ns) (h8 : no ≤ 8) (n32 : ns ≤ 32) (hof : ∀ k, k < no → lk_of ng rg ld gp k) (hl : lk_hl ni no ns st lv ox oy) :
    lk_hk no rg vm lm V L D ∧ (∀ k, k < no → dt k = nI (D k)) ∧ (∀ k, k < no → os k = nI (D k - V k)) ∧
    (∀ s, s < ni → lv s = 1 → ∃ q k, q < ns ∧ st s = nI q ∧ ox q = nI k ∧ oy q = nI k ∧ k < no ∧ xv s = nI (IV s) ∧ yv s = nI (IV s) ∧ IV s < 2 ^ 30 ∧ yl s = nI (IV s) + (lm k - vm k)) ∧
    (∀ s, s < ni → lv s = 1 → V (ox (st s).toNatClampNeg).toNatClampNeg ≤ IV s ∧ IV s + (sz s).toNatClampNeg ≤ D (ox (st s).toNatClampNeg).toNatClampNeg) ∧
    (ct 0 = c0 ∧ ct 1 = c1) := by
  unfold lk_WI at hW
  rw [lk_nc_f his, ← hno] at hW
  obtain ⟨⟨_, g2, _, _, _, _, g7, _⟩, ⟨w1, w2, w3, w4⟩, w5, w6, _, _, w7, _⟩ := hW
  have pl : ∀ s, s < ni → lv s = 1 → lk_pl st lv ns s := by
    intro s hs h
    obtain ⟨q, k, hq, eq, _⟩ := hl.2.2 s hs h
    exact ⟨h, q, hq, eq⟩
  refine ⟨⟨h8, fun k hk => ?_⟩, fun k hk => (w5 k hk).2.2, w6, fun s hs h => ?_, fun s hs h => ?_, by rw [w1, w3], by rw [w2, w4]⟩
  · obtain ⟨a1, a2, a3, a4, a5⟩ := g2 k hk
    obtain ⟨b1, b2, _⟩ := w5 k hk
    refine ⟨?_, b1, b2, a1, by omega, by omega, a5⟩
    rcases hof k hk with ⟨z, _⟩ | ⟨z, _⟩
    · exact Or.inl z
    · exact Or.inr z
  · obtain ⟨q, k, hq, eq, hk, ek, ek2⟩ := hl.2.2 s hs h
    obtain ⟨a1, a2, a3⟩ := w7 s hs (pl s hs h)
    obtain ⟨b1, b2, b3⟩ := g7 s hs (pl s hs h)
    have own : (ox (st s).toNatClampNeg).toNatClampNeg = k := by rw [eq, nI_clamp (by omega), ek, nI_clamp (by omega)]
    have a3' : yl s = nI (IV s) + (lm (ox (st s).toNatClampNeg).toNatClampNeg - vm (ox (st s).toNatClampNeg).toNatClampNeg) := a3
    have b1' : (ox (st s).toNatClampNeg).toNatClampNeg < no := b1
    have b3' : IV s + (sz s).toNatClampNeg ≤ D (ox (st s).toNatClampNeg).toNatClampNeg := b3
    rw [own] at a3' b1' b3'
    have := (g2 k b1').2.1
    exact ⟨q, k, hq, eq, ek, ek2, hk, a1, a2, by omega, a3'⟩
  · obtain ⟨b1, b2, b3⟩ := g7 s hs (pl s hs h)
    exact ⟨b2, b3⟩
section
variable {ni ns no ng nb nr R0 : Nat} {op rg ld gp ox oy st lv sz kd al fb bs ln by_ ro rf ty rt ra : Nat → Int32} {C0 C1 : Nat} {V L D G0 GE IV : Nat → Nat} {ct vm lm dt gs ge xv os yg0 yg1 yv yl me m1 mf rom : Nat → Int32} {c0 c1 g0 yge grp k dot vma lma ing : Int32}
theorem lk_dj2 (hW : lk_WI ni op rg ld st lv (fun s => (ox (st s).toNatClampNeg).toNatClampNeg) (fun s => (sz s).toNatClampNeg) ns C0 C1 V L D G0 GE IV ct vm lm dt gs ge xv os yg0 yg1 yv yl c0 c1 g0 yge grp k dot vma lma ing)
    (his : lk_is op ns = false) (hl : lk_hl ni no ns st lv ox oy) (hLd : ∀ s, s < ni → lv s = 1 → ¬ kd s = 3 → ld (ox (st s).toNatClampNeg).toNatClampNeg = 1) :
    lk_dj ni (fun s => lv s = 1 ∧ ¬ kd s = 3) (fun s => L (ox (st s).toNatClampNeg).toNatClampNeg + (IV s - V (ox (st s).toNatClampNeg).toNatClampNeg)) (fun s => (sz s).toNatClampNeg) := by
  unfold lk_WI at hW
  rw [lk_nc_f his] at hW
  refine lk_G_dj (own := fun s => (ox (st s).toNatClampNeg).toNatClampNeg) hW.1 (fun s hs h => ?_)
  obtain ⟨q, k, hq, eq, _⟩ := hl.2.2 s hs h.1
  exact ⟨⟨h.1, q, hq, eq⟩, rfl, hLd s hs h.1 h.2⟩
theorem lk_mem3 (hW : lk_WI ni op rg ld st lv (fun s => (ox (st s).toNatClampNeg).toNatClampNeg) (fun s => (sz s).toNatClampNeg) ns C0 C1 V L D G0 GE IV ct vm lm dt gs ge xv os yg0 yg1 yv yl c0 c1 g0 yge grp k dot vma lma ing)
    (his : lk_is op ns = false) (hno : no = lk_no op ns) (hl : lk_hl ni no ns st lv ox oy) (hLd : ∀ s, s < ni → lv s = 1 → ¬ kd s = 3 → ld (ox (st s).toNatClampNeg).toNatClampNeg = 1)
    (h128 : ∀ k, k < no → ld k = 1 → L k + (D k - V k) ≤ 128)
    (hI1 : lk_I1 ld L D V me no m1)
    (hI : lk_I3 ni (fun s => lv s = 1 ∧ ¬ kd s = 3) (fun s => L (ox (st s).toNatClampNeg).toNatClampNeg + (IV s - V (ox (st s).toNatClampNeg).toNatClampNeg)) (fun s => (sz s).toNatClampNeg) ro rf (lk_lo ni ro rf ty rt ra yv yl) (lk_hi ni ro rf ty rt ra yv yl) (fun s p => by_ (fb s + nI p).toNatClampNeg) m1 nr mf) : ∀ j, 128 ≤ j → mf j = me j := by
  have hW2 := hW
  unfold lk_WI at hW2
  rw [lk_nc_f his, ← hno] at hW2
  obtain ⟨hG, _⟩ := hW2
  have h7 := hG.2.2.2.2.2.2.1
  have ha : ∀ s, s < ni → (fun s => lv s = 1 ∧ ¬ kd s = 3) s → lk_pl st lv ns s ∧ (fun s => (sz s).toNatClampNeg) s = (fun s => (sz s).toNatClampNeg) s ∧ ld ((fun s => (ox (st s).toNatClampNeg).toNatClampNeg) s) = 1 := by
    intro s hs h
    obtain ⟨q, k, hq, eq, _⟩ := hl.2.2 s hs h.1
    exact ⟨⟨h.1, q, hq, eq⟩, rfl, hLd s hs h.1 h.2⟩
  intro j hj
  rw [hI.2 j (fun s hs has c => ?_)]
  · exact hI1.2 j (fun q hq hlq c => by have := h128 q hq hlq; omega)
  · obtain ⟨p1, _, l1⟩ := ha s hs has
    obtain ⟨b1, b2, b3⟩ := h7 s hs p1
    have h9 : L (ox (st s).toNatClampNeg).toNatClampNeg + (D (ox (st s).toNatClampNeg).toNatClampNeg - V (ox (st s).toNatClampNeg).toNatClampNeg) ≤ 128 := h128 _ b1 l1
    have b2' : V (ox (st s).toNatClampNeg).toNatClampNeg ≤ IV s := b2
    have b3' : IV s + (sz s).toNatClampNeg ≤ D (ox (st s).toNatClampNeg).toNatClampNeg := b3
    have c' : L (ox (st s).toNatClampNeg).toNatClampNeg + (IV s - V (ox (st s).toNatClampNeg).toNatClampNeg) ≤ j ∧ j < L (ox (st s).toNatClampNeg).toNatClampNeg + (IV s - V (ox (st s).toNatClampNeg).toNatClampNeg) + (sz s).toNatClampNeg := c
    omega
end
end
