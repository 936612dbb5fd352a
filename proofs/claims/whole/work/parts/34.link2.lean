section
/-! AH: link: the image, pure -/
section
variable {ni ns no ng nb nr R0 : Nat} {op rg ld gp ox oy st lv sz kd al fb bs ln by_ ro rf ty rt ra : Nat → Int32} {C0 C1 : Nat} {V L D G0 GE IV : Nat → Nat} {ct vm lm dt gs ge xv os yg0 yg1 yv yl me m1 mf rom : Nat → Int32} {c0 c1 g0 yge grp k dot vma lma ing : Int32}
theorem lk_dj2 (hW : lk_WI ni op rg ld st lv (fun s => (ox (st s).toNatClampNeg).toNatClampNeg) (fun s => (sz s).toNatClampNeg) ns C0 C1 V L D G0 GE IV ct vm lm dt gs ge xv os yg0 yg1 yv yl c0 c1 g0 yge grp k dot vma lma ing)
    (his : lk_is op ns = false) (hl : lk_hl ni no ns st lv ox oy) (hLd : ∀ s, s < ni → lv s = 1 → ¬ kd s = 3 → ld (ox (st s).toNatClampNeg).toNatClampNeg = 1) :
    lk_dj ni (fun s => lv s = 1 ∧ ¬ kd s = 3) (fun s => L (ox (st s).toNatClampNeg).toNatClampNeg + (IV s - V (ox (st s).toNatClampNeg).toNatClampNeg)) (fun s => (sz s).toNatClampNeg) := by
  unfold lk_WI at hW
  rw [lk_nc_f his] at hW
  refine lk_G_dj (own := fun s => (ox (st s).toNatClampNeg).toNatClampNeg) hW.1 (fun s hs h => ?_)
  obtain ⟨q, k, hq, eq, _⟩ := hl.2.2 s hs h.1
  exact ⟨⟨h.1, q, hq, eq⟩, rfl, hLd s hs h.1 h.2⟩
theorem lk_img2 (hW : lk_WI ni op rg ld st lv (fun s => (ox (st s).toNatClampNeg).toNatClampNeg) (fun s => (sz s).toNatClampNeg) ns C0 C1 V L D G0 GE IV ct vm lm dt gs ge xv os yg0 yg1 yv yl c0 c1 g0 yge grp k dot vma lma ing)
    (his : lk_is op ns = false) (hno : no = lk_no op ns) (hl : lk_hl ni no ns st lv ox oy) (hLd : ∀ s, s < ni → lv s = 1 → ¬ kd s = 3 → ld (ox (st s).toNatClampNeg).toNatClampNeg = 1)
    (hN : lk_N ni nb kd al sz fb bs ln) (n32 : ns ≤ 32) (hk : lk_hk no rg vm lm V L D)
    (hI1 : lk_I1 ld L D V me no m1)
    (hI : lk_I3 ni (fun s => lv s = 1 ∧ ¬ kd s = 3) (fun s => L (ox (st s).toNatClampNeg).toNatClampNeg + (IV s - V (ox (st s).toNatClampNeg).toNatClampNeg)) (fun s => (sz s).toNatClampNeg) ro rf (lk_lo ni ro rf ty rt ra yv yl) (lk_hi ni ro rf ty rt ra yv yl) (fun s p => by_ (fb s + nI p).toNatClampNeg) m1 nr mf) :
    ∀ k off, k < no → off < D k - V k → (ld k = 1 → mf (L k + off) = lk_ib ni nr oy kd st lv ln fb by_ ro rf ty rt ra yv yl (nI k) (nI (V k + off))) ∧ (¬ ld k = 1 → lk_ib ni nr oy kd st lv ln fb by_ ro rf ty rt ra yv yl (nI k) (nI (V k + off)) = 0) := by
  intro k off hkn hoff
  have hnb := hN.2.1
  obtain ⟨_, _, _, _, hD, _, _⟩ := hk.2 k hkn
  have hW2 := hW
  unfold lk_WI at hW2
  rw [lk_nc_f his, ← hno] at hW2
  obtain ⟨hG, _, _, _, _, _, w7, _⟩ := hW2
  have h2 := hG.2.1
  have h7 := hG.2.2.2.2.2.2.1
  have live : ∀ s, s < ni → lv s = 1 → ¬ kd s = 3 → ∃ q o, st s = nI q ∧ q < 32 ∧ oy q = nI o ∧ o < 8 ∧ (ox (st s).toNatClampNeg).toNatClampNeg = o ∧ yv s = nI (IV s) ∧ ln s = nI (sz s).toNatClampNeg ∧ (sz s).toNatClampNeg ≤ 256 ∧ IV s < 2 ^ 29 := by
    intro s hs hlv hk3
    obtain ⟨q, o, hq, eq, ho, ek, ek2⟩ := hl.2.2 s hs hlv
    have h8 := hl.1
    obtain ⟨A, T, Z, Q, _, _, _, e4, hTZ, e6, d7⟩ := hN.2.2 s hs
    have hQZ : Q = Z := by
      rcases d7 with ⟨z, _⟩ | ⟨_, z⟩
      · exact absurd z hk3
      · exact z
    have esz : (sz s).toNatClampNeg = Q := by rw [e6, nI_clamp (by omega)]
    have pl : lk_pl st lv ns s := ⟨hlv, q, hq, eq⟩
    obtain ⟨b1, b2, b3⟩ := h7 s hs pl
    have own : (ox (st s).toNatClampNeg).toNatClampNeg = o := by rw [eq, nI_clamp (by omega), ek, nI_clamp (by omega)]
    have b3' : IV s + (sz s).toNatClampNeg ≤ D (ox (st s).toNatClampNeg).toNatClampNeg := b3
    rw [own] at b3'
    have := (h2 o ho).2.1
    exact ⟨q, o, eq, by omega, ek2, by omega, own, (w7 s hs pl).2.1, by rw [esz, e4, hQZ], by omega, by omega⟩
  have h8 := hl.1
  have ip : ∀ s, s < ni → (lk_ip oy kd st lv yv ln (nI k) (nI (V k + off)) s = true ↔ (lv s = 1 ∧ ¬ kd s = 3) ∧ (ox (st s).toNatClampNeg).toNatClampNeg = k ∧ IV s ≤ V k + off ∧ V k + off < IV s + (sz s).toNatClampNeg) := by
    intro s hs
    constructor
    · intro z
      obtain ⟨z1, z2, _, z4, z5, z6⟩ := of_decide_eq_true z
      obtain ⟨q, o, eq, hq, ek, ho, own, ey, eln, hz, hIV⟩ := live s hs z1 z2
      rw [eq, nI_clamp (by omega), ek, nI_eq (by omega) (by omega)] at z4
      rw [ey, nI_leI (by omega) (by omega)] at z5
      rw [ey, eln, nI_add, nI_ltI (by omega) (by omega)] at z6
      exact ⟨⟨z1, z2⟩, by rw [own, z4], z5, z6⟩
    · intro ⟨⟨z1, z2⟩, z3, z4, z5⟩
      obtain ⟨q, o, eq, hq, ek, ho, own, ey, eln, hz, hIV⟩ := live s hs z1 z2
      refine decide_eq_true ⟨z1, z2, ?_, ?_, ?_, ?_⟩
      · rw [eq]; exact nI_pos' (by omega)
      · rw [eq, nI_clamp (by omega), ek, ← z3, own]
      · rw [ey]; exact nI_le z4 (by omega)
      · rw [ey, eln, nI_add]; exact nI_lt z5 (by omega)
  unfold lk_ib
  refine lk_img (own := fun s => (ox (st s).toNatClampNeg).toNatClampNeg) (b0 := fun s p => by_ (fb s + nI p).toNatClampNeg) hG (fun s hs h => ?_) hI (fun q hq hlq o ho => hI1.1 q hq hlq o ho) hkn hoff ip (fun s hs hp => ?_)
  · obtain ⟨q, o, hq, eq, _⟩ := hl.2.2 s hs h.1
    exact ⟨⟨h.1, q, hq, eq⟩, rfl, hLd s hs h.1 h.2⟩
  · obtain ⟨⟨z1, z2⟩, z3, z4, z5⟩ := (ip s hs).mp hp
    obtain ⟨q, o, eq, hq, ek, ho, own, ey, eln, hz, hIV⟩ := live s hs z1 z2
    have ex : (nI (V k + off) - yv s).toNatClampNeg = V k + off - IV s := by rw [ey, pk_sub z4, nI_clamp (by omega)]
    show lk_by ni nr fb by_ ro rf ty rt ra yv yl s (nI (V k + off) - yv s).toNatClampNeg = _
    rw [ex]
    rfl
theorem lk_mem2 (hW : lk_WI ni op rg ld st lv (fun s => (ox (st s).toNatClampNeg).toNatClampNeg) (fun s => (sz s).toNatClampNeg) ns C0 C1 V L D G0 GE IV ct vm lm dt gs ge xv os yg0 yg1 yv yl c0 c1 g0 yge grp k dot vma lma ing)
    (his : lk_is op ns = false) (hno : no = lk_no op ns) (hl : lk_hl ni no ns st lv ox oy) (hLd : ∀ s, s < ni → lv s = 1 → ¬ kd s = 3 → ld (ox (st s).toNatClampNeg).toNatClampNeg = 1)
    (h128 : ∀ k, k < no → ld k = 1 → L k + (D k - V k) ≤ 128)
    (hI1 : lk_I1 ld L D V me no m1) (hme : ∀ j, j < 128 → me j = 255)
    (hI : lk_I3 ni (fun s => lv s = 1 ∧ ¬ kd s = 3) (fun s => L (ox (st s).toNatClampNeg).toNatClampNeg + (IV s - V (ox (st s).toNatClampNeg).toNatClampNeg)) (fun s => (sz s).toNatClampNeg) ro rf (lk_lo ni ro rf ty rt ra yv yl) (lk_hi ni ro rf ty rt ra yv yl) (fun s p => by_ (fb s + nI p).toNatClampNeg) m1 nr mf)
    (hJ : lk_J ld L D V mf no rom) : (∀ j, j < 128 → mf j = rom j) ∧ (∀ j, 128 ≤ j → mf j = me j) := by
  have hW2 := hW
  unfold lk_WI at hW2
  rw [lk_nc_f his, ← hno] at hW2
  obtain ⟨hG, _⟩ := hW2
  have h7 := hG.2.2.2.2.2.2.1
  have ha : ∀ s, s < ni → (fun s => lv s = 1 ∧ ¬ kd s = 3) s → lk_pl st lv ns s ∧ (fun s => (sz s).toNatClampNeg) s = (fun s => (sz s).toNatClampNeg) s ∧ ld ((fun s => (ox (st s).toNatClampNeg).toNatClampNeg) s) = 1 := by
    intro s hs h
    obtain ⟨q, k, hq, eq, _⟩ := hl.2.2 s hs h.1
    exact ⟨⟨h.1, q, hq, eq⟩, rfl, hLd s hs h.1 h.2⟩
  refine ⟨lk_rom hG ha hI (fun j hj hn => ?_) hJ.1 hJ.2, fun j hj => ?_⟩
  · rw [hI1.2 j hn]
    exact hme j hj
  · rw [hI.2 j (fun s hs has c => ?_)]
    · exact hI1.2 j (fun q hq hlq c => by have := h128 q hq hlq; omega)
    · obtain ⟨p1, _, l1⟩ := ha s hs has
      obtain ⟨b1, b2, b3⟩ := h7 s hs p1
      have h9 : L (ox (st s).toNatClampNeg).toNatClampNeg + (D (ox (st s).toNatClampNeg).toNatClampNeg - V (ox (st s).toNatClampNeg).toNatClampNeg) ≤ 128 := h128 _ b1 l1
      have b2' : V (ox (st s).toNatClampNeg).toNatClampNeg ≤ IV s := b2
      have b3' : IV s + (sz s).toNatClampNeg ≤ D (ox (st s).toNatClampNeg).toNatClampNeg := b3
      have c' : L (ox (st s).toNatClampNeg).toNatClampNeg + (IV s - V (ox (st s).toNatClampNeg).toNatClampNeg) ≤ j ∧ j < L (ox (st s).toNatClampNeg).toNatClampNeg + (IV s - V (ox (st s).toNatClampNeg).toNatClampNeg) + (sz s).toNatClampNeg := c
      omega
end
end
