section
/-! N: what startup and loadOverlay keep -/
theorem lk_fv_1 {p : Nat → Bool} {w : Nat → Int32} {n k0 : Nat} (h0 : k0 < n) (h : ∀ i, i < n → p i = true → i = k0) : lk_fv p w n 0 = if p k0 = true then w k0 else 0 := by
  rcases lk_fv_or p w n 0 with ⟨e, hn⟩ | ⟨i, _, h2, h3, h4⟩
  · rw [e, if_neg (hn k0 (Nat.zero_le k0) (by omega))]
  · have e := h i (by omega) h3
    subst e
    rw [h4, if_pos h3]
theorem lk_fv_n {p : Nat → Bool} {w : Nat → Int32} {n : Nat} (h : ∀ i, i < n → ¬ p i = true) : lk_fv p w n 0 = 0 := by
  rcases lk_fv_or p w n 0 with ⟨e, _⟩ | ⟨i, _, h2, h3, _⟩
  · exact e
  · exact absurd h3 (h i (by omega))
section
variable {ph ph' : Int32} {R0 R1 ns no ng ni nr : Nat} {fc0 fc1 : Int32} {ct me me' ox oy rg ld gp vm lm dt gs ge gr kd st lv xv fb ln by_ ro rf ty rt ra os rs yg0 yg1 yv yl : Nat → Int32}
theorem lk_L_st (h : lk_L ph R0 R1 ns no ng ni nr fc0 fc1 ct me ox oy rg ld gp vm lm dt gs ge gr kd st lv xv fb ln by_ ro rf ty rt ra os rs yg0 yg1 yv yl) (hR : R0 ≤ 128) (hm : ∀ j, j < 128 → me' j = me j) (hp : ¬ ph' = 1) :
    lk_L ph' R0 R1 ns no ng ni nr fc0 fc1 ct me' ox oy rg ld gp vm lm dt gs ge gr kd st lv xv fb ln by_ ro rf ty rt ra os rs yg0 yg1 yv yl := by
  obtain ⟨V, L, D, IV, h1, h2, h3, h4, h5, h6, h7, _⟩ := h
  refine ⟨V, L, D, IV, h1, h2, h3, h4, fun k off hk ho => ⟨fun hl => ?_, (h5 k off hk ho).2⟩, h6, h7, fun z => absurd z hp⟩
  have := (h2 k hk).2.2.2.2.2.2.2 hl
  rw [hm _ (by omega)]
  exact (h5 k off hk ho).1 hl
/-- Y's marks of a group's members -/
def lk_om (gp rs : Nat → Int32) (g k n : Nat) : Nat → Int32 := fun j => if j < n ∧ gp j = nI g then (if j = k then 1 else 0) else rs j
theorem lk_om_0 {gp rs : Nat → Int32} {g k : Nat} : lk_om gp rs g k 0 = rs := by
  funext j
  exact if_neg (fun z => Nat.not_lt_zero j z.1)
theorem lk_om_n {gp rs : Nat → Int32} {g k n : Nat} (h : ¬ gp n = nI g) : lk_om gp rs g k (n + 1) = lk_om gp rs g k n := by
  funext j
  unfold lk_om
  by_cases c : j < n ∧ gp j = nI g
  · rw [if_pos c, if_pos ⟨by omega, c.2⟩]
  · rw [if_neg c, if_neg]
    intro z
    have : j ≠ n := fun e => h (e ▸ z.2)
    exact c ⟨by omega, z.2⟩
theorem lk_om_s {gp rs : Nat → Int32} {g k n : Nat} {x : Int32} (h : gp n = nI g) (hx : x = if n = k then 1 else 0) : upd (lk_om gp rs g k n) n x = lk_om gp rs g k (n + 1) := by
  funext j
  by_cases e : j = n
  · subst e
    rw [pk_us, hx]
    exact (if_pos ⟨Nat.lt_succ_self j, h⟩).symm
  · rw [pk_un e]
    unfold lk_om
    by_cases c : j < n ∧ gp j = nI g
    · rw [if_pos c, if_pos (show j < n + 1 ∧ gp j = nI g from ⟨by omega, c.2⟩)]
    · rw [if_neg c, if_neg (fun z => c ⟨by omega, z.2⟩)]
theorem lk_L_ov {g k : Nat} (h : lk_L ph R0 R1 ns no ng ni nr fc0 fc1 ct me ox oy rg ld gp vm lm dt gs ge gr kd st lv xv fb ln by_ ro rf ty rt ra os rs yg0 yg1 yv yl) (hR : R0 ≤ 128) (hm : ∀ j, j < 128 → me' j = me j) (hp : ¬ ph' = 1)
    (hn : no ≤ 8) (hn4 : ng ≤ 4) (ho : ∀ j, j < no → gp j = -1 ∨ ∃ q, q < ng ∧ gp j = nI q) (hk : k < no) (hg : g < ng) (e : gp k = nI g) :
    lk_L ph' R0 R1 ns no ng ni nr fc0 fc1 ct me' ox oy rg ld gp vm lm dt gs ge (upd gr g (nI k)) kd st lv xv fb ln by_ ro rf ty rt ra os (lk_om gp rs g k no) yg0 yg1 yv yl := by
  obtain ⟨V, L, D, IV, h1, h2, h3, h4, h5, h6, h7, _⟩ := h
  refine ⟨V, L, D, IV, h1, h2, h3, h4, fun k off hk ho => ⟨fun hl => ?_, (h5 k off hk ho).2⟩, fun q hq => ?_, fun j hj => ?_, fun z => absurd z hp⟩
  · have := (h2 k hk).2.2.2.2.2.2.2 hl
    rw [hm _ (by omega)]
    exact (h5 k off hk ho).1 hl
  · by_cases c : q = g
    · subst c
      rw [pk_us]
      exact Or.inr ⟨k, hk, rfl, e⟩
    · rw [pk_un c]
      exact h6 q hq
  · rcases ho j hj with z | ⟨q, hq, z⟩
    · have n1 : ¬ gp j = nI g := by rw [z]; exact fun y => lk_nn1 (by omega) y.symm
      have e1 : lk_om gp rs g k no j = rs j := if_neg (fun y => n1 y.2)
      rw [e1, h7 j hj, if_neg (fun y => y.1 z), if_neg (fun y => y.1 z)]
    · have nz : ¬ gp j = -1 := by rw [z]; exact lk_nn1 (by omega)
      by_cases c : q = g
      · subst c
        have e1 : lk_om gp rs q k no j = if j = k then 1 else 0 := if_pos ⟨hj, z⟩
        rw [e1, z, nI_clamp (by omega), pk_us]
        by_cases ej : j = k
        · subst ej
          rw [if_pos rfl, if_pos ⟨lk_nn1 (by omega), rfl⟩]
        · rw [if_neg ej, if_neg]
          intro y
          exact ej ((nI_eq (by omega) (by omega)).mp y.2).symm
      · have n1 : ¬ gp j = nI g := by rw [z, nI_eq (by omega) (by omega)]; exact c
        have e1 : lk_om gp rs g k no j = rs j := if_neg (fun y => n1 y.2)
        rw [e1, h7 j hj, z, nI_clamp (by omega), pk_un c]
end
end
