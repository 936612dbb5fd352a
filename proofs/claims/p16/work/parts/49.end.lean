section
/-! what is owed -/
theorem i_vc (xs : Nat → Int32) (L : Nat) (hL : L ≤ 260) : wpL_law (fun r => r = 1) L xs := by
  refine nm_r (nI_1 0) (lq_cell (p := 0) hL (by omega) (fun v => lq_pos 64 rfl (by omega) (by omega) (fun j1 _ => nm_r (nI_1 1) (lq_cell hL (by omega) (fun v => lq_pos 64 rfl (by omega) (by omega) (fun j2 _ => ⟨31, 1128, by omega, by omega, lq_init (fun R0 R1 u hu => ?_)⟩))))))
  obtain ⟨a, b, c, d, e, f, g, h, i, a1, a2, a3, a4, a5, a6, a7, a8, a9, a10, a11, a12, a13, a14, a15, a16, a17, a18, a19, a20, a21, a22, a23, a24, a25, a26, a27, a28, a29, a30, a31⟩ := u
  exact nm_r (nI_1 2) (lq_cell hL (by omega) (fun v => lq_pos 5 rfl (by omega) (by omega) (fun j hj => nm_r (nI_add 1 j) ⟨_, lq_60 hL (by omega) (1 + j) 0 (by omega) 3 (by omega) a b c d e f g h i a1 a2 a3 a4 a5 a6 a7 a8 a9 a10 a11 a12 a13 a14 a15 a16 a17 a18 a19 a20 a21 a22 a23 a24 a25 a26 a27 a28 a29 a30 a31 hu⟩)))
end
