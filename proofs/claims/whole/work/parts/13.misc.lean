theorem zj_rm_in {R : Room} {MC : zj_M} (h1 : MC.2.2.2.2.1.frames + 1 ≤ R.frames) (h2 : 8 + (MC.2.2.1 + 11) + MC.2.2.2.2.1.locals ≤ R.locals) : zj_rm R MC = true := by
  unfold zj_rm
  rw [Bool.and_eq_true]
  exact ⟨Nat.ble_eq_true_of_le h1, Nat.ble_eq_true_of_le h2⟩
