/-! THE START -/
theorem pRd0 : (f_X7_init_L80 zFU j_Rd (0 : Int32) (0 : Int32)).map (fun r => (List.range 28).all (fun k => decide (Rd_keys r k = zq (pKy k))) && decide (Rd_fault r = 0) && decide (Rd_length r = 0)) = some true := by decide +kernel
theorem s_start : ∃ r7, f_X7_init_L80 zFU j_Rd (0 : Int32) (0 : Int32) = some r7 ∧ pInv i_Xx r7 i_Ld i_Fk i_Ph i_Hi i_H8 i_Lg i_Pl i_Sn i_Ct i_Sc i_Tr none none i_Mo := by
  have h := pRd0
  cases hr : f_X7_init_L80 zFU j_Rd (0 : Int32) (0 : Int32) with
  | none => rw [hr] at h; cases h
  | some r7 =>
    rw [hr] at h
    have h2 := Option.some.inj h
    simp only [Bool.and_eq_true, List.all_eq_true, List.mem_range, decide_eq_true_eq] at h2
    obtain ⟨⟨k1, k2⟩, k3⟩ := h2
    refine ⟨r7, rfl, pD0, (0, fun _ _ => 0), ⟨⟨⟨Nat.zero_le _, Nat.zero_le _, Nat.zero_le _, Nat.zero_le _⟩, fun p hp => absurd hp (Nat.not_lt_zero _), fun p hp => absurd hp (Nat.not_lt_zero _), fun p hp => absurd hp (Nat.not_lt_zero _), fun a b r hr ha => absurd ha (Nat.not_lt_zero _), fun a ha => absurd ha (Nat.not_lt_zero _), fun a b ha => absurd ha (Nat.not_lt_zero _), fun a b ha => absurd ha (Nat.not_lt_zero _), fun a b p ha => absurd ha (Nat.not_lt_zero _)⟩, ⟨⟨rfl, rfl, rfl, rfl⟩, fun p k hp => absurd hp (Nat.not_lt_zero _), fun p k hp => absurd hp (Nat.not_lt_zero _), fun p k hp => absurd hp (Nat.not_lt_zero _), fun a b ha => absurd ha (Nat.not_lt_zero _)⟩, ⟨⟨rfl, rfl, rfl, rfl⟩, fun p hp => absurd hp (Nat.not_lt_zero _), fun p hp => absurd hp (Nat.not_lt_zero _), fun p hp => absurd hp (Nat.not_lt_zero _), ⟨0, by omega, rfl, fun m hm => absurd hm (Nat.not_lt_zero _)⟩, fun a b ha => absurd ha (Nat.not_lt_zero _)⟩, ⟨fun p hp => absurd hp (Nat.not_lt_zero _), fun p hp => absurd hp (Nat.not_lt_zero _)⟩⟩, ⟨⟨rfl, fun m i hm => absurd hm (Nat.not_lt_zero _)⟩, ⟨rfl, fun m i hm => absurd hm (Nat.not_lt_zero _)⟩, ⟨Nat.zero_le _, fun m hm => absurd hm (Nat.not_lt_zero _)⟩⟩, ⟨k2, ⟨0, by omega, k3, rfl, fun i hi => by omega⟩, k1⟩, ⟨0, 0, by omega, by omega, rfl, rfl, rfl, fun i hi => by omega⟩, Or.inl ⟨rfl, rfl⟩, ⟨⟨0, by omega, rfl, rfl, fun i hi => by omega⟩, ⟨0, by omega, rfl, fun i hi => ?_⟩, Or.inl ⟨rfl, fun i hi => ?_⟩, ⟨0, by omega, rfl, rfl, fun i hi => by omega⟩, rfl, rfl, rfl⟩, Or.inl ⟨rfl, fun i hi => ?_⟩, rfl, rfl⟩
    · rw [if_neg (by omega)]
      show (if i < 12 then (-1 : Int32) else 0) = zm
      rw [if_pos hi]; rfl
    · show (if i < 6 then (-1 : Int32) else 0) = zm
      rw [if_pos hi]; rfl
    · have : i = 0 ∨ i = 1 ∨ i = 2 ∨ i = 3 := by omega
      rcases this with rfl | rfl | rfl | rfl <;> rfl
