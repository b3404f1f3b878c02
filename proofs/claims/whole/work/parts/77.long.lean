/-! longs -/
theorem zq_toInt {a : Nat} (h : a < 9223372036854775808) : (zq a).toInt = (a : Int) := by
  have : zq a = Int64.ofInt a := (Int64.ofInt_eq_ofNat).symm
  rw [this]; exact Int64.toInt_ofInt_of_le (by omega) (by omega)
theorem zq_zw (a : Nat) : zw (a : Int) = zq a := Int64.ofInt_eq_ofNat
theorem zq_add (a b : Nat) : zq a + zq b = zq (a + b) := by
  rw [← zq_zw, ← zq_zw, ← zq_zw]; exact (Int64.ofInt_add a b).symm
theorem zq_mul (a b : Nat) : zq a * zq b = zq (a * b) := by
  rw [← zq_zw, ← zq_zw, ← zq_zw]; exact (Int64.ofInt_mul a b).symm
theorem zq_sub {a b : Nat} (h : b ≤ a) : zq a - zq b = zq (a - b) := by
  rw [← zq_zw, ← zq_zw, ← zq_zw]
  refine (Int64.ofInt_sub a b).symm.trans ?_
  show zw _ = zw _
  congr 1; omega
theorem zq_lt {a b : Nat} (h1 : a < 9223372036854775808) (h2 : b < 9223372036854775808) : (zq a < zq b) = (a < b) := by
  rw [Int64.lt_iff_toInt_lt, zq_toInt h1, zq_toInt h2]; exact propext Int.ofNat_lt
theorem zq_eq {a b : Nat} (h1 : a < 9223372036854775808) (h2 : b < 9223372036854775808) : (zq a = zq b) = (a = b) := by
  rw [← Int64.toInt_inj, zq_toInt h1, zq_toInt h2]; exact propext Int.ofNat_inj
theorem zq_div {a b : Nat} (ha : a < 9223372036854775808) (hb : b < 9223372036854775808) : zq a / zq b = zq (a / b) := by
  have h0 : zq a ≠ Int64.minValue := by
    intro e
    have e1 := congrArg Int64.toInt e
    rw [zq_toInt ha] at e1
    have : Int64.minValue.toInt = -9223372036854775808 := by decide
    omega
  have h1 : a / b < 9223372036854775808 := Nat.lt_of_le_of_lt (Nat.div_le_self a b) ha
  rw [← Int64.toInt_inj, Int64.toInt_div_of_ne_left _ _ h0, zq_toInt ha, zq_toInt hb, zq_toInt h1]
  rfl
theorem zq_rem {a b : Nat} (ha : a < 9223372036854775808) (hb : b < 9223372036854775808) : zr_reml (zq a) (zq b) = zq (a % b) := by
  unfold zr_reml
  have h := Nat.div_add_mod a b
  rw [zq_div ha hb, zq_mul, Nat.mul_comm (a / b) b, zq_sub (by omega)]
  congr 1; omega
theorem zq_nz {a : Nat} (ha : a < 9223372036854775808) (h : a ≠ 0) : zb_nzl (zq a) = true := by
  simp only [zb_nzl, Bool.not_eq_true', decide_eq_false_iff_not]
  rw [show (0 : Int64) = zq 0 from rfl, zq_eq ha (by omega)]; exact h
theorem zn_nz {a : Nat} (ha : a < 2147483648) (h : a ≠ 0) : zb_nz (zn a) = true := by
  simp only [zb_nz, Bool.not_eq_true', decide_eq_false_iff_not]
  rw [show (0 : Int32) = zn 0 from rfl, zn_eq ha (by omega)]; exact h
theorem zq_cmp {a b : Nat} (h1 : a < 9223372036854775808) (h2 : b < 9223372036854775808) : lg_cmp (zq a) (zq b) = if b < a then 1 else if a = b then 0 else -1 := by
  unfold lg_cmp
  simp only [gt_iff_lt, zq_lt h2 h1, zq_eq h1 h2]
theorem zq_cmp0 {a b : Nat} (h1 : a < 9223372036854775808) (h2 : b < 9223372036854775808) : (lg_cmp (zq a) (zq b) = 0) = (a = b) := by
  rw [zq_cmp h1 h2]
  by_cases q : b < a
  · rw [if_pos q]; exact propext ⟨fun z => absurd z (by decide), fun z => by omega⟩
  · rw [if_neg q]
    by_cases q2 : a = b
    · rw [if_pos q2]; exact propext ⟨fun _ => q2, fun _ => rfl⟩
    · rw [if_neg q2]; exact propext ⟨fun z => absurd z (by decide), fun z => absurd z q2⟩
theorem zq_cmpN {a b : Nat} (h1 : a < 9223372036854775808) (h2 : b < 9223372036854775808) : (lg_cmp (zq a) (zq b) < 0) = (a < b) := by
  rw [zq_cmp h1 h2]
  by_cases q : b < a
  · rw [if_pos q]; exact propext ⟨fun z => absurd z (by decide), fun z => by omega⟩
  · rw [if_neg q]
    by_cases q2 : a = b
    · rw [if_pos q2]; exact propext ⟨fun z => absurd z (by decide), fun z => by omega⟩
    · rw [if_neg q2]; exact propext ⟨fun _ => by omega, fun _ => by decide⟩
theorem zn_toL {a : Nat} (h : a < 2147483648) : (zn a).toInt64 = zq a := by
  rw [← Int64.toInt_inj, Int32.toInt_toInt64, zn_toInt h, zq_toInt (by omega)]
theorem zq_toI {a : Nat} (h : a < 2147483648) : (zq a).toInt32 = zn a := by
  rw [← zn_toL h]; exact Int32.toInt32_toInt64 _
theorem lg_eq0 (x y : Int64) : (lg_cmp x y = 0) = (x = y) := by
  unfold lg_cmp
  by_cases q : x > y
  · rw [if_pos q]
    refine propext ⟨fun z => absurd z (by decide), fun z => ?_⟩
    rw [z] at q
    exact absurd (Int64.lt_iff_toInt_lt.mp q) (by omega)
  · rw [if_neg q]
    by_cases q2 : x = y
    · rw [if_pos q2]; exact propext ⟨fun _ => q2, fun _ => rfl⟩
    · rw [if_neg q2]; exact propext ⟨fun z => absurd z (by decide), fun z => absurd z q2⟩
/-! Euclid -/
theorem pEuclid {x y j : Nat} (h : y < 2 ^ (j + 1)) (h0 : y ≠ 0) (h1 : x % y ≠ 0) : y % (x % y) < 2 ^ j := by
  have a1 : x % y < y := Nat.mod_lt _ (by omega)
  have a2 : y % (x % y) < x % y := Nat.mod_lt _ (by omega)
  have a3 := Nat.div_add_mod y (x % y)
  have a4 : 1 ≤ y / (x % y) := Nat.div_pos (by omega) (by omega)
  have a5 : x % y ≤ (x % y) * (y / (x % y)) := Nat.le_mul_of_pos_right _ a4
  rw [Nat.pow_succ] at h
  omega
theorem pGcd_step (x y : Nat) : Nat.gcd x y = Nat.gcd y (x % y) := by
  rw [Nat.gcd_comm x y, Nat.gcd_rec y x, Nat.gcd_comm]
theorem pm_common_loop : ∀ (j : Nat) {x y fu : Nat}, x < 2147483648 → y < 2147483648 → y < 2 ^ j → 2 * j + 1 ≤ fu → f_X12_common_L4 fu (zn x) (zn y) = some (zn (Nat.gcd x y))
  | j, x, y, 0, hx, hy, h1, h2 => by omega
  | 0, x, y, fu + 1, hx, hy, h1, h2 => by
    have e : y = 0 := by omega
    subst e
    show f_X12_common_H4 (f_X12_common_L4 fu) (zn x) (zn 0) = _
    unfold f_X12_common_H4
    rw [if_pos (show zn 0 = (0 : Int32) from rfl), Nat.gcd_zero_right]
  | j + 1, x, y, 1, hx, hy, h1, h2 => by omega
  | j + 1, x, y, fu + 2, hx, hy, h1, h2 => by
    show f_X12_common_H4 (f_X12_common_L4 (fu + 1)) (zn x) (zn y) = _
    unfold f_X12_common_H4
    by_cases q : y = 0
    · subst q; rw [if_pos (show zn 0 = (0 : Int32) from rfl), Nat.gcd_zero_right]
    · rw [if_neg (by rw [zn_eq0 hy]; exact q), if_pos (zn_nz hy q), zn_rem hx hy, pGcd_step]
      have hr : x % y < 2147483648 := Nat.lt_trans (Nat.mod_lt _ (by omega)) hy
      show f_X12_common_H4 (f_X12_common_L4 fu) (zn y) (zn (x % y)) = _
      unfold f_X12_common_H4
      by_cases q2 : x % y = 0
      · rw [q2, if_pos (show zn 0 = (0 : Int32) from rfl), Nat.gcd_zero_right]
      · rw [if_neg (by rw [zn_eq0 hr]; exact q2), if_pos (zn_nz hr q2), zn_rem hy hr, pGcd_step]
        exact pm_common_loop j hr (Nat.lt_trans (Nat.mod_lt _ (by omega)) hr) (pEuclid h1 q q2) (by omega)
theorem pm_common {x y : Nat} (hx : x < 2147483648) (hy : y < 2147483648) : f_X12_common (zn x) (zn y) = some (zn (Nat.gcd x y)) :=
  pm_common_loop 31 hx hy hy (zFU_ge (by omega))
theorem pm_commonLong_loop : ∀ (j : Nat) {x y fu : Nat}, x < 9223372036854775808 → y < 9223372036854775808 → y < 2 ^ j → 2 * j + 1 ≤ fu → f_X12_commonLong_L6 fu (zq x) (zq y) = some (zq (Nat.gcd x y))
  | j, x, y, 0, hx, hy, h1, h2 => by omega
  | 0, x, y, fu + 1, hx, hy, h1, h2 => by
    have e : y = 0 := by omega
    subst e
    show f_X12_commonLong_H6 (f_X12_commonLong_L6 fu) (zq x) (zq 0) = _
    unfold f_X12_commonLong_H6
    rw [if_pos (show lg_cmp (zq 0) (0 : Int64) = 0 by decide), Nat.gcd_zero_right]
  | j + 1, x, y, 1, hx, hy, h1, h2 => by omega
  | j + 1, x, y, fu + 2, hx, hy, h1, h2 => by
    show f_X12_commonLong_H6 (f_X12_commonLong_L6 (fu + 1)) (zq x) (zq y) = _
    unfold f_X12_commonLong_H6
    have c : ∀ z, z < 9223372036854775808 → (lg_cmp (zq z) (0 : Int64) = 0) = (z = 0) := fun z hz => zq_cmp0 (b := 0) hz (by omega)
    by_cases q : y = 0
    · subst q; rw [if_pos (by rw [c 0 (by omega)]), Nat.gcd_zero_right]
    · rw [if_neg (by rw [c y hy]; exact q), if_pos (zq_nz hy q), zq_rem hx hy, pGcd_step]
      have hr : x % y < 9223372036854775808 := Nat.lt_trans (Nat.mod_lt _ (by omega)) hy
      show f_X12_commonLong_H6 (f_X12_commonLong_L6 fu) (zq y) (zq (x % y)) = _
      unfold f_X12_commonLong_H6
      by_cases q2 : x % y = 0
      · rw [q2, if_pos (by rw [c 0 (by omega)]), Nat.gcd_zero_right]
      · rw [if_neg (by rw [c _ hr]; exact q2), if_pos (zq_nz hr q2), zq_rem hy hr, pGcd_step]
        exact pm_commonLong_loop j hr (Nat.lt_trans (Nat.mod_lt _ (by omega)) hr) (pEuclid h1 q q2) (by omega)
theorem pm_commonLong {x y : Nat} (hx : x < 9223372036854775808) (hy : y < 9223372036854775808) : f_X12_commonLong (zq x) (zq y) = some (zq (Nat.gcd x y)) :=
  pm_commonLong_loop 63 hx hy hy (zFU_ge (by omega))
theorem pc_div_loop : ∀ (j : Nat) {x y k fu : Nat}, x < 9223372036854775808 → y < 9223372036854775808 → y < 2 ^ j → k + 2 * j + 1 ≤ 1000 → 2 * j + 1 ≤ fu → f_X11_commonDivisor_L9 fu (zq x) (zq y) (zn k) = f_X11_commonDivisor_b45 (zq (Nat.gcd x y))
  | j, x, y, k, 0, hx, hy, h1, h3, h2 => by omega
  | 0, x, y, k, fu + 1, hx, hy, h1, h3, h2 => by
    have e : y = 0 := by omega
    subst e
    show f_X11_commonDivisor_H9 (f_X11_commonDivisor_L9 fu) (zq x) (zq 0) (zn k) = _
    unfold f_X11_commonDivisor_H9
    rw [if_pos (show lg_cmp (zq 0) (0 : Int64) = 0 by decide), Nat.gcd_zero_right, ite_self]
  | j + 1, x, y, k, 1, hx, hy, h1, h3, h2 => by omega
  | j + 1, x, y, k, fu + 2, hx, hy, h1, h3, h2 => by
    show f_X11_commonDivisor_H9 (f_X11_commonDivisor_L9 (fu + 1)) (zq x) (zq y) (zn k) = _
    unfold f_X11_commonDivisor_H9
    have c : ∀ z, z < 9223372036854775808 → (lg_cmp (zq z) (0 : Int64) = 0) = (z = 0) := fun z hz => zq_cmp0 (b := 0) hz (by omega)
    by_cases q : y = 0
    · subst q; rw [if_pos (show lg_cmp (zq 0) (0 : Int64) = 0 by rw [c 0 (by omega)]), Nat.gcd_zero_right, ite_self]
    · rw [if_pos (show zn k < (1000 : Int32) by rw [zn_l1000, zn_lt (by omega) (by omega)]; omega), if_neg (by rw [c y hy]; exact q), if_pos (zq_nz hy q), zq_rem hx hy, pGcd_step, show zn k + 1 = zn (k + 1) from zn_add k 1]
      have hr : x % y < 9223372036854775808 := Nat.lt_trans (Nat.mod_lt _ (by omega)) hy
      show f_X11_commonDivisor_H9 (f_X11_commonDivisor_L9 fu) (zq y) (zq (x % y)) (zn (k + 1)) = _
      unfold f_X11_commonDivisor_H9
      by_cases q2 : x % y = 0
      · rw [q2, if_pos (show lg_cmp (zq 0) (0 : Int64) = 0 by rw [c 0 (by omega)]), Nat.gcd_zero_right, ite_self]
      · rw [if_pos (show zn (k + 1) < (1000 : Int32) by rw [zn_l1000, zn_lt (by omega) (by omega)]; omega), if_neg (by rw [c _ hr]; exact q2), if_pos (zq_nz hr q2), zq_rem hy hr, pGcd_step, show zn (k + 1) + 1 = zn (k + 2) from zn_add (k + 1) 1]
        exact pc_div_loop j hr (Nat.lt_trans (Nat.mod_lt _ (by omega)) hr) (pEuclid h1 q q2) (by omega) (by omega)
theorem pc_div {x y : Nat} (hx : x < 9223372036854775808) (hy : y < 9223372036854775808) (h0 : 0 < y) : f_X11_commonDivisor (zq x) (zq y) = some (zq (Nat.gcd x y)) := by
  unfold f_X11_commonDivisor
  have h := pc_div_loop 63 (k := 0) (fu := zFU) hx hy hy (by omega) (zFU_ge (by omega))
  refine Eq.trans h ?_
  have g0 : 0 < Nat.gcd x y := Nat.gcd_pos_of_pos_right _ h0
  have g1 : Nat.gcd x y ≤ y := Nat.le_of_dvd h0 (Nat.gcd_dvd_right x y)
  unfold f_X11_commonDivisor_b45
  rw [if_neg]
  rw [show (1 : Int64) = zq 1 from rfl, zq_cmpN (by omega) (by omega)]; omega
