/-! bits -/
theorem zn_and (a b : Nat) : zn a &&& zn b = zn (a &&& b) := by
  apply Int32.toBitVec_inj.mp
  rw [Int32.toBitVec_and]
  exact (BitVec.ofNat_and (w := 32) (x := a) (y := b)).symm
theorem zn_or (a b : Nat) : zn a ||| zn b = zn (a ||| b) := by
  apply Int32.toBitVec_inj.mp
  rw [Int32.toBitVec_or]
  exact (BitVec.ofNat_or (w := 32) (x := a) (y := b)).symm
theorem zn_shl1 {k : Nat} (h : k < 31) : zr_shl (1 : Int32) (zn k) = zn (2 ^ k) := by
  have : ∀ k : Fin 31, zr_shl (1 : Int32) (zn k.val) = zn (2 ^ k.val) := by decide +kernel
  exact this ⟨k, h⟩
theorem zn_shr {a k : Nat} (ha : a < 2147483648) (hk : k < 32) : zr_shr (zn a) (zn k) = zn (a / 2 ^ k) := by
  have hy : ∀ k : Fin 32, ((zn k.val &&& 31).toBitVec.smod 32).toNat = k.val := by decide +kernel
  have hd : a / 2 ^ k < 2147483648 := Nat.lt_of_le_of_lt (Nat.div_le_self a _) ha
  apply Int32.toInt_inj.mp
  rw [zn_toInt hd]
  show ((zn a).toBitVec.sshiftRight ((zn k &&& 31).toBitVec.smod 32).toNat).toInt = _
  rw [hy ⟨k, hk⟩, BitVec.toInt_sshiftRight, show (zn a).toBitVec.toInt = (a : Int) from zn_toInt ha, Int.shiftRight_eq_div_pow]
  exact (Int.natCast_ediv a (2 ^ k)).symm
theorem zn_bit {a k : Nat} (ha : a < 2147483648) (hk : k < 32) : (zr_shr (zn a) (zn k) &&& (1 : Int32)) = zn (if a.testBit k then 1 else 0) := by
  rw [zn_shr ha hk, zn_l1, zn_and, Nat.and_one_is_mod, Nat.testBit_eq_decide_div_mod_eq]
  have : a / 2 ^ k % 2 < 2 := Nat.mod_lt _ (by omega)
  by_cases q : a / 2 ^ k % 2 = 1
  · rw [q]; rfl
  · rw [show a / 2 ^ k % 2 = 0 by omega]; rfl
theorem zn_bit1 {a k : Nat} (ha : a < 2147483648) (hk : k < 32) : ((zr_shr (zn a) (zn k) &&& (1 : Int32)) = (1 : Int32)) = (a.testBit k = true) := by
  rw [zn_bit ha hk]
  by_cases q : a.testBit k = true
  · rw [if_pos q]; simp [q, zn_l1]
  · rw [if_neg q, zn_l1, zn_eq (by omega) (by omega)]; simp [q]
theorem pm_hasB {a k : Nat} (ha : a < 2147483648) (hk : k < 32) : f_X12_has (zn a) (zn k) = some (if a.testBit k then 1 else 0) := by
  unfold f_X12_has
  simp only [zn_bit1 ha hk]
  split <;> rfl
theorem pTb_add {x m : Nat} (hx : x < 2 ^ m) (i : Nat) : (x + 2 ^ m).testBit i = if i = m then true else x.testBit i := by
  rw [Nat.add_comm]
  by_cases q : i = m
  · rw [if_pos q, q, Nat.testBit_two_pow_add_eq, Nat.testBit_lt_two_pow hx]; rfl
  · rw [if_neg q]
    by_cases q2 : i < m
    · rw [Nat.testBit_two_pow_add_gt q2]
    · have h1 : 2 ^ m + x < 2 ^ i := by
        have : 2 ^ (m + 1) ≤ 2 ^ i := Nat.pow_le_pow_right (by omega) (by omega)
        rw [Nat.pow_succ] at this; omega
      rw [Nat.testBit_lt_two_pow h1, Nat.testBit_lt_two_pow (by omega)]
theorem pTb_or {x m : Nat} (i : Nat) : (x ||| 2 ^ m).testBit i = if i = m then true else x.testBit i := by
  rw [Nat.testBit_or, Nat.testBit_two_pow]
  by_cases q : i = m
  · rw [if_pos q, q]; simp
  · rw [if_neg q]
    have : decide (m = i) = false := by simp; omega
    rw [this, Bool.or_false]
/-- a set by what is in it -/
theorem pSet (P : Nat → Bool) : ∀ n, ∃ q, q < 2 ^ n ∧ ∀ i, q.testBit i = (decide (i < n) && P i)
  | 0 => ⟨0, by decide, fun i => by simp⟩
  | n + 1 => by
    obtain ⟨q, h1, h2⟩ := pSet P n
    have e : 2 ^ (n + 1) = 2 ^ n + 2 ^ n := by rw [Nat.pow_succ]; omega
    by_cases z : P n = true
    · refine ⟨q + 2 ^ n, by omega, fun i => ?_⟩
      rw [pTb_add h1, h2]
      by_cases y : i = n
      · rw [if_pos y, y, z]; simp
      · rw [if_neg y]
        have : decide (i < n + 1) = decide (i < n) := by
          by_cases w : i < n <;> simp [w] <;> omega
        rw [this]
    · refine ⟨q, by omega, fun i => ?_⟩
      rw [h2]
      by_cases y : i = n
      · rw [y]; simp [z]
      · have : decide (i < n + 1) = decide (i < n) := by
          by_cases w : i < n <;> simp [w] <;> omega
        rw [this]
theorem pTb_eq {a b n : Nat} (ha : a < 2 ^ n) (hb : b < 2 ^ n) (h : ∀ i, i < n → a.testBit i = b.testBit i) : a = b := by
  apply Nat.eq_of_testBit_eq
  intro i
  by_cases q : i < n
  · exact h i q
  · have := Nat.pow_le_pow_right (show 0 < 2 by omega) (show n ≤ i by omega)
    rw [Nat.testBit_lt_two_pow (by omega), Nat.testBit_lt_two_pow (by omega)]
theorem pTb_lt {a n i : Nat} (ha : a < 2 ^ n) (h : a.testBit i = true) : i < n := by
  by_cases q : i < n
  · exact q
  · have := Nat.pow_le_pow_right (show 0 < 2 by omega) (show n ≤ i by omega)
    rw [Nat.testBit_lt_two_pow (by omega)] at h; exact absurd h (by decide)
/-- the next lesser subset -/
theorem pSub_next : ∀ (p : Nat) {q s : Nat}, p &&& s = p → q &&& s = q → q < p → q ≤ (p - 1) &&& s := by
  intro p
  induction p using Nat.strongRecOn with
  | ind p ih =>
    intro q s h1 h2 h3
    have a1 := Nat.and_div_two (a := p) (b := s)
    have a2 := Nat.and_div_two (a := q) (b := s)
    have a3 := Nat.and_div_two (a := p - 1) (b := s)
    have b1 := Nat.and_mod_two_pow (n := 1) (a := p) (b := s)
    have b2 := Nat.and_mod_two_pow (n := 1) (a := q) (b := s)
    have b3 := Nat.and_mod_two_pow (n := 1) (a := p - 1) (b := s)
    rw [h1] at a1 b1
    rw [h2] at a2 b2
    have c : ∀ x y : Nat, x < 2 → y < 2 → x &&& y = x * y := by
      intro x y hx hy
      have : x = 0 ∨ x = 1 := by omega
      have : y = 0 ∨ y = 1 := by omega
      rcases ‹x = 0 ∨ x = 1› with e | e <;> rcases ‹y = 0 ∨ y = 1› with f | f <;> subst e <;> subst f <;> rfl
    rw [show (2:Nat) ^ 1 = 2 from rfl, c (p % 2) (s % 2) (by omega) (by omega)] at b1
    rw [show (2:Nat) ^ 1 = 2 from rfl, c (q % 2) (s % 2) (by omega) (by omega)] at b2
    rw [show (2:Nat) ^ 1 = 2 from rfl, c ((p - 1) % 2) (s % 2) (by omega) (by omega)] at b3
    have s2 : s % 2 = 0 ∨ s % 2 = 1 := by omega
    by_cases o : p % 2 = 1
    · have e : (p - 1) / 2 = p / 2 := by omega
      rw [e, ← a1] at a3
      omega
    · have e : (p - 1) / 2 = p / 2 - 1 := by omega
      rw [e] at a3
      by_cases l : q / 2 < p / 2
      · have := ih (p / 2) (by omega) (q := q / 2) (s := s / 2) a1.symm a2.symm l
        have o1 : (p - 1) % 2 = 1 := by omega
        rw [o1] at b3
        rcases s2 with s2 | s2 <;> rw [s2] at b2 b3 <;> omega
      · omega
theorem pBit_and (s m : Nat) : s &&& 2 ^ m = if s.testBit m = true then 2 ^ m else 0 := by
  apply Nat.eq_of_testBit_eq
  intro i
  rw [Nat.testBit_and, Nat.testBit_two_pow]
  by_cases q : i = m
  · rw [q]
    cases e : s.testBit m <;> simp [Nat.testBit_two_pow]
  · have : decide (m = i) = false := by simp; omega
    rw [this, Bool.and_false]
    split
    · rw [Nat.testBit_two_pow, this]
    · rw [Nat.zero_testBit]
theorem ifn_lt {α : Type} {a b : Nat} (h1 : a < 2147483648) (h2 : b < 2147483648) (x y : α) : (if zn a < zn b then x else y) = (if a < b then x else y) := by simp only [zn_lt h1 h2]
theorem ifn_eq {α : Type} {a b : Nat} (h1 : a < 2147483648) (h2 : b < 2147483648) (x y : α) : (if zn a = zn b then x else y) = (if a = b then x else y) := by simp only [zn_eq h1 h2]
theorem ifi_lt {α : Type} {a b : Int} (h1 : -2147483648 ≤ a) (h2 : a < 2147483648) (h3 : -2147483648 ≤ b) (h4 : b < 2147483648) (x y : α) : (if zi a < zi b then x else y) = (if a < b then x else y) := by simp only [zi_lt h1 h2 h3 h4]
theorem pXor0 {a b : Nat} : a ^^^ b = 0 ↔ a = b := by
  constructor
  · intro h
    apply Nat.eq_of_testBit_eq
    intro i
    have e : (a ^^^ b).testBit i = false := by rw [h, Nat.zero_testBit]
    rw [Nat.testBit_xor] at e
    cases h1 : a.testBit i <;> cases h2 : b.testBit i <;> rw [h1, h2] at e <;> first | rfl | exact absurd e (by decide)
  · intro h; rw [h, Nat.xor_self]
