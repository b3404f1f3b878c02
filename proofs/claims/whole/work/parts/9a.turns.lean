/-! where a man turned, in numbers -/
def zB (b : Bool) : Int32 := if b = true then 1 else 0
def pOk (s : Nat → Nat) (p i : Nat) : Bool := decide (s i ≤ s (i + 1) ∧ s (i + 1) - s i ≤ p)
def pBk (s : Nat → Nat) (p i : Nat) : Bool := decide (s (i + 1) ≤ s i ∧ s i - s (i + 1) ≤ p)
def pAll (f : Nat → Bool) : Nat → Nat → Bool
  | 0, _ => true
  | d + 1, i => if f i = true then pAll f d (i + 1) else false
/-- a difference of two, within 0 and p -/
theorem z_diff {a b p : Nat} (ha : a < 1000) (hb : b < 1000) (hp : p < 1000) : (zn a - zn b < 0 ∨ zn p < zn a - zn b) ↔ ¬ (b ≤ a ∧ a - b ≤ p) := by
  rw [show (0 : Int32) = zi 0 from rfl, ← zi_zn, ← zi_zn, ← zi_zn, zi_sub, zi_lt (by omega) (by omega) (by omega) (by omega), zi_lt (by omega) (by omega) (by omega) (by omega)]
  omega
section
variable {s : Nat → Nat} {p n : Nat}
theorem pc_goesOn {S : TrT} (hS : ∀ i, i < n → Tr_seen S i = zn (s i) ∧ s i < 256) (hn : n ≤ 20) (hp : p < 1000) {k : Nat} (hk : k + 1 ≤ n) : ∀ (d : Nat) {i fu : Nat}, i + d = k → d + 1 ≤ fu → f_X10_goesOnTo_L2 S fu (zn k) (zn p) (zn i) = some (zB (pAll (pOk s p) d i))
  | d, i, 0, h1, h2 => by omega
  | 0, i, fu + 1, h1, h2 => by
    show f_X10_goesOnTo_H2 S (f_X10_goesOnTo_L2 S fu) (zn k) (zn p) (zn i) = _
    unfold f_X10_goesOnTo_H2
    rw [if_neg (by rw [zn_lt (by omega) (by omega)]; omega)]; rfl
  | d + 1, i, fu + 1, h1, h2 => by
    show f_X10_goesOnTo_H2 S (f_X10_goesOnTo_L2 S fu) (zn k) (zn p) (zn i) = _
    unfold f_X10_goesOnTo_H2
    obtain ⟨a1, a2⟩ := hS i (by omega)
    obtain ⟨b1, b2⟩ := hS (i + 1) (by omega)
    rw [if_pos (by rw [zn_lt (by omega) (by omega)]; omega), show zn i + 1 = zn (i + 1) from zn_add i 1, zb_zn (by omega) (by omega), if_pos rfl, zb_zn (by omega) (by omega), if_pos rfl, zl_eq, zn_nat (by omega), zn_nat (by omega), a1, b1, pc_goesOn hS hn hp hk d (by omega) (by omega)]
    have z := z_diff (a := s (i + 1)) (b := s i) (p := p) (by omega) (by omega) hp
    simp only [pAll]
    by_cases q : s i ≤ s (i + 1) ∧ s (i + 1) - s i ≤ p
    · rw [if_neg (fun y => z.mp (Or.inl y) q), if_neg (fun y => z.mp (Or.inr y) q), if_pos (by unfold pOk; rw [decide_eq_true_eq]; exact q)]
    · have e : pOk s p i ≠ true := by unfold pOk; rw [Ne, decide_eq_true_eq]; exact q
      rw [if_neg e]
      rcases z.mpr q with y | y
      · rw [if_pos y]; rfl
      · rw [if_pos y, ite_self]; rfl
theorem pc_goesBack {S : TrT} (hS : ∀ i, i < n → Tr_seen S i = zn (s i) ∧ s i < 256) (hn : n ≤ 20) (hp : p < 1000) : ∀ (d : Nat) {i fu : Nat}, i + d + 1 = n → d + 1 ≤ fu → f_X10_goesBackFrom_L3 S fu (zn n) (zn p) (zn i) = some (zB (pAll (pBk s p) d i))
  | d, i, 0, h1, h2 => by omega
  | 0, i, fu + 1, h1, h2 => by
    show f_X10_goesBackFrom_H3 S (f_X10_goesBackFrom_L3 S fu) (zn n) (zn p) (zn i) = _
    unfold f_X10_goesBackFrom_H3
    rw [show zn i + 1 = zn (i + 1) from zn_add i 1, if_neg (by rw [zn_lt (by omega) (by omega)]; omega)]; rfl
  | d + 1, i, fu + 1, h1, h2 => by
    show f_X10_goesBackFrom_H3 S (f_X10_goesBackFrom_L3 S fu) (zn n) (zn p) (zn i) = _
    unfold f_X10_goesBackFrom_H3
    obtain ⟨a1, a2⟩ := hS i (by omega)
    obtain ⟨b1, b2⟩ := hS (i + 1) (by omega)
    rw [show zn i + 1 = zn (i + 1) from zn_add i 1, if_pos (by rw [zn_lt (by omega) (by omega)]; omega), zb_zn (by omega) (by omega), if_pos rfl, zb_zn (by omega) (by omega), if_pos rfl, zl_eq, zn_nat (by omega), zn_nat (by omega), a1, b1, pc_goesBack hS hn hp d (by omega) (by omega)]
    have z := z_diff (a := s i) (b := s (i + 1)) (p := p) (by omega) (by omega) hp
    simp only [pAll]
    by_cases q : s (i + 1) ≤ s i ∧ s i - s (i + 1) ≤ p
    · rw [if_neg (fun y => z.mp (Or.inl y) q), if_neg (fun y => z.mp (Or.inr y) q), if_pos (by unfold pBk; rw [decide_eq_true_eq]; exact q)]
    · have e : pBk s p i ≠ true := by unfold pBk; rw [Ne, decide_eq_true_eq]; exact q
      rw [if_neg e]
      rcases z.mpr q with y | y
      · rw [if_pos y]; rfl
      · rw [if_pos y, ite_self]; rfl
end
