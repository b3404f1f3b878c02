/-- the step i is well for a turn behind k -/
def pSt1 (s : Nat → Nat) (p k i : Nat) : Bool := if i = k then true else if i < k then pOk s p i else pBk s p i
def pFit (s : Nat → Nat) (p k a : Nat) : Bool := decide (s k ≤ a ∧ s (k + 1) ≤ a ∧ 2 * a - s k - s (k + 1) ≤ p)
section
variable {s : Nat → Nat} {p n : Nat} {M : MoT}
theorem pm_turns (hS : ∀ i, i < n → Mo_tape M i = zn (s i) ∧ s i < 256) (hn : n ≤ 20) (hp : p < 1000) {k a : Nat} (hk : k + 1 < n) (ha : a < 1000) : ∀ (d : Nat) {i fu : Nat}, i + d + 1 = n → d + 1 ≤ fu → f_X12_turns_L3 M fu (zn n) (zn k) (zn a) (zn p) (zn i) = some (zB (pAll (pSt1 s p k) d i && pFit s p k a))
  | d, i, 0, h1, h2 => by omega
  | 0, i, fu + 1, h1, h2 => by
    show f_X12_turns_H3 M (f_X12_turns_L3 M fu) (zn n) (zn k) (zn a) (zn p) (zn i) = _
    unfold f_X12_turns_H3 f_X12_turns_b134
    obtain ⟨a1, a2⟩ := hS k (by omega)
    obtain ⟨b1, b2⟩ := hS (k + 1) hk
    rw [show zn i + 1 = zn (i + 1) from zn_add i 1, if_neg (by rw [zn_lt (by omega) (by omega)]; omega), show zn k + 1 = zn (k + 1) from zn_add k 1, zb_zn (show k < 940 by omega) (by omega), if_pos rfl, zb_zn (show k + 1 < 940 by omega) (by omega), zn_nat (show k < 2147483648 by omega), zn_nat (show k + 1 < 2147483648 by omega), a1, b1]
    simp only [if_true, pAll, Bool.true_and]
    unfold pFit
    by_cases q1 : a < s k
    · rw [if_pos (by rw [zn_lt (by omega) (by omega)]; exact q1), decide_eq_false (by omega)]; rfl
    rw [if_neg (by rw [zn_lt (by omega) (by omega)]; exact q1)]
    by_cases q2 : a < s (k + 1)
    · rw [if_pos (by rw [zn_lt (by omega) (by omega)]; exact q2), decide_eq_false (by omega)]; rfl
    rw [if_neg (by rw [zn_lt (by omega) (by omega)]; exact q2), show (2 : Int32) * zn a = zn (2 * a) from zn_mul 2 a, zn_sub (show s k ≤ 2 * a by omega), zn_sub (show s (k + 1) ≤ 2 * a - s k by omega)]
    by_cases q3 : p < 2 * a - s k - s (k + 1)
    · rw [if_pos (by rw [zn_lt (by omega) (by omega)]; exact q3), decide_eq_false (by omega)]; rfl
    · rw [if_neg (by rw [zn_lt (by omega) (by omega)]; exact q3), decide_eq_true (by omega)]; rfl
  | d + 1, i, fu + 1, h1, h2 => by
    show f_X12_turns_H3 M (f_X12_turns_L3 M fu) (zn n) (zn k) (zn a) (zn p) (zn i) = _
    unfold f_X12_turns_H3 f_X12_turns_b63 f_X12_turns_b78
    obtain ⟨a1, a2⟩ := hS i (by omega)
    obtain ⟨b1, b2⟩ := hS (i + 1) (by omega)
    have ih := pm_turns hS hn hp hk ha d (i := i + 1) (fu := fu) (by omega) (by omega)
    rw [show zn i + 1 = zn (i + 1) from zn_add i 1, if_pos (show zn (i + 1) < zn n by rw [zn_lt (by omega) (by omega)]; omega), zb_zn (show i < 940 by omega) (by omega), zb_zn (show i + 1 < 940 by omega) (by omega), zn_nat (show i < 2147483648 by omega), zn_nat (show i + 1 < 2147483648 by omega), a1, b1, ih, pm_isIn, pm_isIn, ob_eq, ob_eq]
    simp only [if_true, pAll]
    have z1 := z_diff (a := s (i + 1)) (b := s i) (p := p) (by omega) (by omega) hp
    have z2 := z_diff (a := s i) (b := s (i + 1)) (p := p) (by omega) (by omega) hp
    by_cases q : i = k
    · rw [if_pos (by rw [q]), if_pos (show pSt1 s p k i = true by unfold pSt1; rw [if_pos q])]
    rw [if_neg (by rw [zn_eq (by omega) (by omega)]; exact q)]
    by_cases ql : i < k
    · rw [if_pos (by rw [zn_lt (by omega) (by omega)]; exact ql)]
      have e : pSt1 s p k i = pOk s p i := by unfold pSt1; rw [if_neg q, if_pos ql]
      rw [e]
      by_cases q3 : s i ≤ s (i + 1) ∧ s (i + 1) - s i ≤ p
      · rw [if_neg (fun y => z1.mp y q3), if_neg n10, if_pos (by unfold pOk; rw [decide_eq_true_eq]; exact q3)]
      · rw [if_pos (z1.mpr q3), if_pos rfl, if_neg (by unfold pOk; rw [decide_eq_true_eq]; exact q3)]; rfl
    · rw [if_neg (by rw [zn_lt (by omega) (by omega)]; exact ql)]
      have e : pSt1 s p k i = pBk s p i := by unfold pSt1; rw [if_neg q, if_neg ql]
      rw [e]
      by_cases q3 : s (i + 1) ≤ s i ∧ s i - s (i + 1) ≤ p
      · rw [if_neg (fun y => z2.mp y q3), if_neg n10, if_pos (by unfold pBk; rw [decide_eq_true_eq]; exact q3)]
      · rw [if_pos (z2.mpr q3), if_pos rfl, if_neg (by unfold pBk; rw [decide_eq_true_eq]; exact q3)]; rfl
theorem pAll_iff (f : Nat → Bool) : ∀ d i, pAll f d i = true ↔ ∀ j, i ≤ j → j < i + d → f j = true
  | 0, i => ⟨fun _ j h1 h2 => by omega, fun _ => rfl⟩
  | d + 1, i => by
    simp only [pAll]
    by_cases q : f i = true
    · rw [if_pos q, pAll_iff f d (i + 1)]
      exact ⟨fun h j h1 h2 => if e : j = i then by rw [e]; exact q else h j (by omega) (by omega), fun h j h1 h2 => h j (by omega) (by omega)⟩
    · rw [if_neg q]
      exact ⟨fun h => absurd h (by decide), fun h => absurd (h i (by omega) (by omega)) q⟩
/-- the two tellings of one turn -/
theorem pSt1_two {k : Nat} (hk : k + 1 < n) : pAll (pSt1 s p k) (n - 1) 0 = (pAll (pOk s p) k 0 && pAll (pBk s p) (n - 1 - (k + 1)) (k + 1)) := by
  rw [Bool.eq_iff_iff, Bool.and_eq_true, pAll_iff, pAll_iff, pAll_iff]
  refine ⟨fun h => ⟨fun j h1 h2 => ?_, fun j h1 h2 => ?_⟩, fun h j h1 h2 => ?_⟩
  · have := h j (by omega) (by omega)
    unfold pSt1 at this
    rw [if_neg (by omega), if_pos (by omega)] at this; exact this
  · have := h j (by omega) (by omega)
    unfold pSt1 at this
    rw [if_neg (by omega), if_neg (by omega)] at this; exact this
  · unfold pSt1
    by_cases q : j = k
    · rw [if_pos q]
    rw [if_neg q]
    by_cases q2 : j < k
    · rw [if_pos q2]; exact h.1 j (by omega) (by omega)
    · rw [if_neg q2]; exact h.2 j (by omega) (by omega)
end
