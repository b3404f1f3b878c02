def pAny (f : Nat → Bool) : Nat → Nat → Bool
  | 0, _ => false
  | d + 1, i => if f i = true then true else pAny f d (i + 1)
theorem pAny_iff (f : Nat → Bool) : ∀ d i, pAny f d i = true ↔ ∃ j, i ≤ j ∧ j < i + d ∧ f j = true
  | 0, i => ⟨fun h => Bool.noConfusion (show false = true from h), fun ⟨j, h1, h2, _⟩ => by omega⟩
  | d + 1, i => by
    simp only [pAny]
    by_cases q : f i = true
    · rw [if_pos q]
      exact ⟨fun _ => ⟨i, by omega, by omega, q⟩, fun _ => rfl⟩
    · rw [if_neg q, pAny_iff f d (i + 1)]
      exact ⟨fun ⟨j, h1, h2, h3⟩ => ⟨j, by omega, by omega, h3⟩, fun ⟨j, h1, h2, h3⟩ => ⟨j, by
        by_cases e : j = i
        · rw [e] at h3; exact absurd h3 q
        · omega, by omega, h3⟩⟩
/-- a turn behind k at a -/
def pTu (s : Nat → Nat) (p n a k : Nat) : Bool := pAll (pSt1 s p k) (n - 1) 0 && pFit s p k a
section
variable {s : Nat → Nat} {p n : Nat} {M : MoT}
theorem pm_turned101 (hS : ∀ i, i < n → Mo_tape M i = zn (s i) ∧ s i < 256) (hn : n ≤ 20) (hn2 : 2 ≤ n) (hp : p < 1000) {m a : Nat} (hm : m < 6) (hw : Mo_now M (230 + m) = zn p) (ha : a < 1000) {k89 : MoT → Int32 → Int32 → Int32 → Int32 → Int32 → Option (Int32 × MoT)} (x3 x4 : Int32) : ∀ (d : Nat) {k fu : Nat}, k + d + 1 = n → d + 1 ≤ fu → f_X12_turned_L101 k89 fu M (zn m) (zn n) x3 x4 (zn a) 0 (zn k) = f_X12_turned_b141 M k89 (zn m) (zn n) x3 x4 (zn a) (zB (pAny (pTu s p n a) d k))
  | d, k, 0, h1, h2 => by omega
  | 0, k, fu + 1, h1, h2 => by
    show f_X12_turned_H101 M k89 (f_X12_turned_L101 k89 fu) (zn m) (zn n) x3 x4 (zn a) 0 (zn k) = _
    unfold f_X12_turned_H101
    rw [show zn k + 1 = zn (k + 1) from zn_add k 1, if_neg (by rw [zn_lt (by omega) (by omega)]; omega)]; rfl
  | d + 1, k, fu + 1, h1, h2 => by
    show f_X12_turned_H101 M k89 (f_X12_turned_L101 k89 fu) (zn m) (zn n) x3 x4 (zn a) 0 (zn k) = _
    unfold f_X12_turned_H101
    have t : f_X12_turns M (zn n) (zn k) (zn a) (zn p) = some (zB (pTu s p n a k)) := pm_turns hS hn hp (k := k) (by omega) ha (n - 1) (i := 0) (fu := zFU) (by omega) (zFU_ge (by omega))
    rw [show zn k + 1 = zn (k + 1) from zn_add k 1, if_pos (by rw [zn_lt (by omega) (by omega)]; omega), if_pos rfl, show (230 : Int32) + zn m = zn (230 + m) from zn_add 230 m, zb_zn (by omega) (by omega), if_pos rfl, zn_nat (by omega), hw, t, ob_eq]
    simp only [pAny]
    by_cases q : pTu s p n a k = true
    · rw [if_pos q, q]
      obtain ⟨g, rfl⟩ : ∃ g, fu = g + 1 := ⟨fu - 1, by omega⟩
      show f_X12_turned_H101 M k89 (f_X12_turned_L101 k89 g) (zn m) (zn n) x3 x4 (zn a) 1 (zn (k + 1)) = f_X12_turned_b141 M k89 (zn m) (zn n) x3 x4 (zn a) 1
      unfold f_X12_turned_H101
      rw [if_neg n10, ite_self]
    · rw [if_neg q]
      have q' : pTu s p n a k = false := by simpa using q
      rw [q']
      exact pm_turned101 hS hn hn2 hp hm hw ha x3 x4 d (by omega) (by omega)
/-- the class's marks -/
def pMk (S : TrT) (bs : Nat → Bool) : Prop := ∀ a, a < 271 → Tr_marks S a = zB (bs a)
theorem pc_byte1 : vp_nar .byte (1 : Int32) = 1 := by decide
theorem pc_mark {x y g : Nat} (hx : x < 256) (hy : y < 256) (hp : p < 1000) (hg : g ≤ 270) : ∀ (d : Nat) {a fu : Nat} {S : TrT} {bs : Nat → Bool}, a + d = g + 1 → x ≤ a → y ≤ a → d + 1 ≤ fu → pMk S bs → ∃ S', f_X10_mark_L7 fu S (zn x) (zn y) (zn p) (zn g) (zn a) = some S' ∧ Tr_seen S' = Tr_seen S ∧ Tr_least S' = Tr_least S ∧ Tr_greatest S' = Tr_greatest S ∧ pMk S' (fun b => bs b || decide (a ≤ b ∧ b ≤ g ∧ 2 * b - x - y ≤ p))
  | d, a, 0, S, bs, h1, hxa, hya, h2, h3 => by omega
  | 0, a, fu + 1, S, bs, h1, hxa, hya, h2, h3 => by
    show ∃ S', f_X10_mark_H7 S (f_X10_mark_L7 fu) (zn x) (zn y) (zn p) (zn g) (zn a) = _ ∧ _
    unfold f_X10_mark_H7
    rw [if_pos (by rw [zn_lt (by omega) (by omega)]; omega)]
    refine ⟨S, rfl, rfl, rfl, rfl, fun b hb => ?_⟩
    show Tr_marks S b = zB (bs b || decide (a ≤ b ∧ b ≤ g ∧ 2 * b - x - y ≤ p))
    rw [h3 b hb, decide_eq_false (by omega), Bool.or_false]
  | d + 1, a, fu + 1, S, bs, h1, hxa, hya, h2, h3 => by
    show ∃ S', f_X10_mark_H7 S (f_X10_mark_L7 fu) (zn x) (zn y) (zn p) (zn g) (zn a) = _ ∧ _
    unfold f_X10_mark_H7 f_X10_mark_b43
    have e : zn a - zn x + zn a - zn y = zn (2 * a - x - y) := by
      rw [zn_sub hxa, zn_add, zn_sub (by omega)]; congr 1; omega
    rw [if_neg (by rw [zn_lt (by omega) (by omega)]; omega), if_neg (show ¬ (270 : Int32) < zn a from by show ¬ zn 270 < zn a; rw [zn_lt (by omega) (by omega)]; omega), e, zb_zn (by omega) (by omega), zn_nat (by omega), pc_byte1, show zn a + 1 = zn (a + 1) from zn_add a 1]
    simp only [if_true, zl_eq]
    by_cases q : p < 2 * a - x - y
    · rw [if_pos (by rw [zn_lt (by omega) (by omega)]; exact q)]
      obtain ⟨S', g1, g2, g3, g4, g5⟩ := pc_mark hx hy hp hg d (a := a + 1) (fu := fu) (S := S) (bs := bs) (by omega) (by omega) (by omega) (by omega) h3
      refine ⟨S', g1, g2, g3, g4, fun b hb => ?_⟩
      rw [g5 b hb]; congr 1
      rw [Bool.eq_iff_iff, Bool.or_eq_true, Bool.or_eq_true, decide_eq_true_eq, decide_eq_true_eq]
      constructor
      · rintro (z | z)
        · exact Or.inl z
        · exact Or.inr (by omega)
      · rintro (z | z)
        · exact Or.inl z
        · by_cases ab : b = a
          · subst ab; omega
          · exact Or.inr (by omega)
    · rw [if_neg (by rw [zn_lt (by omega) (by omega)]; exact q)]
      have hm1 : pMk (Tr_s_marks S (upd (Tr_marks S) a 1)) (fun b => bs b || decide (b = a)) := fun b hb => by
        show upd (Tr_marks S) a 1 b = zB (bs b || decide (b = a))
        by_cases ab : b = a
        · rw [ab, pu_eq, decide_eq_true rfl, Bool.or_true]; rfl
        · rw [pu_ne _ _ ab, h3 b hb, decide_eq_false ab, Bool.or_false]
      obtain ⟨S', g1, g2, g3, g4, g5⟩ := pc_mark hx hy hp hg d (a := a + 1) (fu := fu) (by omega) (by omega) (by omega) (by omega) hm1
      refine ⟨S', g1, g2, g3, g4, fun b hb => ?_⟩
      rw [g5 b hb]; congr 1
      rw [Bool.eq_iff_iff, Bool.or_eq_true, Bool.or_eq_true, Bool.or_eq_true, decide_eq_true_eq, decide_eq_true_eq, decide_eq_true_eq]
      constructor
      · rintro ((z | z) | z)
        · exact Or.inl z
        · exact Or.inr (by omega)
        · exact Or.inr (by omega)
      · rintro (z | z)
        · exact Or.inl (Or.inl z)
        · by_cases ab : b = a
          · exact Or.inl (Or.inr ab)
          · exact Or.inr (by omega)
end
