theorem pAny_snoc (f : Nat → Bool) (k : Nat) : pAny f (k + 1) 0 = (pAny f k 0 || f k) := by
  rw [Bool.eq_iff_iff, Bool.or_eq_true, pAny_iff, pAny_iff]
  constructor
  · rintro ⟨j, h1, h2, h3⟩
    by_cases e : j = k
    · rw [e] at h3; exact Or.inr h3
    · exact Or.inl ⟨j, h1, by omega, h3⟩
  · rintro (⟨j, h1, h2, h3⟩ | h)
    · exact ⟨j, h1, by omega, h3⟩
    · exact ⟨k, by omega, by omega, h⟩
theorem zn_max (x y : Nat) (hx : x < 1000) (hy : y < 1000) : zr_mmaxF (zn x) (zn y) = zn (max x y) := by
  unfold zr_mmaxF
  by_cases q : x < y
  · simp (disch := omega) only [zn_lt, zn_le]
    simp [show max x y = y by omega, show ¬ y < x by omega, show x ≤ y by omega, q, show ¬ y ≤ x by omega]
  · simp (disch := omega) only [zn_lt, zn_le]
    by_cases e : x = y
    · subst e; simp
    · simp [show max x y = x by omega, q, show y < x by omega, show ¬ x ≤ y by omega, show y ≤ x by omega]
section
variable {s : Nat → Nat} {p n : Nat}
theorem pc_track79 {R : RdT} (hn : n ≤ 20) (hn2 : 2 ≤ n) (hp : p < 1000) {g : Nat} (hg : g ≤ 270) (hsg : ∀ i, i < n → s i ≤ g) : ∀ (d : Nat) {k fu : Nat} {S : TrT}, k + d + 1 = n → d + 1 ≤ fu → (∀ i, i < n → Tr_seen S i = zn (s i) ∧ s i < 256) → pMk S (fun a => decide (a ≤ g) && pAny (pTu s p n a) k 0) → ∃ S', f_X10_track_L79 R fu S (zn p) (zn g) (zn n) (zn k) = (f_X10_tell S' (zn g)).bind (fun q11 => some (q11.1, q11.2)) ∧ Tr_least S' = Tr_least S ∧ Tr_greatest S' = Tr_greatest S ∧ pMk S' (fun a => decide (a ≤ g) && pAny (pTu s p n a) (n - 1) 0)
  | d, k, 0, S, h1, h2, hS, h3 => by omega
  | 0, k, fu + 1, S, h1, h2, hS, h3 => by
    show ∃ S', f_X10_track_H79 S R (f_X10_track_L79 R fu) (zn p) (zn g) (zn n) (zn k) = _ ∧ _
    unfold f_X10_track_H79
    rw [show zn k + 1 = zn (k + 1) from zn_add k 1, if_neg (by rw [zn_lt (by omega) (by omega)]; omega)]
    have e : n - 1 = k := by omega
    rw [e]
    exact ⟨S, rfl, rfl, rfl, h3⟩
  | d + 1, k, fu + 1, S, h1, h2, hS, h3 => by
    show ∃ S', f_X10_track_H79 S R (f_X10_track_L79 R fu) (zn p) (zn g) (zn n) (zn k) = _ ∧ _
    unfold f_X10_track_H79 f_X10_track_b134
    have on : f_X10_goesOnTo S (zn k) (zn p) = some (zB (pAll (pOk s p) k 0)) := pc_goesOn hS hn hp (k := k) (by omega) k (i := 0) (fu := zFU) (by omega) (zFU_ge (by omega))
    have bk : f_X10_goesBackFrom S (zn (k + 1)) (zn n) (zn p) = some (zB (pAll (pBk s p) (n - 1 - (k + 1)) (k + 1))) := pc_goesBack hS hn hp (n - 1 - (k + 1)) (i := k + 1) (fu := zFU) (by omega) (zFU_ge (by omega))
    have two := pSt1_two (s := s) (p := p) (n := n) (k := k) (by omega)
    obtain ⟨a1, a2⟩ := hS k (by omega)
    obtain ⟨b1, b2⟩ := hS (k + 1) (by omega)
    rw [show zn k + 1 = zn (k + 1) from zn_add k 1, if_pos (by rw [zn_lt (by omega) (by omega)]; omega), on, ob_eq, bk, ob_eq, zb_zn (by omega) (by omega), if_pos rfl, zb_zn (by omega) (by omega), if_pos rfl, zn_nat (by omega), zn_nat (by omega), a1, b1]
    have no : (∀ a, pTu s p n a k = false) → ∃ S', f_X10_track_L79 R fu S (zn p) (zn g) (zn n) (zn (k + 1)) = (f_X10_tell S' (zn g)).bind (fun q11 => some (q11.1, q11.2)) ∧ Tr_least S' = Tr_least S ∧ Tr_greatest S' = Tr_greatest S ∧ pMk S' (fun a => decide (a ≤ g) && pAny (pTu s p n a) (n - 1) 0) := fun hf =>
      pc_track79 hn hn2 hp hg hsg d (by omega) (by omega) hS (fun a ha => by
        show Tr_marks S a = zB (decide (a ≤ g) && pAny (pTu s p n a) (k + 1) 0)
        rw [pAny_snoc, hf a, Bool.or_false]; exact h3 a ha)
    cases hon : pAll (pOk s p) k 0 with
    | false =>
      rw [if_pos (show zB false = 0 from rfl)]
      exact no fun a => by unfold pTu; rw [two, hon]; rfl
    | true =>
      rw [if_neg (show ¬ zB true = 0 from n10)]
      cases hbk : pAll (pBk s p) (n - 1 - (k + 1)) (k + 1) with
      | false =>
        rw [if_pos (show zB false = 0 from rfl)]
        exact no fun a => by unfold pTu; rw [two, hon, hbk]; rfl
      | true =>
        rw [if_neg (show ¬ zB true = 0 from n10)]
        have mx : f_X10_mark S (zn (s k)) (zn (s (k + 1))) (zn p) (zn g) = f_X10_mark_L7 zFU S (zn (s k)) (zn (s (k + 1))) (zn p) (zn g) (zn (max (s k) (s (k + 1)))) := by
          unfold f_X10_mark
          rw [zn_max _ _ (by omega) (by omega)]
        have g1 := hsg k (by omega)
        have g2 := hsg (k + 1) (by omega)
        obtain ⟨S1, e1, e2, e3, e4, e5⟩ := pc_mark (x := s k) (y := s (k + 1)) (p := p) (g := g) a2 b2 hp hg (g + 1 - max (s k) (s (k + 1))) (a := max (s k) (s (k + 1))) (fu := zFU) (S := S) (by omega) (by omega) (by omega) (zFU_ge (by omega)) h3
        rw [mx, e1, ob_eq]
        obtain ⟨S2, f1, f2, f3, f4⟩ := pc_track79 (R := R) hn hn2 hp hg hsg d (k := k + 1) (fu := fu) (S := S1) (by omega) (by omega) (by rw [e2]; exact hS) (fun a ha => by
          show Tr_marks S1 a = zB (decide (a ≤ g) && pAny (pTu s p n a) (k + 1) 0)
          rw [e5 a ha]
          congr 1
          have ef : pTu s p n a k = pFit s p k a := by unfold pTu; rw [two, hon, hbk]; rfl
          rw [pAny_snoc, ef]
          unfold pFit
          rw [Bool.eq_iff_iff, Bool.or_eq_true, Bool.and_eq_true, Bool.and_eq_true, Bool.or_eq_true, decide_eq_true_eq, decide_eq_true_eq, decide_eq_true_eq]
          constructor
          · rintro (⟨z1, z2⟩ | z)
            · exact ⟨z1, Or.inl z2⟩
            · exact ⟨by omega, Or.inr (by omega)⟩
          · rintro ⟨z1, z2 | z2⟩
            · exact Or.inl ⟨z1, z2⟩
            · exact Or.inr (by omega))
        exact ⟨S2, f1, f2.trans e3, f3.trans e4, f4⟩
end
