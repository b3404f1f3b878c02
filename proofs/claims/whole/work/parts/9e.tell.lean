/-- how many, the first, the last -/
def pTl (f : Nat → Bool) : Nat → Nat → Nat × Nat × Nat → Nat × Nat × Nat
  | 0, _, r => r
  | d + 1, a, r => if f a = true then pTl f d (a + 1) (r.1 + 1, if r.1 = 0 then a else r.2.1, a) else pTl f d (a + 1) r
theorem pTl_lim (f : Nat → Bool) : ∀ d a r, (pTl f d a r).1 ≤ r.1 + d
  | 0, a, r => Nat.le_refl _
  | d + 1, a, r => by
    simp only [pTl]
    split
    · have := pTl_lim f d (a + 1) (r.1 + 1, if r.1 = 0 then a else r.2.1, a)
      have e : (r.1 + 1, if r.1 = 0 then a else r.2.1, a).1 = r.1 + 1 := rfl
      rw [e] at this; omega
    · have := pTl_lim f d (a + 1) r
      omega
theorem pc_tell {g : Nat} (hg : g ≤ 270) {f : Nat → Bool} {S : TrT} (hS : ∀ a, a ≤ g → Tr_marks S a = zB (f a)) : ∀ (d : Nat) {a fu : Nat} (c l h : Nat), a + d = g + 1 → d + 1 ≤ fu → c ≤ a → l ≤ 300 → f_X10_tell_L10 fu S (zn g) (zn c) (if c = 0 then zm else zn l) (if c = 0 then zm else zn h) (zn a) = some (zn (pTl f d a (c, l, h)).1, if (pTl f d a (c, l, h)).1 = 0 then S else Tr_s_greatest (Tr_s_least S (zn (pTl f d a (c, l, h)).2.1)) (zn (pTl f d a (c, l, h)).2.2))
  | d, a, 0, c, l, h, h1, h2, h3, hl => by omega
  | 0, a, fu + 1, c, l, h, h1, h2, h3, hl => by
    show f_X10_tell_H10 S (f_X10_tell_L10 fu) (zn g) (zn c) (if c = 0 then zm else zn l) (if c = 0 then zm else zn h) (zn a) = some (zn c, if c = 0 then S else Tr_s_greatest (Tr_s_least S (zn l)) (zn h))
    unfold f_X10_tell_H10 f_X10_tell_b60
    rw [if_pos (by rw [zn_lt (by omega) (by omega)]; omega)]
    by_cases q : c = 0
    · rw [if_neg (by show ¬ zn 0 < zn c; rw [zn_lt (by omega) (by omega)]; omega), if_pos q]
    · rw [if_pos (by show zn 0 < zn c; rw [zn_lt (by omega) (by omega)]; omega), if_neg q, if_neg q, if_neg q, zl_eq, zl_eq]
  | d + 1, a, fu + 1, c, l, h, h1, h2, h3, hl => by
    show f_X10_tell_H10 S (f_X10_tell_L10 fu) (zn g) (zn c) (if c = 0 then zm else zn l) (if c = 0 then zm else zn h) (zn a) = _
    unfold f_X10_tell_H10 f_X10_tell_b49 f_X10_tell_b54
    rw [if_neg (by rw [zn_lt (by omega) (by omega)]; omega), if_neg (show ¬ (270 : Int32) < zn a from by show ¬ zn 270 < zn a; rw [zn_lt (by omega) (by omega)]; omega), zb_zn (by omega) (by omega), if_pos rfl, zn_nat (by omega), hS a (by omega), show zn a + 1 = zn (a + 1) from zn_add a 1, show zn c + 1 = zn (c + 1) from zn_add c 1]
    simp only [pTl]
    cases hf : f a with
    | true =>
      rw [if_pos (show zB true = 1 from rfl), if_pos rfl]
      have ih := pc_tell hg hS d (a := a + 1) (fu := fu) (c + 1) (if c = 0 then a else l) a (by omega) (by omega) (by omega) (by split <;> omega)
      rw [if_neg (show ¬ c + 1 = 0 by omega), if_neg (show ¬ c + 1 = 0 by omega)] at ih
      by_cases q : c = 0
      · rw [if_pos q, if_pos (show zm = (-1 : Int32) from rfl)]
        rw [if_pos q] at ih
        rw [if_pos q]; exact ih
      · rw [if_neg q, if_neg (show ¬ zn l = (-1 : Int32) from by
          show ¬ zn l = zm
          rw [zm_eq (by omega)]; exact id)]
        rw [if_neg q] at ih
        rw [if_neg q]; exact ih
    | false =>
      rw [if_neg (show ¬ zB false = (1 : Int32) from by decide), if_neg (show ¬ false = true by decide)]
      exact pc_tell hg hS d (a := a + 1) (fu := fu) c l h (by omega) (by omega) (by omega) hl
