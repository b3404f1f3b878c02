def pTL (M : MoT) (a b : Int32) : MoT := Mo_s_turnedGreatest (Mo_s_turnedLeast M a) b
theorem pTL_l (M : MoT) (a b c : Int32) : Mo_s_turnedLeast (pTL M a b) c = pTL M c b := by simp only [pTL, Mo_s_turnedGreatest, Mo_s_turnedLeast]
theorem pTL_g (M : MoT) (a b c : Int32) : Mo_s_turnedGreatest (pTL M a b) c = pTL M a c := by simp only [pTL, Mo_s_turnedGreatest, Mo_s_turnedLeast]
theorem pTL_tape (M : MoT) (a b : Int32) : Mo_tape (pTL M a b) = Mo_tape M := by unfold pTL Mo_tape Mo_s_turnedGreatest Mo_s_turnedLeast; rfl
theorem pTL_now (M : MoT) (a b : Int32) : Mo_now (pTL M a b) = Mo_now M := by unfold pTL Mo_now Mo_s_turnedGreatest Mo_s_turnedLeast; rfl
section
variable {s : Nat → Nat} {p n : Nat} {M : MoT}
theorem pm_turned89 (hS : ∀ i, i < n → Mo_tape M i = zn (s i) ∧ s i < 256) (hn : n ≤ 20) (hn2 : 2 ≤ n) (hp : p < 1000) {m : Nat} (hm : m < 6) (hw : Mo_now M (230 + m) = zn p) {g : Nat} (hg : g ≤ 270) (o1 o2 : Int32) : ∀ (d : Nat) {a fu : Nat} (c l h : Nat), a + d = g + 1 → d + 1 ≤ fu → c ≤ a → f_X12_turned_L89 fu (pTL M (if c = 0 then o1 else zn l) (if c = 0 then o2 else zn h)) (zn m) (zn n) (zn g) (zn c) (zn a) = some (zn (pTl (fun a => pAny (pTu s p n a) (n - 1) 0) d a (c, l, h)).1, pTL M (if (pTl (fun a => pAny (pTu s p n a) (n - 1) 0) d a (c, l, h)).1 = 0 then o1 else zn (pTl (fun a => pAny (pTu s p n a) (n - 1) 0) d a (c, l, h)).2.1) (if (pTl (fun a => pAny (pTu s p n a) (n - 1) 0) d a (c, l, h)).1 = 0 then o2 else zn (pTl (fun a => pAny (pTu s p n a) (n - 1) 0) d a (c, l, h)).2.2))
  | d, a, 0, c, l, h, h1, h2, h3 => by omega
  | 0, a, fu + 1, c, l, h, h1, h2, h3 => by
    show f_X12_turned_H89 (pTL M (if c = 0 then o1 else zn l) (if c = 0 then o2 else zn h)) (f_X12_turned_L89 fu) (zn m) (zn n) (zn g) (zn c) (zn a) = some (zn c, pTL M (if c = 0 then o1 else zn l) (if c = 0 then o2 else zn h))
    unfold f_X12_turned_H89
    rw [if_pos (by rw [zn_lt (by omega) (by omega)]; omega)]
  | d + 1, a, fu + 1, c, l, h, h1, h2, h3 => by
    show f_X12_turned_H89 (pTL M (if c = 0 then o1 else zn l) (if c = 0 then o2 else zn h)) (f_X12_turned_L89 fu) (zn m) (zn n) (zn g) (zn c) (zn a) = _
    unfold f_X12_turned_H89
    have t := pm_turned101 (M := pTL M (if c = 0 then o1 else zn l) (if c = 0 then o2 else zn h)) (s := s) (p := p) (n := n) (by rw [pTL_tape]; exact hS) hn hn2 hp (m := m) (a := a) hm (by rw [pTL_now]; exact hw) (by omega) (k89 := f_X12_turned_L89 fu) (zn g) (zn c) (n - 1) (k := 0) (fu := zFU) (by omega) (zFU_ge (by omega))
    have t' : f_X12_turned_L101 (f_X12_turned_L89 fu) zFU (pTL M (if c = 0 then o1 else zn l) (if c = 0 then o2 else zn h)) (zn m) (zn n) (zn g) (zn c) (zn a) 0 0 = _ := t
    rw [if_neg (by rw [zn_lt (by omega) (by omega)]; omega), t']
    unfold f_X12_turned_b141 f_X12_turned_b160 f_X12_turned_b169
    rw [show zn a + 1 = zn (a + 1) from zn_add a 1, show zn c + 1 = zn (c + 1) from zn_add c 1]
    simp only [pTl]
    cases hf : pAny (pTu s p n a) (n - 1) 0 with
    | false =>
      rw [if_pos (show zB false = 0 from rfl), if_neg (show ¬ false = true by decide)]
      exact pm_turned89 hS hn hn2 hp hm hw hg o1 o2 d c l h (by omega) (by omega) (by omega)
    | true =>
      rw [if_neg (show ¬ zB true = 0 from n10), if_pos rfl, zl_eq, zl_eq, zl_eq, pTL_g]
      have ih := pm_turned89 hS hn hn2 hp hm hw hg o1 o2 d (a := a + 1) (fu := fu) (c + 1) (if c = 0 then a else l) a (by omega) (by omega) (by omega)
      rw [if_neg (show ¬ c + 1 = 0 by omega), if_neg (show ¬ c + 1 = 0 by omega)] at ih
      by_cases q : c = 0
      · rw [if_pos (by rw [q]; rfl), pTL_l, pTL_g]
        rw [if_pos q] at ih ⊢
        exact ih
      · rw [if_neg (by rw [zn_eq0 (by omega)]; exact q), if_neg q]
        rw [if_neg q] at ih
        rw [if_neg q]
        exact ih
end
