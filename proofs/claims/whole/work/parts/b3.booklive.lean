/-! BOOKS: living the lines -/
theorem pM_line (M : MoT) (w : Nat → Int32) (s a b : Int32) : Mo_line (pM M w s a b) = Mo_line M := Eq.trans rfl rfl
theorem pM_many (M : MoT) (w : Nat → Int32) (s a b : Int32) : Mo_lineMany (pM M w s a b) = Mo_lineMany M := Eq.trans rfl rfl
theorem pc_above {b r : Nat} (h : r < 1000) : f_X4_above (zn b) (zn r) = some (zn (if r = 0 then 0 else b + r)) := by
  unfold f_X4_above
  by_cases z : r = 0
  · rw [if_pos (show zn r = 0 by rw [z]; rfl), if_pos z]; rfl
  · rw [if_neg (show ¬ zn r = 0 by rw [zn_eq0 (by omega)]; exact z), if_neg z, zn_add]
section
variable {D : pD} {L : LdT} {M : MoT} {F : pF} {K : FkT} {w : Nat → Int32} {s a b : Int32}
/-- an act of a book -/
theorem pActR.goBy {i c m x : Nat} {cl : Option (Int32 × FkT)} (hi : i < 40) (hc4 : c ≤ 4) (l0 : Mo_line M (4 * i) = zn c) (l1 : Mo_line M (4 * i + 1) = zn m) (l2 : Mo_line M (4 * i + 2) = zn x) (hK : pFc D F K) (hF : pFm D F w) (hV : pFv D F) (h : pActR D F K M w s a b cl (zn c) (zn m) (zn x) (Mo_line M (4 * i + 3))) :
    ∃ r K' F' w' a' b', r ≤ 3 ∧ cl = some (zn r, K') ∧ f_X12_goBy (pM M w s a b) (zn (4 * i)) = some (zn (if r = 0 then 0 else 10 * c + r), pM M w' s a' b') ∧ pFc D F' K' ∧ pFm D F' w' ∧ pFv D F' ∧ pFr w w' := by
  obtain ⟨r, K', hr, h1, h2, ⟨a1, b1, h3⟩, h4, h5⟩ := h
  unfold f_X12_goBy
  simp only [pM_line, show zn (4 * i) + (1 : Int32) = zn (4 * i + 1) from zn_add _ 1, show zn (4 * i) + (2 : Int32) = zn (4 * i + 2) from zn_add _ 2, show zn (4 * i) + (3 : Int32) = zn (4 * i + 3) from zn_add _ 3, zb_zn (show 4 * i < 160 by omega) (show 4 * i < 2147483648 by omega), zb_zn (show 4 * i + 1 < 160 by omega) (show 4 * i + 1 < 2147483648 by omega), zb_zn (show 4 * i + 2 < 160 by omega) (show 4 * i + 2 < 2147483648 by omega), zb_zn (show 4 * i + 3 < 160 by omega) (show 4 * i + 3 < 2147483648 by omega), zn_nat (show 4 * i < 2147483648 by omega), zn_nat (show 4 * i + 1 < 2147483648 by omega), zn_nat (show 4 * i + 2 < 2147483648 by omega), zn_nat (show 4 * i + 3 < 2147483648 by omega), if_true, l0, l1, l2]
  rw [if_neg (show ¬ zn c = (5 : Int32) by rw [show (5 : Int32) = zn 5 from rfl, zn_eq (by omega) (by omega)]; omega), h3, ob_eq]
  simp only [pM_line, l0, l1]
  by_cases z : r = 0
  · obtain ⟨F', w', g1, g2, g3, g4, g5, g6⟩ := h5 z
    obtain ⟨a2, b2, g7⟩ := g6 M s a1 b1
    rw [if_pos (show zn r = 0 by rw [z]; rfl), g7, ob_eq]
    exact ⟨r, K', F', w', a2, b2, hr, h1, by rw [if_pos z]; rfl, g1, g2, g3, g4⟩
  · rw [if_neg (show ¬ zn r = 0 by rw [zn_eq0 (by omega)]; exact z), show (10 : Int32) * zn c = zn (10 * c) from zn_mul 10 c, zn_add]
    have e := h4 z
    subst e
    exact ⟨r, K', F, w, a1, b1, hr, h1, by rw [if_neg z], hK, hF, hV, pFr.rf w⟩
theorem q_liveLine (hv : pV D) (hc : pLc D L) (M : MoT) (hK : pFc D F K) (hL : pLm D w) (hF : pFm D F w) (s a b : Int32) (hV : pFv D F) {S : LgT} {i : Nat} (hi : i < 40) (hB : pBk1 D (Lg_rows S) (Mo_line M) i) :
    ∃ r K' F' w' s' a' b', r < 60 ∧ f_X4_liveLine S L K (zn (4 * i)) = some (zn r, K') ∧ f_X12_goBy (pM M w s a b) (zn (4 * i)) = some (zn r, pM M w' s' a' b') ∧ pFc D F' K' ∧ pFm D F' w' ∧ pFv D F' ∧ pFr w w' := by
  obtain ⟨c, m, x, y, c5, hm, h0, h1, h4, h5, ⟨l0, l1, l2, l3⟩, ⟨t0, t1, t2, t3⟩⟩ := hB
  have hd := hV.1
  have hnp := hv.np
  have ac : ∀ {r : Nat} {z : Nat}, r ≤ 3 → z ≤ 4 → (if r = 0 then 0 else 10 * z + r) < 60 := fun {r z} h1 h2 => by split <;> omega
  unfold f_X4_liveLine
  simp only [show zn (4 * i) + (0 : Int32) = zn (4 * i) from zn_add _ 0, show zn (4 * i) + (1 : Int32) = zn (4 * i + 1) from zn_add _ 1, show zn (4 * i) + (2 : Int32) = zn (4 * i + 2) from zn_add _ 2, show zn (4 * i) + (3 : Int32) = zn (4 * i + 3) from zn_add _ 3, zb_zn (show 4 * i < 160 by omega) (show 4 * i < 2147483648 by omega), zb_zn (show 4 * i + 1 < 160 by omega) (show 4 * i + 1 < 2147483648 by omega), zb_zn (show 4 * i + 2 < 160 by omega) (show 4 * i + 2 < 2147483648 by omega), zb_zn (show 4 * i + 3 < 160 by omega) (show 4 * i + 3 < 2147483648 by omega), zn_nat (show 4 * i < 2147483648 by omega), zn_nat (show 4 * i + 1 < 2147483648 by omega), zn_nat (show 4 * i + 2 < 2147483648 by omega), zn_nat (show 4 * i + 3 < 2147483648 by omega), if_true, t0]
  have hc6 : c = 0 ∨ c = 1 ∨ c = 2 ∨ c = 3 ∨ c = 4 ∨ c = 5 := by omega
  rcases hc6 with rfl | rfl | rfl | rfl | rfl | rfl
  · obtain ⟨e1, e2, e3, e4⟩ := h0 rfl
    have hA := q_swear_a hv hc M hK hL hF s a b hV (hm (by omega)) e1 e2 e3 e4
    rw [← l3 rfl] at hA
    obtain ⟨r, K', F', w', a', b', g1, g2, g3, g4⟩ := pActR.goBy (c := 0) (m := m) (x := x) hi (by omega) l0 l1 l2 hK hF hV hA
    rw [if_pos (show zn (if (0 : Nat) = 5 then 12 else 0 + 7) = (7 : Int32) from rfl), t1 (by omega), t2 rfl, t3 (by omega) (by omega), if_pos rfl, ← l3 rfl, g2, ob_eq]
    have e : (if r = 0 then 0 else 10 * 0 + r) = r := by split <;> omega
    rw [e] at g3
    exact ⟨r, K', F', w', s, a', b', by omega, rfl, g3, g4⟩
  · obtain ⟨r, K', F', w', a', b', g1, g2, g3, g4⟩ := pActR.goBy (c := 1) (m := m) (x := x) hi (by omega) l0 l1 l2 hK hF hV (q_order_a hv hc M hK hL hF s a b hV (hm (by omega)) (h1 rfl) _)
    rw [if_neg (show ¬ zn (if (1 : Nat) = 5 then 12 else 1 + 7) = (7 : Int32) by decide), if_pos (show zn (if (1 : Nat) = 5 then 12 else 1 + 7) = (8 : Int32) from rfl), t1 (by omega), t3 (by omega) (by omega), if_neg (by omega), g2, ob_eq]
    simp only
    rw [show f_X4_above 10 (zn r) = _ from pc_above (b := 10) (r := r) (by omega), ob_eq]
    exact ⟨_, K', F', w', s, a', b', ac (z := 1) g1 (by omega), rfl, g3, g4⟩
  · obtain ⟨r, K', F', w', a', b', g1, g2, g3, g4⟩ := pActR.goBy (c := 2) (m := m) (x := x) hi (by omega) l0 l1 l2 hK hF hV (q_slip_a hv M hK hF s a b hV (hm (by omega)) _ _)
    rw [if_neg (show ¬ zn (if (2 : Nat) = 5 then 12 else 2 + 7) = (7 : Int32) by decide), if_neg (show ¬ zn (if (2 : Nat) = 5 then 12 else 2 + 7) = (8 : Int32) by decide), if_pos (show zn (if (2 : Nat) = 5 then 12 else 2 + 7) = (9 : Int32) from rfl), t1 (by omega), g2, ob_eq]
    simp only
    rw [show f_X4_above 20 (zn r) = _ from pc_above (b := 20) (r := r) (by omega), ob_eq]
    exact ⟨_, K', F', w', s, a', b', ac (z := 2) g1 (by omega), rfl, g3, g4⟩
  · obtain ⟨r, K', F', w', a', b', g1, g2, g3, g4⟩ := pActR.goBy (c := 3) (m := m) (x := x) hi (by omega) l0 l1 l2 hK hF hV (q_enter_a hv hc M hK hL hF s a b hV (hm (by omega)) _ _)
    rw [if_neg (show ¬ zn (if (3 : Nat) = 5 then 12 else 3 + 7) = (7 : Int32) by decide), if_neg (show ¬ zn (if (3 : Nat) = 5 then 12 else 3 + 7) = (8 : Int32) by decide), if_neg (show ¬ zn (if (3 : Nat) = 5 then 12 else 3 + 7) = (9 : Int32) by decide), if_pos (show zn (if (3 : Nat) = 5 then 12 else 3 + 7) = (10 : Int32) from rfl), t1 (by omega), g2, ob_eq]
    simp only
    rw [show f_X4_above 30 (zn r) = _ from pc_above (b := 30) (r := r) (by omega), ob_eq]
    exact ⟨_, K', F', w', s, a', b', ac (z := 3) g1 (by omega), rfl, g3, g4⟩
  · obtain ⟨r, K', F', w', a', b', g1, g2, g3, g4⟩ := pActR.goBy (c := 4) (m := m) (x := x) hi (by omega) l0 l1 l2 hK hF hV (q_get_a hv M hK hF s a b hV (hm (by omega)) (h4 rfl) _)
    rw [if_neg (show ¬ zn (if (4 : Nat) = 5 then 12 else 4 + 7) = (7 : Int32) by decide), if_neg (show ¬ zn (if (4 : Nat) = 5 then 12 else 4 + 7) = (8 : Int32) by decide), if_neg (show ¬ zn (if (4 : Nat) = 5 then 12 else 4 + 7) = (9 : Int32) by decide), if_neg (show ¬ zn (if (4 : Nat) = 5 then 12 else 4 + 7) = (10 : Int32) by decide), if_pos (show zn (if (4 : Nat) = 5 then 12 else 4 + 7) = (11 : Int32) from rfl), t1 (by omega), t3 (by omega) (by omega), if_neg (by omega), g2, ob_eq]
    simp only
    rw [show f_X4_above 40 (zn r) = _ from pc_above (b := 40) (r := r) (by omega), ob_eq]
    exact ⟨_, K', F', w', s, a', b', ac (z := 4) g1 (by omega), rfl, g3, g4⟩
  · obtain ⟨x1, x30⟩ := h5 rfl
    rw [if_neg (show ¬ zn (if (5 : Nat) = 5 then 12 else 5 + 7) = (7 : Int32) by decide), if_neg (show ¬ zn (if (5 : Nat) = 5 then 12 else 5 + 7) = (8 : Int32) by decide), if_neg (show ¬ zn (if (5 : Nat) = 5 then 12 else 5 + 7) = (9 : Int32) by decide), if_neg (show ¬ zn (if (5 : Nat) = 5 then 12 else 5 + 7) = (10 : Int32) by decide), if_neg (show ¬ zn (if (5 : Nat) = 5 then 12 else 5 + 7) = (11 : Int32) by decide), t3 (by omega) (by omega), if_neg (by omega)]
    unfold f_X1_daysToCome f_X12_goBy
    simp only [pM_line, pM_now, show zn (4 * i) + (2 : Int32) = zn (4 * i + 2) from zn_add _ 2, zb_zn (show 4 * i < 160 by omega) (show 4 * i < 2147483648 by omega), zb_zn (show 4 * i + 2 < 160 by omega) (show 4 * i + 2 < 2147483648 by omega), zn_nat (show 4 * i < 2147483648 by omega), zn_nat (show 4 * i + 2 < 2147483648 by omega), if_true, l0, l2]
    rw [ob_eq, if_pos (show zn 5 = (5 : Int32) from rfl), hK.1, show w (443 : Int32).toNatClampNeg = zn (pF_day F) from hF.1, show (400 : Int32) = zn 400 from rfl, zn_sub (by omega), zn_add]
    by_cases q : 400 < pF_day F + x
    · rw [if_pos (show zn (400 - pF_day F) < zn x by rw [zn_lt (by omega) (by omega)]; omega), if_pos (show zn 400 < zn (pF_day F + x) by rw [zn_lt (by omega) (by omega)]; exact q)]
      exact ⟨51, K, F, w, s, a, b, by omega, rfl, rfl, hK, hF, hV, pFr.rf w⟩
    · rw [if_neg (show ¬ zn (400 - pF_day F) < zn x by rw [zn_lt (by omega) (by omega)]; omega), if_neg (show ¬ zn 400 < zn (pF_day F + x) by rw [zn_lt (by omega) (by omega)]; exact q)]
      obtain ⟨F', K', w', a', b', i1, i2, i3, i4, i5, i6, i7, i8⟩ := q_goDays hv hc M hK hL hF s a b hV x30 (zn x)
      rw [i1, i2, ob_eq, ob_eq]
      exact ⟨0, K', F', w', _, a', b', by omega, rfl, rfl, i3, i4, i5, i6⟩
theorem q_live_loop (hv : pV D) (hc : pLc D L) (M : MoT) {n : Nat} (hn : n ≤ 40) {T : Nat → Int32} (hB : ∀ j, j < n → pBk1 D T (Mo_line M) j) (hM : Mo_lineMany M = zn n) (x1 : Int32) : ∀ (d : Nat) {k f1 f2 : Nat} {S : LgT} {F : pF} {K : FkT} {w : Nat → Int32} (hK : pFc D F K) (hL : pLm D w) (hF : pFm D F w) (s a b : Int32) (hV : pFv D F), k + d = n → d + 1 ≤ f1 → d + 2 ≤ f2 → Lg_rows S = T → Lg_lines S = zn n → Lg_lived S = zn k →
    ∃ r S' K' F' w' s' a' b' k', f_X4_live_L7 L f1 S K 0 = f_X4_live_b51 S' L K' (zn r) ∧ f_X12_book_L73 f2 (pM M w s a b) x1 (zn k) 0 = f_X12_book_b103 (pM M w' s' a' b') x1 (zn k') (zn r) ∧ r < 60 ∧ k' ≤ n ∧ Lg_lived S' = zn k' ∧ Lg_verdict S' = Lg_verdict S ∧ pFc D F' K' ∧ pFm D F' w' ∧ pFv D F' ∧ pFr w w' := by
  intro d
  induction d with
  | zero =>
    intro k f1 f2 S F K w hK hL hF s a b hV h1 h2 h3 h4 h5 h6
    cases f1 with
    | zero => omega
    | succ f1 =>
    cases f2 with
    | zero => omega
    | succ f2 =>
      show ∃ r S' K' F' w' s' a' b' k', f_X4_live_H7 S L K (f_X4_live_L7 L f1) 0 = _ ∧ f_X12_book_H73 (pM M w s a b) (f_X12_book_L73 f2) x1 (zn k) 0 = _ ∧ _
      unfold f_X4_live_H7 f_X12_book_H73
      have c0 : ¬ zn k < zn n := by rw [zn_lt (by omega) (by omega)]; omega
      rw [h5, h6, pM_many, hM, if_neg c0, if_neg c0]
      exact ⟨0, S, K, F, w, s, a, b, k, rfl, rfl, by omega, by omega, h6, rfl, hK, hF, hV, pFr.rf w⟩
  | succ d ih =>
    intro k f1 f2 S F K w hK hL hF s a b hV h1 h2 h3 h4 h5 h6
    cases f1 with
    | zero => omega
    | succ f1 =>
    cases f2 with
    | zero => omega
    | succ f2 =>
      have hkn : k < n := by omega
      have c0 : zn k < zn n := by rw [zn_lt (by omega) (by omega)]; exact hkn
      have hb := hB k hkn
      rw [← h4] at hb
      obtain ⟨r, K1, F1, w1, s1, a1, b1, g1, g2, g3, g4, g5, g6, g7⟩ := q_liveLine hv hc M hK hL hF s a b hV (S := S) (i := k) (by omega) hb
      show ∃ r S' K' F' w' s' a' b' k', f_X4_live_H7 S L K (f_X4_live_L7 L f1) 0 = _ ∧ f_X12_book_H73 (pM M w s a b) (f_X12_book_L73 f2) x1 (zn k) 0 = _ ∧ _
      unfold f_X4_live_H7 f_X12_book_H73
      rw [h5, h6, pM_many, hM, if_pos c0, if_pos c0, if_pos rfl, show zn k * (4 : Int32) = zn (4 * k) from by rw [zn_l4, zn_mul, Nat.mul_comm], show (4 : Int32) * zn k = zn (4 * k) from zn_mul 4 k, g2, g3, ob_eq, ob_eq]
      simp only
      by_cases z : r = 0
      · rw [if_pos (show zn r = 0 by rw [z]; rfl), if_pos (show zn r = 0 by rw [z]; rfl), zl_eq, show zn k + 1 = zn (k + 1) from zn_add k 1, show zn r = 0 by rw [z]; rfl]
        obtain ⟨r', S', K', F', w', s', a', b', k', i1, i2, i3, i4, i5, i6, i7, i8, i9, i10⟩ := ih (k := k + 1) (f1 := f1) (f2 := f2) (S := Lg_s_lived S (zn (k + 1))) g4 (hL.fr' hv g7) g5 s1 a1 b1 g6 (by omega) (by omega) (by omega) h4 h5 rfl
        exact ⟨r', S', K', F', w', s', a', b', k', i1, i2, i3, i4, i5, i6, i7, i8, i9, g7.tr i10⟩
      · have nz : ¬ zn r = 0 := by rw [zn_eq0 (by omega)]; exact z
        rw [if_neg nz, if_neg nz]
        cases f2 with
        | zero => omega
        | succ f2 =>
          refine ⟨r, S, K1, F1, w1, s1, a1, b1, k, rfl, ?_, g1, by omega, h6, rfl, g4, g5, g6, g7⟩
          show f_X12_book_H73 (pM M w1 s1 a1 b1) (f_X12_book_L73 f2) x1 (zn k) (zn r) = _
          unfold f_X12_book_H73
          rw [pM_many, hM, if_pos c0, if_neg nz]
end
