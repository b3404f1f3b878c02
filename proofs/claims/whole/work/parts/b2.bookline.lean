/-! BOOKS: reading a line, whole -/
/-- a line of a book as both hold it -/
def pBk1 (D : pD) (rows line : Nat → Int32) (i : Nat) : Prop := ∃ c m x y, c ≤ 5 ∧ (c ≠ 5 → m < pD_nm D) ∧ (c = 0 → x < pD_np D ∧ pD_pl D x 0 = 2 ∧ 1 ≤ y ∧ y ≤ 40) ∧ (c = 1 → x ≤ 20) ∧ (c = 4 → x ≤ 99) ∧ (c = 5 → 1 ≤ x ∧ x ≤ 30) ∧
  (line (4 * i) = zn c ∧ line (4 * i + 1) = zn m ∧ line (4 * i + 2) = zn x ∧ (c = 0 → line (4 * i + 3) = zn y)) ∧
  (rows (4 * i) = zn (if c = 5 then 12 else c + 7) ∧ (c ≠ 5 → rows (4 * i + 1) = zn m) ∧ (c = 0 → rows (4 * i + 2) = zn x) ∧ (c ≠ 2 → c ≠ 3 → rows (4 * i + 3) = zn (if c = 0 then y else x)))
theorem pBk1.cg {D : pD} {rows line rows' line' : Nat → Int32} {i : Nat} (h : pBk1 D rows line i) (e1 : ∀ j, j < 4 * i + 4 → rows' j = rows j) (e2 : ∀ j, j < 4 * i + 4 → line' j = line j) : pBk1 D rows' line' i := by
  obtain ⟨c, m, x, y, h⟩ := h
  refine ⟨c, m, x, y, ?_⟩
  rw [e1 (4 * i) (by omega), e1 (4 * i + 1) (by omega), e1 (4 * i + 2) (by omega), e1 (4 * i + 3) (by omega), e2 (4 * i) (by omega), e2 (4 * i + 1) (by omega), e2 (4 * i + 2) (by omega), e2 (4 * i + 3) (by omega)]
  exact h
/-- what comes of reading a line -/
def pBkG (n most : Nat) (B : Nat → Nat) (D : pD) (i : Nat) (S : LgT) (M : MoT) (cl : Option (LgT × RdT)) (mo : Option (Int32 × MoT)) : Prop :=
  ∃ S' R1 R' M', cl = some (S', R1) ∧ f_X7_expect R1 59 = some R' ∧ mo = some (1, M') ∧ pG n most B R' M' ∧ pBb M' = pBb M ∧ i < 40 ∧ Lg_lines S' = zn (i + 1) ∧ Lg_verdict S' = Lg_verdict S ∧ pBk1 D (Lg_rows S') (Mo_line M') i ∧ (∀ j, j < 4 * i → Lg_rows S' j = Lg_rows S j) ∧ (∀ j, j < 4 * i → Mo_line M' j = Mo_line M j)
def pBkB (S : LgT) (M : MoT) (cl : Option (LgT × RdT)) (mo : Option (Int32 × MoT)) : Prop :=
  ∃ S' R1 R' M', cl = some (S', R1) ∧ f_X7_expect R1 59 = some R' ∧ mo = some (0, M') ∧ pW R' M' ∧ pBb M' = pBb M ∧ Lg_verdict S' = Lg_verdict S
section
variable {n most : Nat} {B : Nat → Nat} {R : RdT} {M : MoT} {L : LdT} {D : pD}
theorem pBkB.of {S S' : LgT} {M' : MoT} {R' : RdT} {cl : Option (LgT × RdT)} {mo : Option (Int32 × MoT)} (h1 : cl = some (S', R')) (h2 : mo = some (0, M')) (h3 : pW R' M') (h4 : pBb M' = pBb M) (h5 : Lg_verdict S' = Lg_verdict S) : pBkB S M cl mo :=
  ⟨S', R', R', M', h1, by obtain ⟨fk, pl, w1, -⟩ := h3; exact w1.expect 59, h2, h3, h4, h5⟩
/-- the line's end -/
theorem pBk_end {i : Nat} (hi : i < 40) {S S' : LgT} {R1 : RdT} {M1 : MoT} (h : pG n most B R1 M1) (hb : pBb M1 = pBb M) (hl : Lg_lines S' = zn i) (hv : Lg_verdict S' = Lg_verdict S) (hk : pBk1 D (Lg_rows S') (Mo_line M1) i) (hr : ∀ j, j < 4 * i → Lg_rows S' j = Lg_rows S j) (hm : ∀ j, j < 4 * i → Mo_line M1 j = Mo_line M j) :
    pBkG n most B D i S M (f_X4_readLine_b144 S' R1 L) (f_X12_readBookLine_b162 M1) ∨ pBkB S M (f_X4_readLine_b144 S' R1 L) (f_X12_readBookLine_b162 M1) := by
  unfold f_X4_readLine_b144 f_X12_readBookLine_b162 f_X12_readBookLine_b173
  rw [hl, zl_eq, show zn i + 1 = zn (i + 1) from zn_add i 1]
  rcases h.semi with ⟨R2, M2, e1, e2, e3, e4⟩ | ⟨R2, M2, e1, e2, e3, e4⟩
  · left
    rw [e2, ob_eq]
    simp only [if_neg n10]
    exact ⟨_, R1, R2, M2, rfl, e1, rfl, e3, e4.bb.trans hb, hi, rfl, hv, by rw [e4.line]; exact hk, hr, by rw [e4.line]; exact hm⟩
  · right
    rw [e2, ob_eq]
    simp only [if_true]
    exact ⟨_, R1, R2, M2, rfl, e1, rfl, e3, e4.bb.trans hb, hv⟩
theorem q_bookLine (hv : pV D) (hc : pLc D L) (h : pG n most B R M) (hk0 : ¬ Rd_kind R = 0) (hE : pEnB D L M) {i : Nat} (hi : i ≤ 40) {S : LgT} (hl : Lg_lines S = zn i) (hm : Mo_lineMany M = zn i) :
    pBkG n most B D i S M (f_X4_readLine S R L) (f_X12_readBookLine M) ∨ pBkB S M (f_X4_readLine S R L) (f_X12_readBookLine M) := by
  have hnm := hv.nm
  have h51 : ∀ (R' : RdT) (x y : Int32), ¬ Rd_fault R' = 0 → f_X4_readLine_b51 S R' L x y = some (S, R') := fun R' x y q => by
    unfold f_X4_readLine_b51
    rw [if_neg q]
  have many : i = 40 → Mo_kind M = 2 → ∀ x1 x y : Int32, pBkB S M (f_X4_readLine_b28 S R L x y) (f_X12_readBookLine_b53 M x1) := fun q hk x1 x y => by
    obtain ⟨R', M', b1, b2, b3, b4⟩ := h.bad (k := 4) (by omega) (by omega) (Or.inr (by rw [hk]; decide))
    have hne : ¬ Rd_fault R' = 0 := by obtain ⟨fk, pl, w1, -⟩ := b3; exact w1.ne
    unfold f_X4_readLine_b28 f_X12_readBookLine_b53
    rw [if_pos h.2.2.1, hl, if_neg (show ¬ zn i < (40 : Int32) by rw [zn_l40, zn_lt (by omega) (by omega)]; omega), show f_X7_fail R 4 = some R' from b1, ob_eq, h51 _ _ _ hne, hm, if_pos (show zn i = (40 : Int32) by rw [q]; rfl), pm_badB (k := 4) b2]
    exact pBkB.of rfl rfl b3 b4.bb rfl
  have rw0 : zn i * (4 : Int32) = zn (4 * i) := by rw [zn_l4, zn_mul, Nat.mul_comm]
  have rw1 : (4 : Int32) * zn i = zn (4 * i) := zn_mul 4 i
  unfold f_X4_readLine f_X12_readBookLine
  rcases tk_word h.2.1 (j := 11) (by omega) with ⟨w1, w2, w3, w4⟩ | ⟨w1, w2⟩
  · have w1' : Rd_key R = 12 := w1
    rw [if_pos w1', show f_X12_isWord M 11 = some 1 from w4, ob_eq, if_neg n10]
    unfold f_X4_readLine_b14
    rw [if_neg n10]
    by_cases q : i = 40
    · exact Or.inr (many q w3 _ _ _)
    · have hi40 : i < 40 := by omega
      unfold f_X4_readLine_b28 f_X12_readBookLine_b53
      rw [if_pos h.2.2.1, hl, if_pos (show zn i < (40 : Int32) by rw [zn_l40, zn_lt (by omega) (by omega)]; omega), hm, if_neg (show ¬ zn i = (40 : Int32) by rw [zn_l40, zn_eq (by omega) (by omega)]; exact q)]
      unfold f_X4_readLine_b51 f_X12_readBookLine_b116
      have h2 : pG n most B R (Mo_s_line (Mo_s_line (Mo_s_line M (upd (Mo_line M) (4 * i) 5)) (upd (upd (Mo_line M) (4 * i) 5) (4 * i + 1) 0)) (upd (upd (upd (Mo_line M) (4 * i) 5) (4 * i + 1) 0) (4 * i + 2) 0)) := ((h.s_line _).s_line _).s_line _
      obtain ⟨R1, M1, a1, a2, a3, a4, a5⟩ := h2.adv hk0
      have hl1 : Mo_line M1 = upd (upd (upd (Mo_line M) (4 * i) 5) (4 * i + 1) 0) (4 * i + 2) 0 := a4.line
      have hb1 : pBb M1 = pBb M := a4.bb.trans ((bb_line _ _).trans ((bb_line _ _).trans (bb_line _ _)))
      rw [if_pos h.2.2.1, a1, ob_eq, hl, rw0, rw1, show zn (4 * i) + (0 : Int32) = zn (4 * i) from zn_add _ 0, show zn (4 * i) + (1 : Int32) = zn (4 * i + 1) from zn_add _ 1, show zn (4 * i) + (2 : Int32) = zn (4 * i + 2) from zn_add _ 2, show zn (4 * i) + (3 : Int32) = zn (4 * i + 3) from zn_add _ 3, zb_zn (show 4 * i < 160 by omega) (by omega), zb_zn (show 4 * i + 1 < 160 by omega) (by omega), zb_zn (show 4 * i + 2 < 160 by omega) (by omega), zb_zn (show 4 * i + 3 < 160 by omega) (by omega), zn_nat (show 4 * i < 2147483648 by omega), zn_nat (show 4 * i + 1 < 2147483648 by omega), zn_nat (show 4 * i + 2 < 2147483648 by omega), zn_nat (show 4 * i + 3 < 2147483648 by omega)]
      simp only [if_true, zl_eq]
      have a2' : f_X12_go (Mo_s_line (Mo_s_line (Mo_s_line M (upd (Mo_line M) (4 * i) 5)) (upd (Mo_line (Mo_s_line M (upd (Mo_line M) (4 * i) 5))) (4 * i + 1) 0)) (upd (Mo_line (Mo_s_line (Mo_s_line M (upd (Mo_line M) (4 * i) 5)) (upd (Mo_line (Mo_s_line M (upd (Mo_line M) (4 * i) 5))) (4 * i + 1) 0))) (4 * i + 2) 0)) = some M1 := a2
      simp only [if_neg n10]
      rw [a2', ob_eq]
      rcases a3.number (lo := 1) (hi := 30) (by omega) (by omega) with ⟨R2, M2, y, e1, e2, e3, e4, e5, e6, e7⟩ | ⟨R2, M2, e1, e2, e3, e4⟩
      · rw [show f_X7_number R1 1 30 = some (zn y, R2) from e1, show f_X12_readNumber M1 1 30 = some (1, M2) from e2, ob_eq, ob_eq]
        simp only
        rw [pm_keep1 M2 (show 4 * i + 2 < 160 by omega), ob_eq]
        simp only [if_neg n10]
        have hl2 : Mo_line M2 = upd (upd (upd (Mo_line M) (4 * i) 5) (4 * i + 1) 0) (4 * i + 2) 0 := e4.line.trans hl1
        refine pBk_end hi40 (e3.s_line _) ((bb_line _ _).trans (e4.bb.trans hb1)) hl rfl ⟨5, 0, y, 0, by omega, fun q => absurd rfl q, fun q => by omega, fun q => by omega, fun q => by omega, fun _ => ⟨e5, e6⟩, ⟨?_, ?_, ?_, fun q => by omega⟩, ⟨?_, fun q => absurd rfl q, fun q => by omega, fun _ _ => ?_⟩⟩ (fun j hj => ?_) (fun j hj => ?_)
        · show upd (Mo_line M2) (4 * i + 2) _ (4 * i) = _
          rw [pu_ne _ _ (by omega), hl2, pu_ne _ _ (by omega), pu_ne _ _ (by omega), pu_eq]; rfl
        · show upd (Mo_line M2) (4 * i + 2) _ (4 * i + 1) = _
          rw [pu_ne _ _ (by omega), hl2, pu_ne _ _ (by omega), pu_eq]; rfl
        · show upd (Mo_line M2) (4 * i + 2) _ (4 * i + 2) = _
          rw [pu_eq]; exact e7
        · show upd (upd (upd (upd (upd (Lg_rows S) (4 * i) 12) (4 * i + 1) _) (4 * i + 2) _) (4 * i + 3) _) (4 * i + 3) _ (4 * i) = _
          rw [pu_ne _ _ (by omega), pu_ne _ _ (by omega), pu_ne _ _ (by omega), pu_ne _ _ (by omega), pu_eq]; rfl
        · show upd (upd (upd (upd (upd (Lg_rows S) (4 * i) 12) (4 * i + 1) _) (4 * i + 2) _) (4 * i + 3) _) (4 * i + 3) _ (4 * i + 3) = _
          rw [pu_eq, if_neg (by omega)]
        · show upd (upd (upd (upd (upd (Lg_rows S) (4 * i) 12) (4 * i + 1) _) (4 * i + 2) _) (4 * i + 3) _) (4 * i + 3) _ j = _
          rw [pu_ne _ _ (by omega), pu_ne _ _ (by omega), pu_ne _ _ (by omega), pu_ne _ _ (by omega), pu_ne _ _ (by omega)]
        · show upd (Mo_line M2) (4 * i + 2) _ j = _
          rw [pu_ne _ _ (by omega), hl2, pu_ne _ _ (by omega), pu_ne _ _ (by omega), pu_ne _ _ (by omega)]
      · right
        rw [show f_X7_number R1 1 30 = some (zn 1, R2) from e1, show f_X12_readNumber M1 1 30 = some (0, M2) from e2, ob_eq, ob_eq]
        simp only
        rw [pm_keep0, ob_eq]
        simp only [if_true]
        unfold f_X4_readLine_b144 f_X12_readBookLine_b173
        exact pBkB.of rfl rfl e3 (e4.bb.trans hb1) rfl
  · have w1' : ¬ Rd_key R = 12 := w1
    rw [if_neg w1', show f_X12_isWord M 11 = some 0 from w2, ob_eq, if_pos rfl]
    unfold f_X4_readLine_b14
    rw [if_pos rfl, show Mo_now M (2 : Int32).toNatClampNeg = zn (pD_nm D) from hE.2.1.2.2.1]
    rcases h.manN hE with ⟨m, m1, m2, m3, m4, m5, m6⟩ | ⟨k, R', M', k1, k2, k3, k4, k5⟩
    · rw [m2, m3, m4, ob_eq, ob_eq, ob_eq]
      simp only
      rw [if_neg n10, if_neg (show ¬ zn m = (-1 : Int32) by show ¬ zn m = zm; rw [zm_eq (by omega)]; exact id)]
      by_cases q : i = 40
      · exact Or.inr (many q m6 _ _ _)
      · have hi40 : i < 40 := by omega
        unfold f_X4_readLine_b28 f_X12_readBookLine_b53
        rw [if_pos h.2.2.1, hl, if_pos (show zn i < (40 : Int32) by rw [zn_l40, zn_lt (by omega) (by omega)]; omega), hm, if_neg (show ¬ zn i = (40 : Int32) by rw [zn_l40, zn_eq (by omega) (by omega)]; exact q)]
        unfold f_X4_readLine_b51 f_X12_readBookLine_b116
        have h2 : pG n most B R (Mo_s_line (Mo_s_line (Mo_s_line M (upd (Mo_line M) (4 * i) 5)) (upd (upd (Mo_line M) (4 * i) 5) (4 * i + 1) (zn m))) (upd (upd (upd (Mo_line M) (4 * i) 5) (4 * i + 1) (zn m)) (4 * i + 2) 0)) := ((h.s_line _).s_line _).s_line _
        obtain ⟨R1, M1, a1, a2, a3, a4, a5⟩ := h2.adv hk0
        have hl1 : Mo_line M1 = upd (upd (upd (Mo_line M) (4 * i) 5) (4 * i + 1) (zn m)) (4 * i + 2) 0 := a4.line
        have hb1 : pBb M1 = pBb M := a4.bb.trans ((bb_line _ _).trans ((bb_line _ _).trans (bb_line _ _)))
        rw [if_pos h.2.2.1, a1, ob_eq, hl, rw0, rw1, show zn (4 * i) + (0 : Int32) = zn (4 * i) from zn_add _ 0, show zn (4 * i) + (1 : Int32) = zn (4 * i + 1) from zn_add _ 1, show zn (4 * i) + (2 : Int32) = zn (4 * i + 2) from zn_add _ 2, show zn (4 * i) + (3 : Int32) = zn (4 * i + 3) from zn_add _ 3, zb_zn (show 4 * i < 160 by omega) (by omega), zb_zn (show 4 * i + 1 < 160 by omega) (by omega), zb_zn (show 4 * i + 2 < 160 by omega) (by omega), zb_zn (show 4 * i + 3 < 160 by omega) (by omega), zn_nat (show 4 * i < 2147483648 by omega), zn_nat (show 4 * i + 1 < 2147483648 by omega), zn_nat (show 4 * i + 2 < 2147483648 by omega), zn_nat (show 4 * i + 3 < 2147483648 by omega)]
        simp only [if_true, zl_eq]
        have m4' : f_X12_findIn 16 (Mo_name (Mo_s_line M (upd (Mo_line M) (4 * i) 5))) 10 (Mo_now (Mo_s_line M (upd (Mo_line M) (4 * i) 5)) (2 : Int32).toNatClampNeg) (Mo_word (Mo_s_line M (upd (Mo_line M) (4 * i) 5))) = some (zn m) := by
          rw [show Mo_now (Mo_s_line M (upd (Mo_line M) (4 * i) 5)) (2 : Int32).toNatClampNeg = zn (pD_nm D) from hE.2.1.2.2.1]
          exact m4
        rw [m4', ob_eq]
        have a2' : f_X12_go (Mo_s_line (Mo_s_line (Mo_s_line M (upd (Mo_line M) (4 * i) 5)) (upd (Mo_line (Mo_s_line M (upd (Mo_line M) (4 * i) 5))) (4 * i + 1) (zn m))) (upd (Mo_line (Mo_s_line (Mo_s_line M (upd (Mo_line M) (4 * i) 5)) (upd (Mo_line (Mo_s_line M (upd (Mo_line M) (4 * i) 5))) (4 * i + 1) (zn m)))) (4 * i + 2) 0)) = some M1 := a2
        rw [a2', ob_eq]
        have h0 : Mo_line M1 (4 * i + 2) = 0 := by rw [hl1, pu_eq]
        generalize hS : Lg_s_rows (Lg_s_rows (Lg_s_rows (Lg_s_rows S (upd (Lg_rows S) (4 * i) 12)) (upd (Lg_rows (Lg_s_rows S (upd (Lg_rows S) (4 * i) 12))) (4 * i + 1) (zn m))) (upd (Lg_rows (Lg_s_rows (Lg_s_rows S (upd (Lg_rows S) (4 * i) 12)) (upd (Lg_rows (Lg_s_rows S (upd (Lg_rows S) (4 * i) 12))) (4 * i + 1) (zn m)))) (4 * i + 2) (-1))) (upd (Lg_rows (Lg_s_rows (Lg_s_rows (Lg_s_rows S (upd (Lg_rows S) (4 * i) 12)) (upd (Lg_rows (Lg_s_rows S (upd (Lg_rows S) (4 * i) 12))) (4 * i + 1) (zn m))) (upd (Lg_rows (Lg_s_rows (Lg_s_rows S (upd (Lg_rows S) (4 * i) 12)) (upd (Lg_rows (Lg_s_rows S (upd (Lg_rows S) (4 * i) 12))) (4 * i + 1) (zn m)))) (4 * i + 2) (-1)))) (4 * i + 3) 0) = S1
        have s1 : Lg_rows S1 = upd (upd (upd (upd (Lg_rows S) (4 * i) 12) (4 * i + 1) (zn m)) (4 * i + 2) (-1)) (4 * i + 3) 0 := by rw [← hS]; rfl
        have s2 : Lg_lines S1 = zn i := by rw [← hS]; exact hl
        have s3 : Lg_verdict S1 = Lg_verdict S := by rw [← hS]; rfl
        rcases q_bookAct hv hc a3 (hE.fr hb1) hi40 S1 h0 with ⟨S2, R2, M2, c, x, y, g1, g2, g3, g4, g5, g6, g7, g8, ⟨l1, l2, l3, l4, l5⟩, ⟨t1, t2, t3, t4, t5⟩, g9, g10⟩ | ⟨S2, R2, M2, g1, g2, g3, g4, g5, g6⟩
        · rw [g1, g2, ob_eq, ob_eq]
          simp only [if_neg n10]
          refine pBk_end hi40 g3 (g4.trans hb1) (g10.trans s2) (g9.trans s3) ⟨c, m, x, y, by omega, fun _ => m1, g6, g7, g8, fun q => by omega, ⟨l1, ?_, l3, l4⟩, ⟨by rw [t1, if_neg (by omega)], fun _ => ?_, t3, t4⟩⟩ (fun j hj => ?_) (fun j hj => ?_)
          · rw [l2, hl1, pu_ne _ _ (by omega), pu_eq]
          · rw [t2, s1, pu_ne _ _ (by omega), pu_ne _ _ (by omega), pu_eq]
          · rw [t5 j hj, s1, pu_ne _ _ (by omega), pu_ne _ _ (by omega), pu_ne _ _ (by omega), pu_ne _ _ (by omega)]
          · rw [l5 j hj, hl1, pu_ne _ _ (by omega), pu_ne _ _ (by omega), pu_ne _ _ (by omega)]
        · right
          rw [g1, g2, ob_eq, ob_eq]
          simp only [if_true]
          unfold f_X4_readLine_b144 f_X12_readBookLine_b173
          exact pBkB.of rfl rfl g3 (g4.trans hb1) (g5.trans s3)
    · right
      have hne : ¬ Rd_fault R' = 0 := by obtain ⟨fk, pl, w1, -⟩ := k4; exact w1.ne
      rw [k2, ob_eq]
      simp only
      have c28 : f_X4_readLine_b28 S R' L 0 (-1) = some (S, R') := by
        unfold f_X4_readLine_b28
        rw [if_neg hne, h51 _ _ _ hne]
      rw [c28]
      rcases k1 with ⟨rfl, k6⟩ | ⟨rfl, k6, k7⟩
      · rw [k6, ob_eq, if_pos rfl, pm_badB k3]
        exact pBkB.of rfl rfl k4 k5.bb rfl
      · rw [k6, ob_eq, if_neg n10, k7, ob_eq, if_pos rfl, pm_badB k3]
        exact pBkB.of rfl rfl k4 k5.bb rfl
/-- a text that is too long, behind its last whole token: the reference -/
theorem pm_bookLong (h : pG n most B R M) (hk : Mo_kind M = 1) : ∃ R' M', f_X7_fail R 1 = some R' ∧ f_X12_readBookLine M = some (0, M') ∧ pW R' M' ∧ pBb M' = pBb M := by
  obtain ⟨R', M', z1, z2, z3, z4⟩ := h.bad (k := 1) (by omega) (by omega) (Or.inl rfl)
  refine ⟨R', M', z1, ?_, z3, z4.bb⟩
  unfold f_X12_readBookLine
  rw [pm_isWordN (by rw [hk]; decide), ob_eq, if_pos rfl, pm_isNameN (by rw [hk]; decide), ob_eq, if_pos rfl]
  exact pm_badB (k := 1) z2
theorem zlt400 {i : Nat} (h : i < 400) : zn i < (400 : Int32) := by
  show zn i < zn 400
  rw [zn_lt (by omega) (by omega)]; exact h
theorem pc_bookW {fk pl i f1 : Nat} {R : RdT} {S : LgT} {L : LdT} (h : pWc R fk pl) (hi : i < 400) (hf : 1 ≤ f1) : f_X4_read_L14 L f1 S R (zn i) = some (0, S, R) := by
  obtain ⟨g, rfl⟩ : ∃ g, f1 = g + 1 := ⟨f1 - 1, by omega⟩
  show f_X4_read_H14 S R L (f_X4_read_L14 L g) (zn i) = _
  unfold f_X4_read_H14 f_X4_read_b46
  rw [if_pos (zlt400 hi), h.more, ob_eq, if_pos rfl, if_neg h.ne]
/-- the lines of a book -/
theorem q_bookLines (hv : pV D) (hc : pLc D L) (x1 : Int32) : ∀ (d : Nat) {i f1 f2 : Nat} {R : RdT} {M : MoT} {S : LgT}, i + d = 41 → i ≤ 40 → d + 1 ≤ f1 → d + 1 ≤ f2 → pG n most B R M → pEnB D L M → Lg_lines S = zn i → Mo_lineMany M = zn i → (∀ j, j < i → pBk1 D (Lg_rows S) (Mo_line M) j) →
    (∃ S' R' M' k, f_X4_read_L14 L f1 S R (zn i) = some (1, S', R') ∧ f_X12_book_L30 f2 M x1 = (f_X12_layAside M').bind (fun q5 => f_X12_book_L73 zFU q5 x1 0 0) ∧ pG n most B R' M' ∧ (∃ v, pBb M' = pBb (Mo_s_lineMany M v)) ∧ k ≤ 40 ∧ Lg_lines S' = zn k ∧ Mo_lineMany M' = zn k ∧ Lg_verdict S' = Lg_verdict S ∧ ∀ j, j < k → pBk1 D (Lg_rows S') (Mo_line M') j) ∨
    (∃ S' R' M', f_X4_read_L14 L f1 S R (zn i) = some (0, S', R') ∧ f_X12_book_L30 f2 M x1 = some ((-2 : Int32) - Mo_place M', M') ∧ pW R' M' ∧ (∃ v, pBb M' = pBb (Mo_s_lineMany M v)) ∧ Lg_verdict S' = Lg_verdict S)
  | 0, i, f1, f2, R, M, S, a1, a2, a3, a4, h, hE, hl, hm, hk => by omega
  | d + 1, i, 0, f2, R, M, S, a1, a2, a3, a4, h, hE, hl, hm, hk => by omega
  | d + 1, i, f1 + 1, 0, R, M, S, a1, a2, a3, a4, h, hE, hl, hm, hk => by omega
  | d + 1, i, f1 + 1, f2 + 1, R, M, S, a1, a2, a3, a4, h, hE, hl, hm, hk => by
    have c0 : f_X4_read_L14 L (f1 + 1) S R (zn i) = f_X4_read_H14 S R L (f_X4_read_L14 L f1) (zn i) := rfl
    have m0 : f_X12_book_L30 (f2 + 1) M x1 = f_X12_book_H30 M (f_X12_book_L30 f2) x1 := rfl
    rw [c0, m0]
    unfold f_X4_read_H14 f_X12_book_H30
    rw [if_pos (zlt400 (by omega))]
    have eM : ∃ v, pBb M = pBb (Mo_s_lineMany M v) := ⟨Mo_lineMany M, rfl⟩
    rcases h.more with ⟨k1, k2, k3⟩ | ⟨k1, k2⟩ | ⟨R', k1, k2, k3, k4⟩
    · rw [k1, ob_eq, if_neg n10, if_neg k2]
      rcases q_bookLine hv hc h k3 hE a2 hl hm with ⟨S1, R1, R2, M1, b1, b2, b3, b4, b5, b6, b7, b8, b9, b10, b11⟩ | ⟨S1, R1, R2, M1, b1, b2, b3, b4, b5, b6⟩
      · rw [b1, b3, ob_eq, ob_eq]
        simp only [if_neg n10]
        have hmm : Mo_lineMany M1 = zn i := (pBb_many b5).trans hm
        rw [b2, ob_eq, zl_eq, hmm, show zn i + 1 = zn (i + 1) from zn_add i 1]
        have hE1 : pEnB D L M1 := hE.fr b5
        have hE2 : pEnB D L (Mo_s_lineMany M1 (zn (i + 1))) := hE1
        have fin := q_bookLines hv hc x1 d (i := i + 1) (f1 := f1) (f2 := f2) (R := R2) (M := Mo_s_lineMany M1 (zn (i + 1))) (S := S1) (by omega) (by omega) (by omega) (by omega) b4 hE2 b7 rfl (fun j hj => ?_)
        · have eB : ∀ v, pBb (Mo_s_lineMany (Mo_s_lineMany M1 (zn (i + 1))) v) = pBb (Mo_s_lineMany M v) := fun v => by
            have e := congrArg (fun z => (z.1, z.2.1, z.2.2.1, z.2.2.2.1, z.2.2.2.2.1, z.2.2.2.2.2.1, z.2.2.2.2.2.2.1, z.2.2.2.2.2.2.2.1, z.2.2.2.2.2.2.2.2.1, (z.2.2.2.2.2.2.2.2.2.1.1, v, z.2.2.2.2.2.2.2.2.2.1.2.2), z.2.2.2.2.2.2.2.2.2.2.1, z.2.2.2.2.2.2.2.2.2.2.2)) b5
            exact e
          rcases fin with ⟨S', R', M', k, g1, g2, g3, ⟨v, g4⟩, g5, g6, g7, g8, g9⟩ | ⟨S', R', M', g1, g2, g3, ⟨v, g4⟩, g5⟩
          · left; exact ⟨S', R', M', k, g1, g2, g3, ⟨v, g4.trans (eB v)⟩, g5, g6, g7, g8.trans b8, g9⟩
          · right; exact ⟨S', R', M', g1, g2, g3, ⟨v, g4.trans (eB v)⟩, g5.trans b8⟩
        · show pBk1 D (Lg_rows S1) (Mo_line M1) j
          by_cases z : j = i
          · rw [z]; exact b9
          · exact (hk j (by omega)).cg (fun t ht => b10 t (by omega)) (fun t ht => b11 t (by omega))
      · right
        obtain ⟨fk, pl, b4, b4'⟩ := b4
        rw [b1, b3, ob_eq, ob_eq]
        simp only [if_true]
        rw [b2, ob_eq, show zn i + 1 = zn (i + 1) from zn_add i 1, pc_bookW b4 (by omega) (by omega)]
        exact ⟨S1, R2, M1, rfl, rfl, ⟨fk, pl, b4, b4'⟩, ⟨Mo_lineMany M, b5⟩, b6⟩
    · left
      rw [k1, ob_eq, if_pos rfl, if_pos k2]
      unfold f_X4_read_b46
      rw [if_pos h.2.2.1]
      exact ⟨S, R, M, i, rfl, rfl, h, eM, a2, hl, hm, rfl, hk⟩
    · right
      obtain ⟨R2, M2, z1, z2, z3, z4⟩ := pm_bookLong h k2
      rw [k3] at z1
      obtain rfl := Option.some.inj z1
      rw [k1, ob_eq, if_pos rfl, if_neg (by rw [k2]; decide), z2, ob_eq]
      simp only [if_true]
      refine ⟨S, R', M2, ?_, rfl, z3, ⟨Mo_lineMany M, z4⟩, rfl⟩
      obtain ⟨fk, pl, z3, z3'⟩ := z3
      unfold f_X4_read_b46
      rw [if_neg z3.ne]
end
