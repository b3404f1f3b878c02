/-! BOOKS: reading an act -/
theorem pm_keep1 (M : MoT) {k : Nat} (hk : k < 160) : f_X12_keep M (zn k) 1 = some (1, Mo_s_line M (upd (Mo_line M) k (Mo_told M))) := by
  unfold f_X12_keep
  rw [if_neg n10, zb_zn hk (by omega), if_pos rfl, zl_eq, zn_nat (by omega)]; rfl
theorem pm_keep0 (M : MoT) (x : Int32) : f_X12_keep M x 0 = some (0, M) := by
  unfold f_X12_keep
  rw [if_pos rfl]; rfl
/-- an act told: both have it -/
def pActG (n most : Nat) (B : Nat → Nat) (D : pD) (i : Nat) (S : LgT) (M : MoT) (cl : Option (LgT × RdT)) (mo : Option (Int32 × MoT)) : Prop :=
  ∃ S' R' M' c x y, cl = some (S', R') ∧ mo = some (1, M') ∧ pG n most B R' M' ∧ pBb M' = pBb M ∧ c ≤ 4 ∧ (c = 0 → x < pD_np D ∧ pD_pl D x 0 = 2 ∧ 1 ≤ y ∧ y ≤ 40) ∧ (c = 1 → x ≤ 20) ∧ (c = 4 → x ≤ 99) ∧
  (Mo_line M' (4 * i) = zn c ∧ Mo_line M' (4 * i + 1) = Mo_line M (4 * i + 1) ∧ Mo_line M' (4 * i + 2) = zn x ∧ (c = 0 → Mo_line M' (4 * i + 3) = zn y) ∧ ∀ j, j < 4 * i → Mo_line M' j = Mo_line M j) ∧
  (Lg_rows S' (4 * i) = zn (c + 7) ∧ Lg_rows S' (4 * i + 1) = Lg_rows S (4 * i + 1) ∧ (c = 0 → Lg_rows S' (4 * i + 2) = zn x) ∧ (c ≠ 2 → c ≠ 3 → Lg_rows S' (4 * i + 3) = zn (if c = 0 then y else x)) ∧ ∀ j, j < 4 * i → Lg_rows S' j = Lg_rows S j) ∧
  Lg_verdict S' = Lg_verdict S ∧ Lg_lines S' = Lg_lines S
def pActB (S : LgT) (M : MoT) (cl : Option (LgT × RdT)) (mo : Option (Int32 × MoT)) : Prop :=
  ∃ S' R' M', cl = some (S', R') ∧ mo = some (0, M') ∧ pW R' M' ∧ pBb M' = pBb M ∧ Lg_verdict S' = Lg_verdict S ∧ Lg_lines S' = Lg_lines S
section
variable {n most : Nat} {B : Nat → Nat} {R : RdT} {M : MoT} {L : LdT} {D : pD}
/-- an act with a number alone -/
theorem q_bookNum {i c lo hi : Nat} (hi40 : i < 40) {S : LgT} {M1 : MoT} {R1 : RdT} (h : pG n most B R1 M1) (hb : pBb M1 = pBb M) (hl : Mo_line M1 = upd (Mo_line M) (4 * i) (zn c)) (hc : c = 1 ∧ lo = 0 ∧ hi = 20 ∨ c = 4 ∧ lo = 1 ∧ hi = 99) :
    pActG n most B D i S M ((f_X7_number R1 (zn lo) (zn hi)).bind fun q15 => if zb_in (zn (4 * i) + (3 : Int32)) 160 = true then zlet (Lg_s_rows (Lg_s_rows S (upd (Lg_rows S) (4 * i) (zn (c + 7)))) (upd (Lg_rows (Lg_s_rows S (upd (Lg_rows S) (4 * i) (zn (c + 7))))) (zn (4 * i) + (3 : Int32)).toNatClampNeg q15.1)) fun y17 => some (y17, q15.2) else none) ((f_X12_readNumber M1 (zn lo) (zn hi)).bind fun q11 => (f_X12_keep q11.2 (zn (4 * i) + (2 : Int32)) q11.1).bind fun q12 => if zb_bo q12.1 = true then some (q12.1, q12.2) else none) ∨
    pActB S M ((f_X7_number R1 (zn lo) (zn hi)).bind fun q15 => if zb_in (zn (4 * i) + (3 : Int32)) 160 = true then zlet (Lg_s_rows (Lg_s_rows S (upd (Lg_rows S) (4 * i) (zn (c + 7)))) (upd (Lg_rows (Lg_s_rows S (upd (Lg_rows S) (4 * i) (zn (c + 7))))) (zn (4 * i) + (3 : Int32)).toNatClampNeg q15.1)) fun y17 => some (y17, q15.2) else none) ((f_X12_readNumber M1 (zn lo) (zn hi)).bind fun q11 => (f_X12_keep q11.2 (zn (4 * i) + (2 : Int32)) q11.1).bind fun q12 => if zb_bo q12.1 = true then some (q12.1, q12.2) else none) := by
  rw [show zn (4 * i) + (3 : Int32) = zn (4 * i + 3) from zn_add _ 3, show zn (4 * i) + (2 : Int32) = zn (4 * i + 2) from zn_add _ 2, zb_zn (show 4 * i + 3 < 160 by omega) (by omega), zn_nat (show 4 * i + 3 < 2147483648 by omega)]
  rcases h.number (lo := lo) (hi := hi) (by omega) (by omega) with ⟨R2, M2, y, e1, e2, e3, e4, e5, e6, e7⟩ | ⟨R2, M2, e1, e2, e3, e4⟩
  · left
    rw [e1, e2, ob_eq, ob_eq]
    simp only [if_true]
    rw [zl_eq, pm_keep1 M2 (show 4 * i + 2 < 160 by omega), ob_eq]
    simp only [zb_bo1, if_true]
    have hl2 : Mo_line M2 = upd (Mo_line M) (4 * i) (zn c) := e4.line.trans hl
    refine ⟨_, R2, _, c, y, 0, rfl, rfl, e3.s_line _, (bb_line M2 _).trans (e4.bb.trans hb), by omega, fun q => by omega, fun q => by omega, fun q => by omega, ⟨?_, ?_, ?_, fun q => by omega, fun j hj => ?_⟩, ⟨?_, ?_, fun q => by omega, fun q1 q2 => ?_, fun j hj => ?_⟩, rfl, rfl⟩
    · show upd (Mo_line M2) (4 * i + 2) _ (4 * i) = _
      rw [pu_ne _ _ (by omega), hl2, pu_eq]
    · show upd (Mo_line M2) (4 * i + 2) _ (4 * i + 1) = _
      rw [pu_ne _ _ (by omega), hl2, pu_ne _ _ (by omega)]
    · show upd (Mo_line M2) (4 * i + 2) _ (4 * i + 2) = _
      rw [pu_eq]; exact e7
    · show upd (Mo_line M2) (4 * i + 2) _ j = _
      rw [pu_ne _ _ (by omega), hl2, pu_ne _ _ (by omega)]
    · show upd (upd (Lg_rows S) (4 * i) (zn (c + 7))) (4 * i + 3) _ (4 * i) = _
      rw [pu_ne _ _ (by omega), pu_eq]
    · show upd (upd (Lg_rows S) (4 * i) (zn (c + 7))) (4 * i + 3) _ (4 * i + 1) = _
      rw [pu_ne _ _ (by omega), pu_ne _ _ (by omega)]
    · show upd (upd (Lg_rows S) (4 * i) (zn (c + 7))) (4 * i + 3) _ (4 * i + 3) = _
      rw [pu_eq, if_neg (by omega)]
    · show upd (upd (Lg_rows S) (4 * i) (zn (c + 7))) (4 * i + 3) _ j = _
      rw [pu_ne _ _ (by omega), pu_ne _ _ (by omega)]
  · right
    rw [e1, e2, ob_eq, ob_eq]
    simp only [if_true]
    rw [zl_eq, pm_keep0, ob_eq]
    simp only [zb_bo0, if_true]
    exact ⟨_, R2, M2, rfl, rfl, e3, e4.bb.trans hb, rfl, rfl⟩
theorem q_bookAct (hv : pV D) (hc : pLc D L) (h : pG n most B R M) (hE : pEnB D L M) {i : Nat} (hi : i < 40) (S : LgT) (h0 : Mo_line M (4 * i + 2) = 0) :
    pActG n most B D i S M (f_X4_readAct S R L (zn (4 * i))) (f_X12_readManDoes M (zn (4 * i))) ∨ pActB S M (f_X4_readAct S R L (zn (4 * i))) (f_X12_readManDoes M (zn (4 * i))) := by
  have hnp := hv.np
  unfold f_X4_readAct
  rcases pm_findA h.2.1 (zn (4 * i)) with ⟨j, j1, j2, j3, j4, j5, j6⟩ | ⟨j1, j2⟩
  · rw [j6]
    unfold f_X12_readManDoes_b23
    have h2 : pG n most B R (Mo_s_line M (upd (Mo_line M) (4 * i) (zn (j - 6)))) := h.s_line _
    obtain ⟨R1, M1, a1, a2, a3, a4, a5⟩ := h2.adv (by rw [j4]; decide)
    have hl1 : Mo_line M1 = upd (Mo_line M) (4 * i) (zn (j - 6)) := a4.line
    have hb1 : pBb M1 = pBb M := a4.bb.trans (bb_line M _)
    have hE1 : pEnB D L M1 := hE.fr hb1
    rw [j3, if_neg (show ¬ zn (j + 1) < (7 : Int32) by rw [show (7 : Int32) = zn 7 from rfl, zn_lt (by omega) (by omega)]; omega), if_neg (show ¬ (11 : Int32) < zn (j + 1) by rw [show (11 : Int32) = zn 11 from rfl, zn_lt (by omega) (by omega)]; omega), if_neg (show ¬ (10 : Int32) < zn j by rw [show (10 : Int32) = zn 10 from rfl, zn_lt (by omega) (by omega)]; omega), show zn (4 * i) + (0 : Int32) = zn (4 * i) from zn_add _ 0, zb_zn (show 4 * i < 160 by omega) (by omega), if_pos rfl, if_pos rfl, zl_eq, zl_eq, zn_nat (show 4 * i < 2147483648 by omega), show zn j - (6 : Int32) = zn (j - 6) from zn_sub (b := 6) (by omega), a1, a2, ob_eq, ob_eq, if_pos rfl, hl1, pu_eq]
    have hj : j = 6 ∨ j = 7 ∨ j = 8 ∨ j = 9 ∨ j = 10 := by omega
    rcases hj with rfl | rfl | rfl | rfl | rfl
    · -- swears
      rw [if_pos (show zn (6 + 1) = (7 : Int32) from rfl), if_pos (show zn (6 - 6) = (0 : Int32) from rfl)]
      have b74 : ∀ (R2 : RdT) (x : Int32), ¬ Rd_fault R2 = 0 → f_X4_readAct_b74 (Lg_s_rows S (upd (Lg_rows S) (4 * i) (zn (6 + 1)))) R2 L (zn (4 * i)) x = some (Lg_s_rows S (upd (Lg_rows S) (4 * i) (zn (6 + 1))), R2) := fun R2 x q => by
        unfold f_X4_readAct_b74
        rw [if_neg q]
      rcases a3.portN hv hc hE1 with ⟨p, R2, M2, p1, p2, p3, p4, p5, p6, p7, p8⟩ | ⟨R2, M2, p1, p2, p3, p4⟩
      · rw [p3, p5, ob_eq, ob_eq]
        simp only
        rw [if_neg (show ¬ zn p = (-1 : Int32) by show ¬ zn p = zm; rw [zm_eq (by omega)]; exact id), pc_isPort1 hv hc p1, if_pos p2, ob_eq, if_neg n10]
        unfold f_X4_readAct_b74
        rw [if_pos a3.2.2.1, show zn (4 * i) + (2 : Int32) = zn (4 * i + 2) from zn_add _ 2, show zn (4 * i) + (3 : Int32) = zn (4 * i + 3) from zn_add _ 3, zb_zn (show 4 * i + 2 < 160 by omega) (by omega), zb_zn (show 4 * i + 3 < 160 by omega) (by omega), if_pos rfl, zl_eq, p4, ob_eq, zn_nat (show 4 * i + 2 < 2147483648 by omega), zn_nat (show 4 * i + 3 < 2147483648 by omega), pm_keep1 M2 (show 4 * i + 2 < 160 by omega), ob_eq]
        simp only [if_neg n10]
        have hl2 : Mo_line M2 = upd (Mo_line M) (4 * i) (zn (6 - 6)) := p7.line.trans hl1
        have h3 : pG n most B R2 (Mo_s_line M2 (upd (Mo_line M2) (4 * i + 2) (Mo_told M2))) := p6.s_line _
        have hb3 : pBb (Mo_s_line M2 (upd (Mo_line M2) (4 * i + 2) (Mo_told M2))) = pBb M := (bb_line M2 _).trans (p7.bb.trans hb1)
        rcases h3.number (lo := 1) (hi := 40) (by omega) (by omega) with ⟨R4, M4, y, e1, e2, e3, e4, e5, e6, e7⟩ | ⟨R4, M4, e1, e2, e3, e4⟩
        · left
          rw [show f_X7_number R2 1 40 = some (zn y, R4) from e1, show f_X12_readNumber (Mo_s_line M2 (upd (Mo_line M2) (4 * i + 2) (Mo_told M2))) 1 40 = some (1, M4) from e2, ob_eq, ob_eq]
          simp only [if_true]
          rw [zl_eq, pm_keep1 M4 (show 4 * i + 3 < 160 by omega), ob_eq]
          simp only [if_neg n10]
          have hl4 : Mo_line M4 = upd (Mo_line M2) (4 * i + 2) (Mo_told M2) := e4.line
          refine ⟨_, R4, _, 0, p, y, rfl, rfl, e3.s_line _, (bb_line M4 _).trans (e4.bb.trans hb3), by omega, fun _ => ⟨p1, p2, e5, e6⟩, fun q => by omega, fun q => by omega, ⟨?_, ?_, ?_, fun _ => ?_, fun j hj => ?_⟩, ⟨?_, ?_, fun _ => ?_, fun _ _ => ?_, fun j hj => ?_⟩, rfl, rfl⟩
          · show upd (Mo_line M4) (4 * i + 3) _ (4 * i) = _
            rw [pu_ne _ _ (by omega), hl4, pu_ne _ _ (by omega), hl2, pu_eq]
          · show upd (Mo_line M4) (4 * i + 3) _ (4 * i + 1) = _
            rw [pu_ne _ _ (by omega), hl4, pu_ne _ _ (by omega), hl2, pu_ne _ _ (by omega)]
          · show upd (Mo_line M4) (4 * i + 3) _ (4 * i + 2) = _
            rw [pu_ne _ _ (by omega), hl4, pu_eq]; exact p8
          · show upd (Mo_line M4) (4 * i + 3) _ (4 * i + 3) = _
            rw [pu_eq]; exact e7
          · show upd (Mo_line M4) (4 * i + 3) _ j = _
            rw [pu_ne _ _ (by omega), hl4, pu_ne _ _ (by omega), hl2, pu_ne _ _ (by omega)]
          · show upd (upd (upd (Lg_rows S) (4 * i) (zn (6 + 1))) (4 * i + 2) (zn p)) (4 * i + 3) _ (4 * i) = _
            rw [pu_ne _ _ (by omega), pu_ne _ _ (by omega), pu_eq]
          · show upd (upd (upd (Lg_rows S) (4 * i) (zn (6 + 1))) (4 * i + 2) (zn p)) (4 * i + 3) _ (4 * i + 1) = _
            rw [pu_ne _ _ (by omega), pu_ne _ _ (by omega), pu_ne _ _ (by omega)]
          · show upd (upd (upd (Lg_rows S) (4 * i) (zn (6 + 1))) (4 * i + 2) (zn p)) (4 * i + 3) _ (4 * i + 2) = _
            rw [pu_ne _ _ (by omega), pu_eq]
          · show upd (upd (upd (Lg_rows S) (4 * i) (zn (6 + 1))) (4 * i + 2) (zn p)) (4 * i + 3) _ (4 * i + 3) = _
            rw [pu_eq, if_pos rfl]
          · show upd (upd (upd (Lg_rows S) (4 * i) (zn (6 + 1))) (4 * i + 2) (zn p)) (4 * i + 3) _ j = _
            rw [pu_ne _ _ (by omega), pu_ne _ _ (by omega), pu_ne _ _ (by omega)]
        · right
          rw [show f_X7_number R2 1 40 = some (zn 1, R4) from e1, show f_X12_readNumber (Mo_s_line M2 (upd (Mo_line M2) (4 * i + 2) (Mo_told M2))) 1 40 = some (0, M4) from e2, ob_eq, ob_eq]
          simp only [if_true]
          rw [zl_eq, pm_keep0, ob_eq]
          simp only [if_true]
          unfold f_X12_readManDoes_b123
          exact ⟨_, R4, M4, rfl, rfl, e3, e4.bb.trans hb3, rfl, rfl⟩
      · right
        have hne : ¬ Rd_fault R2 = 0 := by obtain ⟨fk, pl, w1, -⟩ := p3; exact w1.ne
        rw [p2, ob_eq]
        simp only
        rw [pm_keep0, ob_eq]
        simp only [if_true]
        unfold f_X12_readManDoes_b123
        rcases p1 with p1 | ⟨p, q1, q2, q3, q4⟩
        · rw [p1, ob_eq]
          simp only [if_true]
          rw [b74 _ _ hne]
          exact ⟨_, R2, M2, rfl, rfl, p3, p4.bb.trans hb1, rfl, rfl⟩
        · rw [q3, ob_eq]
          simp only
          rw [if_neg (show ¬ zn p = (-1 : Int32) by show ¬ zn p = zm; rw [zm_eq (by omega)]; exact id), pc_isPort1 hv hc q1, if_neg q2, ob_eq, if_pos rfl, q4, ob_eq, b74 _ _ hne]
          exact ⟨_, R2, M2, rfl, rfl, p3, p4.bb.trans hb1, rfl, rfl⟩
    · -- orders
      rw [if_neg (show ¬ zn (7 + 1) = (7 : Int32) by decide), if_pos (show zn (7 + 1) = (8 : Int32) from rfl), if_neg (show ¬ zn (7 - 6) = (0 : Int32) by decide), if_pos (show zn (7 - 6) = (1 : Int32) from rfl)]
      exact q_bookNum (D := D) (M := M) (S := S) (c := 1) (lo := 0) (hi := 20) hi a3 hb1 hl1 (Or.inl ⟨rfl, rfl, rfl⟩)
    · -- slips
      rw [if_neg (show ¬ zn (8 + 1) = (7 : Int32) by decide), if_neg (show ¬ zn (8 + 1) = (8 : Int32) by decide), if_neg (show ¬ zn (8 + 1) = (11 : Int32) by decide), if_neg (show ¬ zn (8 - 6) = (0 : Int32) by decide), if_neg (show ¬ zn (8 - 6) = (1 : Int32) by decide), if_pos (show zn (8 - 6) = (2 : Int32) from rfl)]
      left
      refine ⟨_, R1, M1, 2, 0, 0, rfl, rfl, a3, hb1, by omega, fun q => by omega, fun q => by omega, fun q => by omega, ⟨?_, ?_, ?_, fun q => by omega, fun j hj => ?_⟩, ⟨?_, ?_, fun q => by omega, fun q => by omega, fun j hj => ?_⟩, rfl, rfl⟩
      · rw [hl1, pu_eq]
      · rw [hl1, pu_ne _ _ (by omega)]
      · rw [hl1, pu_ne _ _ (by omega), h0]; rfl
      · rw [hl1, pu_ne _ _ (by omega)]
      · exact pu_eq _ _ _
      · exact pu_ne _ _ (by omega)
      · exact pu_ne _ _ (by omega)
    · -- enters
      rw [if_neg (show ¬ zn (9 + 1) = (7 : Int32) by decide), if_neg (show ¬ zn (9 + 1) = (8 : Int32) by decide), if_neg (show ¬ zn (9 + 1) = (11 : Int32) by decide), if_neg (show ¬ zn (9 - 6) = (0 : Int32) by decide), if_neg (show ¬ zn (9 - 6) = (1 : Int32) by decide), if_neg (show ¬ zn (9 - 6) = (2 : Int32) by decide), if_pos (show zn (9 - 6) = (3 : Int32) from rfl)]
      left
      refine ⟨_, R1, M1, 3, 0, 0, rfl, rfl, a3, hb1, by omega, fun q => by omega, fun q => by omega, fun q => by omega, ⟨?_, ?_, ?_, fun q => by omega, fun j hj => ?_⟩, ⟨?_, ?_, fun q => by omega, fun _ q => by omega, fun j hj => ?_⟩, rfl, rfl⟩
      · rw [hl1, pu_eq]
      · rw [hl1, pu_ne _ _ (by omega)]
      · rw [hl1, pu_ne _ _ (by omega), h0]; rfl
      · rw [hl1, pu_ne _ _ (by omega)]
      · exact pu_eq _ _ _
      · exact pu_ne _ _ (by omega)
      · exact pu_ne _ _ (by omega)
    · -- gets
      rw [if_neg (show ¬ zn (10 + 1) = (7 : Int32) by decide), if_neg (show ¬ zn (10 + 1) = (8 : Int32) by decide), if_pos (show zn (10 + 1) = (11 : Int32) from rfl), if_neg (show ¬ zn (10 - 6) = (0 : Int32) by decide), if_neg (show ¬ zn (10 - 6) = (1 : Int32) by decide), if_neg (show ¬ zn (10 - 6) = (2 : Int32) by decide), if_neg (show ¬ zn (10 - 6) = (3 : Int32) by decide), if_pos (show zn (10 - 6) = (4 : Int32) from rfl)]
      exact q_bookNum (D := D) (M := M) (S := S) (c := 4) (lo := 1) (hi := 99) hi a3 hb1 hl1 (Or.inr ⟨rfl, rfl, rfl⟩)
  · right
    rw [j2]
    unfold f_X12_readManDoes_b23
    obtain ⟨R', M', b1, b2, b3, b4⟩ := h.bad (k := 1) (by omega) (by omega) (Or.inl rfl)
    rw [if_pos (show (10 : Int32) < zn 11 by decide), pm_badB (k := 1) b2, show f_X7_fail R 1 = some R' from b1, ob_eq]
    rcases j1 with j1 | j1
    · rw [if_pos j1]
      exact ⟨S, R', M', rfl, rfl, b3, b4.bb, rfl, rfl⟩
    · rw [if_pos j1, ite_self]
      exact ⟨S, R', M', rfl, rfl, b3, b4.bb, rfl, rfl⟩
end
