/-! SENTENCES: and, or -/
section
variable {n most : Nat} {B : Nat → Nat} {L : LdT} {D : pD} {dp : Nat} {m1 m2 m3 m4 m5 : MoT → Option (Int32 × MoT)} {c1 c2 c3 : PhT → RdT → LdT → Int32 → Option (PhT × RdT)}
/-- the pieces joined so far -/
theorem q_and_loop (hIn : pRdOk n most B D L dp c3 m3) {M0 : MoT} {ko0 so0 vo0 : Nat → Nat} {p0 o0 : Nat} (hp0 : p0 ≤ 2 * o0) : ∀ (e : Nat) {k f1 f2 p o t : Nat} {R : RdT} {M : MoT} {P : PhT} {ko so vo : Nat → Nat} {d : pF → Nat → Bool}, 20 ≤ o + e → e + 2 ≤ f1 → e + 1 ≤ f2 → pEnv D L M → pJ n most B R M P ko so vo p o dp → p + 1 + 2 * o0 ≤ p0 + 2 * o → o0 + 1 + k ≤ o → p0 < p → (∀ i, i < p0 → ko i = ko0 i ∧ so i = so0 i ∧ vo i = vo0 i) → (∀ j, j < 4 * p0 → Mo_node M j = Mo_node M0 j) → pSgm D ko so vo p0 p d → t < p → pNd D (Mo_node M) p t d → pBl M = pBl M0 →
    pGood n most B D M0 ko0 so0 vo0 p0 o0 dp (f_B_X5_readAll_L10 c1 c2 c3 L f1 P R (zn (dp + 1)) (zn k)) (f_B_X12_readAnd_L14 m1 m2 m3 m4 m5 f2 M (zn t)) ∨ pBad3 M0 (f_B_X5_readAll_L10 c1 c2 c3 L f1 P R (zn (dp + 1)) (zn k)) (f_B_X12_readAnd_L14 m1 m2 m3 m4 m5 f2 M (zn t)) := by
  intro e
  induction e with
  | zero =>
    intro k f1 f2 p o t R M P ko so vo d h1 h2 h3 hE hJ hpo hk hpp hco hno hsg ht hnd hbl
    have h20' := hJ.2.1.2.1
    cases f1 with
    | zero => omega
    | succ f1 =>
    cases f2 with
    | zero => omega
    | succ f2 =>
      have hG := hJ.1
      show pGood n most B D M0 ko0 so0 vo0 p0 o0 dp (f_B_X5_readAll_H10 c1 c2 c3 P R L (f_B_X5_readAll_L10 c1 c2 c3 L f1) (zn (dp + 1)) (zn k)) (f_B_X12_readAnd_H14 m1 m2 m3 m4 m5 M (f_B_X12_readAnd_L14 m1 m2 m3 m4 m5 f2) (zn t)) ∨ pBad3 M0 (f_B_X5_readAll_H10 c1 c2 c3 P R L (f_B_X5_readAll_L10 c1 c2 c3 L f1) (zn (dp + 1)) (zn k)) (f_B_X12_readAnd_H14 m1 m2 m3 m4 m5 M (f_B_X12_readAnd_L14 m1 m2 m3 m4 m5 f2) (zn t))
      unfold f_B_X5_readAll_H10 f_B_X12_readAnd_H14
      rw [if_pos (show zn k < (20 : Int32) by rw [zn_l20, zn_lt (by omega) (by omega)]; omega), if_pos hG.2.2.1]
      rcases tk_word hG.2.1 (j := 13) (by omega) with ⟨w1, w2, w3, w4⟩ | ⟨w1, w2⟩
      · have w1' : Rd_key R = 14 := w1
        obtain ⟨R2, M2, a1, a2, a3, a4, a5⟩ := hG.adv (by rw [w2]; decide)
        obtain ⟨e1, e2, e3, e4, e5⟩ := a4.nd
        rw [if_pos w1', show f_X12_isWord M 13 = some 1 from w4, ob_eq, if_neg n10, a1, a2, ob_eq, ob_eq]
        rcases hIn R2 M2 P ko so vo p o (hE.fr a4.bl) ⟨a3, ⟨hJ.2.1.1, hJ.2.1.2.1, e3.trans hJ.2.1.2.2⟩, hJ.2.2.1, hJ.2.2.2.1, hJ.2.2.2.2.1, e2.trans hJ.2.2.2.2.2.1, e4.trans hJ.2.2.2.2.2.2⟩ with ⟨P', R', M', ko', so', vo', p', o', d', t', g1, g2, g3, g4, g5, g6, g7, g8, g9, g10, g11, g12, g13⟩ | ⟨P', R', M', p', g1, g2, g3, g4, g5, g6⟩
        · have := g3.2.1.2.1; omega
        · right
          obtain ⟨P2, p2, b1, b2, b3⟩ := pc_addW g4 g5 14 0 0
          have hne : ¬ Rd_fault R' = 0 := by obtain ⟨fk, pl, w1, -⟩ := g3; exact w1.ne
          rw [g1, g2, ob_eq, ob_eq]
          simp only
          rw [b1, ob_eq, if_pos trivial]
          refine pBad3.of (P' := P2) (R' := R') ?_ rfl g3 b2 b3 ((g6.trans a4.bl).trans hbl)
          cases f1 with
          | zero => omega
          | succ f1 =>
            show f_B_X5_readAll_H10 c1 c2 c3 P2 R' L (f_B_X5_readAll_L10 c1 c2 c3 L f1) (zn (dp + 1)) (zn k + 1) = _
            unfold f_B_X5_readAll_H10
            rw [if_neg hne, ite_self]
      · left
        have w1' : ¬ Rd_key R = 14 := w1
        rw [if_neg w1', show f_X12_isWord M 13 = some 0 from w2, ob_eq, if_pos rfl, zl_eq]
        exact ⟨P, R, _, ko, so, vo, p, o, d, t, rfl, rfl, ⟨hG.s_top _, ⟨hJ.2.1.1, hJ.2.1.2.1, by rw [g_onesMany_top]; exact hJ.2.1.2.2⟩, hJ.2.2.1, hJ.2.2.2.1, hJ.2.2.2.2.1, by rw [g_nodes_top]; exact hJ.2.2.2.2.2.1, by rw [g_within_top]; exact hJ.2.2.2.2.2.2⟩, by omega, by omega, hpp, hco, fun j hj => by rw [g_node_top]; exact hno j hj, hsg, ht, g_top_top _ _, by rw [g_node_top]; exact hnd, by rw [bl_top]; exact hbl⟩
  | succ e ih =>
    intro k f1 f2 p o t R M P ko so vo d h1 h2 h3 hE hJ hpo hk hpp hco hno hsg ht hnd hbl
    have h20' := hJ.2.1.2.1
    cases f1 with
    | zero => omega
    | succ f1 =>
    cases f2 with
    | zero => omega
    | succ f2 =>
      have hG := hJ.1
      show pGood n most B D M0 ko0 so0 vo0 p0 o0 dp (f_B_X5_readAll_H10 c1 c2 c3 P R L (f_B_X5_readAll_L10 c1 c2 c3 L f1) (zn (dp + 1)) (zn k)) (f_B_X12_readAnd_H14 m1 m2 m3 m4 m5 M (f_B_X12_readAnd_L14 m1 m2 m3 m4 m5 f2) (zn t)) ∨ pBad3 M0 (f_B_X5_readAll_H10 c1 c2 c3 P R L (f_B_X5_readAll_L10 c1 c2 c3 L f1) (zn (dp + 1)) (zn k)) (f_B_X12_readAnd_H14 m1 m2 m3 m4 m5 M (f_B_X12_readAnd_L14 m1 m2 m3 m4 m5 f2) (zn t))
      unfold f_B_X5_readAll_H10 f_B_X12_readAnd_H14
      rw [if_pos (show zn k < (20 : Int32) by rw [zn_l20, zn_lt (by omega) (by omega)]; omega), if_pos hG.2.2.1]
      rcases tk_word hG.2.1 (j := 13) (by omega) with ⟨w1, w2, w3, w4⟩ | ⟨w1, w2⟩
      · have w1' : Rd_key R = 14 := w1
        obtain ⟨R2, M2, a1, a2, a3, a4, a5⟩ := hG.adv (by rw [w2]; decide)
        obtain ⟨e1, e2, e3, e4, e5⟩ := a4.nd
        rw [if_pos w1', show f_X12_isWord M 13 = some 1 from w4, ob_eq, if_neg n10, a1, a2, ob_eq, ob_eq]
        rcases hIn R2 M2 P ko so vo p o (hE.fr a4.bl) ⟨a3, ⟨hJ.2.1.1, hJ.2.1.2.1, e3.trans hJ.2.1.2.2⟩, hJ.2.2.1, hJ.2.2.2.1, hJ.2.2.2.2.1, e2.trans hJ.2.2.2.2.2.1, e4.trans hJ.2.2.2.2.2.2⟩ with ⟨P', R', M', ko', so', vo', p', o', d', t', g1, g2, g3, g4, g5, g6, g7, g8, g9, g10, g11, g12, g13⟩ | ⟨P', R', M', p', g1, g2, g3, g4, g5, g6⟩
        · obtain ⟨P2, nd, b1, b2, b3, v1, v2, v3, v4, v5⟩ := pJ_add g3 (by omega) (c := 2) (s := 0) (v := 0) ⟨by omega, by omega⟩ (by omega) (by omega) 2 (zn t) (zn t') 0
          have h20 := g3.2.1.2.1
          have h40 := g3.2.2.1.2.1
          rw [g1, g2, ob_eq, ob_eq]
          simp only
          rw [if_neg n10, g11, b2, ob_eq, show f_X5_add P' 14 0 0 = some P2 from b1, ob_eq, show zn k + 1 = zn (k + 1) from zn_add k 1]
          have hbl2 : pBl (Mo_s_nodes (Mo_s_node M' nd) (zn (p' + 1))) = pBl M0 := by rw [bl_nodes, bl_node]; exact (g13.trans a4.bl).trans hbl
          have hbl3 : pBl (Mo_s_nodes (Mo_s_node M' nd) (zn (p' + 1))) = pBl M := by rw [bl_nodes, bl_node]; exact g13.trans a4.bl
          have nn : Mo_node (Mo_s_nodes (Mo_s_node M' nd) (zn (p' + 1))) = nd := by rw [g_node_nodes, g_node_node]
          refine ih (k := k + 1) (f1 := f1) (f2 := f2) (p := p' + 1) (o := o') (t := p') (by omega) (by omega) (by omega) (hE.fr hbl3) b3 (by omega) (by omega) (by omega) (fun i hi => ?_) (fun j hj => ?_) (d := fun F m => (d F m && d' F m)) ?_ (by omega) ?_ hbl2
          · rw [upN_ne _ _ (by omega), upN_ne _ _ (by omega), upN_ne _ _ (by omega)]
            obtain ⟨q1, q2, q3⟩ := g7 i (by omega)
            obtain ⟨q4, q5, q6⟩ := hco i hi
            exact ⟨q1.trans q4, q2.trans q5, q3.trans q6⟩
          · rw [nn, v5 j (by omega), g8 j (by omega), e1, hno j hj]
          · exact pSgm_and (pSgm_cg hsg (fun i hi => by rw [upN_ne _ _ (by omega), upN_ne _ _ (by omega), upN_ne _ _ (by omega)]; exact g7 i hi)) (pSgm_cg g9 (fun i hi => ⟨upN_ne _ _ (by omega), upN_ne _ _ (by omega), upN_ne _ _ (by omega)⟩)) (upN_eq _ _ _)
          · rw [nn]
            refine ⟨by omega, Or.inr (Or.inr (Or.inl ⟨t, t', d, d', by omega, g10, v1, v2, v3, ?_, pNd_cg (fun j hj => v5 j (by omega)) g12, fun _ _ => rfl⟩))⟩
            refine pNd_up (show p ≤ p' by omega) (pNd_cg (fun j hj => ?_) hnd)
            rw [v5 j (by omega), g8 j (by omega), e1]
        · right
          obtain ⟨P2, p2, b1, b2, b3⟩ := pc_addW g4 g5 14 0 0
          have hne : ¬ Rd_fault R' = 0 := by obtain ⟨fk, pl, w1, -⟩ := g3; exact w1.ne
          rw [g1, g2, ob_eq, ob_eq]
          simp only
          rw [b1, ob_eq, if_pos trivial]
          refine pBad3.of (P' := P2) (R' := R') ?_ rfl g3 b2 b3 ((g6.trans a4.bl).trans hbl)
          cases f1 with
          | zero => omega
          | succ f1 =>
            show f_B_X5_readAll_H10 c1 c2 c3 P2 R' L (f_B_X5_readAll_L10 c1 c2 c3 L f1) (zn (dp + 1)) (zn k + 1) = _
            unfold f_B_X5_readAll_H10
            rw [if_neg hne, ite_self]
      · left
        have w1' : ¬ Rd_key R = 14 := w1
        rw [if_neg w1', show f_X12_isWord M 13 = some 0 from w2, ob_eq, if_pos rfl, zl_eq]
        exact ⟨P, R, _, ko, so, vo, p, o, d, t, rfl, rfl, ⟨hG.s_top _, ⟨hJ.2.1.1, hJ.2.1.2.1, by rw [g_onesMany_top]; exact hJ.2.1.2.2⟩, hJ.2.2.1, hJ.2.2.2.1, hJ.2.2.2.2.1, by rw [g_nodes_top]; exact hJ.2.2.2.2.2.1, by rw [g_within_top]; exact hJ.2.2.2.2.2.2⟩, by omega, by omega, hpp, hco, fun j hj => by rw [g_node_top]; exact hno j hj, hsg, ht, g_top_top _ _, by rw [g_node_top]; exact hnd, by rw [bl_top]; exact hbl⟩
theorem q_and (hIn : pRdOk n most B D L dp c3 m3) : pRdOk n most B D L dp (f_B_X5_readAll c1 c2 c3) (f_B_X12_readAnd m1 m2 m3 m4 m5) := by
  intro R M P ko so vo p o hE hJ
  unfold f_B_X5_readAll f_B_X12_readAnd
  have h40 := hJ.2.2.1.2.1
  rcases hIn R M P ko so vo p o hE hJ with ⟨P', R', M', ko', so', vo', p', o', d, t, g1, g2, g3, g4, g5, g6, g7, g8, g9, g10, g11, g12, g13⟩ | ⟨P', R', M', p', g1, g2, g3, g4, g5, g6⟩
  · rw [g1, g2, ob_eq, ob_eq]
    simp only
    rw [if_neg n10, g11]
    exact q_and_loop hIn hJ.2.2.2.2.1 20 (k := 0) (f1 := zFU) (f2 := zFU) (by omega) (zFU_ge (by omega)) (zFU_ge (by omega)) (hE.fr g13) g3 g4 (by omega) g6 g7 g8 g9 g10 g12 g13
  · right
    have hne : ¬ Rd_fault R' = 0 := by obtain ⟨fk, pl, w1, -⟩ := g3; exact w1.ne
    rw [g1, g2, ob_eq, ob_eq]
    simp only
    rw [if_pos trivial]
    refine pBad3.of (P' := P') (R' := R') ?_ rfl g3 g4 g5 g6
    show f_B_X5_readAll_H10 c1 c2 c3 P' R' L (f_B_X5_readAll_L10 c1 c2 c3 L 69999) (zn (dp + 1)) 0 = _
    unfold f_B_X5_readAll_H10
    rw [if_neg hne, ite_self]
/-- the pieces joined so far -/
theorem q_or_loop (hIn : pRdOk n most B D L dp c2 m2) {M0 : MoT} {ko0 so0 vo0 : Nat → Nat} {p0 o0 : Nat} (hp0 : p0 ≤ 2 * o0) : ∀ (e : Nat) {k f1 f2 p o t : Nat} {R : RdT} {M : MoT} {P : PhT} {ko so vo : Nat → Nat} {d : pF → Nat → Bool}, 20 ≤ o + e → e + 2 ≤ f1 → e + 1 ≤ f2 → pEnv D L M → pJ n most B R M P ko so vo p o dp → p + 1 + 2 * o0 ≤ p0 + 2 * o → o0 + 1 + k ≤ o → p0 < p → (∀ i, i < p0 → ko i = ko0 i ∧ so i = so0 i ∧ vo i = vo0 i) → (∀ j, j < 4 * p0 → Mo_node M j = Mo_node M0 j) → pSgm D ko so vo p0 p d → t < p → pNd D (Mo_node M) p t d → pBl M = pBl M0 →
    pGood n most B D M0 ko0 so0 vo0 p0 o0 dp (f_B_X5_readCond_L10 c1 c2 c3 L f1 P R (zn (dp + 1)) (zn k)) (f_B_X12_readOr_L14 m1 m2 m3 m4 m5 f2 M (zn t)) ∨ pBad3 M0 (f_B_X5_readCond_L10 c1 c2 c3 L f1 P R (zn (dp + 1)) (zn k)) (f_B_X12_readOr_L14 m1 m2 m3 m4 m5 f2 M (zn t)) := by
  intro e
  induction e with
  | zero =>
    intro k f1 f2 p o t R M P ko so vo d h1 h2 h3 hE hJ hpo hk hpp hco hno hsg ht hnd hbl
    have h20' := hJ.2.1.2.1
    cases f1 with
    | zero => omega
    | succ f1 =>
    cases f2 with
    | zero => omega
    | succ f2 =>
      have hG := hJ.1
      show pGood n most B D M0 ko0 so0 vo0 p0 o0 dp (f_B_X5_readCond_H10 c1 c2 c3 P R L (f_B_X5_readCond_L10 c1 c2 c3 L f1) (zn (dp + 1)) (zn k)) (f_B_X12_readOr_H14 m1 m2 m3 m4 m5 M (f_B_X12_readOr_L14 m1 m2 m3 m4 m5 f2) (zn t)) ∨ pBad3 M0 (f_B_X5_readCond_H10 c1 c2 c3 P R L (f_B_X5_readCond_L10 c1 c2 c3 L f1) (zn (dp + 1)) (zn k)) (f_B_X12_readOr_H14 m1 m2 m3 m4 m5 M (f_B_X12_readOr_L14 m1 m2 m3 m4 m5 f2) (zn t))
      unfold f_B_X5_readCond_H10 f_B_X12_readOr_H14
      rw [if_pos (show zn k < (20 : Int32) by rw [zn_l20, zn_lt (by omega) (by omega)]; omega), if_pos hG.2.2.1]
      rcases tk_word hG.2.1 (j := 12) (by omega) with ⟨w1, w2, w3, w4⟩ | ⟨w1, w2⟩
      · have w1' : Rd_key R = 13 := w1
        obtain ⟨R2, M2, a1, a2, a3, a4, a5⟩ := hG.adv (by rw [w2]; decide)
        obtain ⟨e1, e2, e3, e4, e5⟩ := a4.nd
        rw [if_pos w1', show f_X12_isWord M 12 = some 1 from w4, ob_eq, if_neg n10, a1, a2, ob_eq, ob_eq]
        rcases hIn R2 M2 P ko so vo p o (hE.fr a4.bl) ⟨a3, ⟨hJ.2.1.1, hJ.2.1.2.1, e3.trans hJ.2.1.2.2⟩, hJ.2.2.1, hJ.2.2.2.1, hJ.2.2.2.2.1, e2.trans hJ.2.2.2.2.2.1, e4.trans hJ.2.2.2.2.2.2⟩ with ⟨P', R', M', ko', so', vo', p', o', d', t', g1, g2, g3, g4, g5, g6, g7, g8, g9, g10, g11, g12, g13⟩ | ⟨P', R', M', p', g1, g2, g3, g4, g5, g6⟩
        · have := g3.2.1.2.1; omega
        · right
          obtain ⟨P2, p2, b1, b2, b3⟩ := pc_addW g4 g5 13 0 0
          have hne : ¬ Rd_fault R' = 0 := by obtain ⟨fk, pl, w1, -⟩ := g3; exact w1.ne
          rw [g1, g2, ob_eq, ob_eq]
          simp only
          rw [b1, ob_eq, if_pos trivial]
          refine pBad3.of (P' := P2) (R' := R') ?_ rfl g3 b2 b3 ((g6.trans a4.bl).trans hbl)
          cases f1 with
          | zero => omega
          | succ f1 =>
            show f_B_X5_readCond_H10 c1 c2 c3 P2 R' L (f_B_X5_readCond_L10 c1 c2 c3 L f1) (zn (dp + 1)) (zn k + 1) = _
            unfold f_B_X5_readCond_H10
            rw [if_neg hne, ite_self]
      · left
        have w1' : ¬ Rd_key R = 13 := w1
        rw [if_neg w1', show f_X12_isWord M 12 = some 0 from w2, ob_eq, if_pos rfl, zl_eq]
        exact ⟨P, R, _, ko, so, vo, p, o, d, t, rfl, rfl, ⟨hG.s_top _, ⟨hJ.2.1.1, hJ.2.1.2.1, by rw [g_onesMany_top]; exact hJ.2.1.2.2⟩, hJ.2.2.1, hJ.2.2.2.1, hJ.2.2.2.2.1, by rw [g_nodes_top]; exact hJ.2.2.2.2.2.1, by rw [g_within_top]; exact hJ.2.2.2.2.2.2⟩, by omega, by omega, hpp, hco, fun j hj => by rw [g_node_top]; exact hno j hj, hsg, ht, g_top_top _ _, by rw [g_node_top]; exact hnd, by rw [bl_top]; exact hbl⟩
  | succ e ih =>
    intro k f1 f2 p o t R M P ko so vo d h1 h2 h3 hE hJ hpo hk hpp hco hno hsg ht hnd hbl
    have h20' := hJ.2.1.2.1
    cases f1 with
    | zero => omega
    | succ f1 =>
    cases f2 with
    | zero => omega
    | succ f2 =>
      have hG := hJ.1
      show pGood n most B D M0 ko0 so0 vo0 p0 o0 dp (f_B_X5_readCond_H10 c1 c2 c3 P R L (f_B_X5_readCond_L10 c1 c2 c3 L f1) (zn (dp + 1)) (zn k)) (f_B_X12_readOr_H14 m1 m2 m3 m4 m5 M (f_B_X12_readOr_L14 m1 m2 m3 m4 m5 f2) (zn t)) ∨ pBad3 M0 (f_B_X5_readCond_H10 c1 c2 c3 P R L (f_B_X5_readCond_L10 c1 c2 c3 L f1) (zn (dp + 1)) (zn k)) (f_B_X12_readOr_H14 m1 m2 m3 m4 m5 M (f_B_X12_readOr_L14 m1 m2 m3 m4 m5 f2) (zn t))
      unfold f_B_X5_readCond_H10 f_B_X12_readOr_H14
      rw [if_pos (show zn k < (20 : Int32) by rw [zn_l20, zn_lt (by omega) (by omega)]; omega), if_pos hG.2.2.1]
      rcases tk_word hG.2.1 (j := 12) (by omega) with ⟨w1, w2, w3, w4⟩ | ⟨w1, w2⟩
      · have w1' : Rd_key R = 13 := w1
        obtain ⟨R2, M2, a1, a2, a3, a4, a5⟩ := hG.adv (by rw [w2]; decide)
        obtain ⟨e1, e2, e3, e4, e5⟩ := a4.nd
        rw [if_pos w1', show f_X12_isWord M 12 = some 1 from w4, ob_eq, if_neg n10, a1, a2, ob_eq, ob_eq]
        rcases hIn R2 M2 P ko so vo p o (hE.fr a4.bl) ⟨a3, ⟨hJ.2.1.1, hJ.2.1.2.1, e3.trans hJ.2.1.2.2⟩, hJ.2.2.1, hJ.2.2.2.1, hJ.2.2.2.2.1, e2.trans hJ.2.2.2.2.2.1, e4.trans hJ.2.2.2.2.2.2⟩ with ⟨P', R', M', ko', so', vo', p', o', d', t', g1, g2, g3, g4, g5, g6, g7, g8, g9, g10, g11, g12, g13⟩ | ⟨P', R', M', p', g1, g2, g3, g4, g5, g6⟩
        · obtain ⟨P2, nd, b1, b2, b3, v1, v2, v3, v4, v5⟩ := pJ_add g3 (by omega) (c := 3) (s := 0) (v := 0) ⟨by omega, by omega⟩ (by omega) (by omega) 3 (zn t) (zn t') 0
          have h20 := g3.2.1.2.1
          have h40 := g3.2.2.1.2.1
          rw [g1, g2, ob_eq, ob_eq]
          simp only
          rw [if_neg n10, g11, b2, ob_eq, show f_X5_add P' 13 0 0 = some P2 from b1, ob_eq, show zn k + 1 = zn (k + 1) from zn_add k 1]
          have hbl2 : pBl (Mo_s_nodes (Mo_s_node M' nd) (zn (p' + 1))) = pBl M0 := by rw [bl_nodes, bl_node]; exact (g13.trans a4.bl).trans hbl
          have hbl3 : pBl (Mo_s_nodes (Mo_s_node M' nd) (zn (p' + 1))) = pBl M := by rw [bl_nodes, bl_node]; exact g13.trans a4.bl
          have nn : Mo_node (Mo_s_nodes (Mo_s_node M' nd) (zn (p' + 1))) = nd := by rw [g_node_nodes, g_node_node]
          refine ih (k := k + 1) (f1 := f1) (f2 := f2) (p := p' + 1) (o := o') (t := p') (by omega) (by omega) (by omega) (hE.fr hbl3) b3 (by omega) (by omega) (by omega) (fun i hi => ?_) (fun j hj => ?_) (d := fun F m => (d F m || d' F m)) ?_ (by omega) ?_ hbl2
          · rw [upN_ne _ _ (by omega), upN_ne _ _ (by omega), upN_ne _ _ (by omega)]
            obtain ⟨q1, q2, q3⟩ := g7 i (by omega)
            obtain ⟨q4, q5, q6⟩ := hco i hi
            exact ⟨q1.trans q4, q2.trans q5, q3.trans q6⟩
          · rw [nn, v5 j (by omega), g8 j (by omega), e1, hno j hj]
          · exact pSgm_or (pSgm_cg hsg (fun i hi => by rw [upN_ne _ _ (by omega), upN_ne _ _ (by omega), upN_ne _ _ (by omega)]; exact g7 i hi)) (pSgm_cg g9 (fun i hi => ⟨upN_ne _ _ (by omega), upN_ne _ _ (by omega), upN_ne _ _ (by omega)⟩)) (upN_eq _ _ _)
          · rw [nn]
            refine ⟨by omega, Or.inr (Or.inr (Or.inr ⟨t, t', d, d', by omega, g10, v1, v2, v3, ?_, pNd_cg (fun j hj => v5 j (by omega)) g12, fun _ _ => rfl⟩))⟩
            refine pNd_up (show p ≤ p' by omega) (pNd_cg (fun j hj => ?_) hnd)
            rw [v5 j (by omega), g8 j (by omega), e1]
        · right
          obtain ⟨P2, p2, b1, b2, b3⟩ := pc_addW g4 g5 13 0 0
          have hne : ¬ Rd_fault R' = 0 := by obtain ⟨fk, pl, w1, -⟩ := g3; exact w1.ne
          rw [g1, g2, ob_eq, ob_eq]
          simp only
          rw [b1, ob_eq, if_pos trivial]
          refine pBad3.of (P' := P2) (R' := R') ?_ rfl g3 b2 b3 ((g6.trans a4.bl).trans hbl)
          cases f1 with
          | zero => omega
          | succ f1 =>
            show f_B_X5_readCond_H10 c1 c2 c3 P2 R' L (f_B_X5_readCond_L10 c1 c2 c3 L f1) (zn (dp + 1)) (zn k + 1) = _
            unfold f_B_X5_readCond_H10
            rw [if_neg hne, ite_self]
      · left
        have w1' : ¬ Rd_key R = 13 := w1
        rw [if_neg w1', show f_X12_isWord M 12 = some 0 from w2, ob_eq, if_pos rfl, zl_eq]
        exact ⟨P, R, _, ko, so, vo, p, o, d, t, rfl, rfl, ⟨hG.s_top _, ⟨hJ.2.1.1, hJ.2.1.2.1, by rw [g_onesMany_top]; exact hJ.2.1.2.2⟩, hJ.2.2.1, hJ.2.2.2.1, hJ.2.2.2.2.1, by rw [g_nodes_top]; exact hJ.2.2.2.2.2.1, by rw [g_within_top]; exact hJ.2.2.2.2.2.2⟩, by omega, by omega, hpp, hco, fun j hj => by rw [g_node_top]; exact hno j hj, hsg, ht, g_top_top _ _, by rw [g_node_top]; exact hnd, by rw [bl_top]; exact hbl⟩
theorem q_or (hIn : pRdOk n most B D L dp c2 m2) : pRdOk n most B D L dp (f_B_X5_readCond c1 c2 c3) (f_B_X12_readOr m1 m2 m3 m4 m5) := by
  intro R M P ko so vo p o hE hJ
  unfold f_B_X5_readCond f_B_X12_readOr
  have h40 := hJ.2.2.1.2.1
  rcases hIn R M P ko so vo p o hE hJ with ⟨P', R', M', ko', so', vo', p', o', d, t, g1, g2, g3, g4, g5, g6, g7, g8, g9, g10, g11, g12, g13⟩ | ⟨P', R', M', p', g1, g2, g3, g4, g5, g6⟩
  · rw [g1, g2, ob_eq, ob_eq]
    simp only
    rw [if_neg n10, g11]
    exact q_or_loop hIn hJ.2.2.2.2.1 20 (k := 0) (f1 := zFU) (f2 := zFU) (by omega) (zFU_ge (by omega)) (zFU_ge (by omega)) (hE.fr g13) g3 g4 (by omega) g6 g7 g8 g9 g10 g12 g13
  · right
    have hne : ¬ Rd_fault R' = 0 := by obtain ⟨fk, pl, w1, -⟩ := g3; exact w1.ne
    rw [g1, g2, ob_eq, ob_eq]
    simp only
    rw [if_pos trivial]
    refine pBad3.of (P' := P') (R' := R') ?_ rfl g3 g4 g5 g6
    show f_B_X5_readCond_H10 c1 c2 c3 P' R' L (f_B_X5_readCond_L10 c1 c2 c3 L 69999) (zn (dp + 1)) 0 = _
    unfold f_B_X5_readCond_H10
    rw [if_neg hne, ite_self]
/-- all of it, to any depth -/
theorem q_depth (n most : Nat) (B : Nat → Nat) (D : pD) (L : LdT) : ∀ (e : Nat), e ≤ 8 → (∀ c d, 1 + 3 * e ≤ c → 2 + 4 * e ≤ d → pRdOk n most B D L (8 - e) (fG_X5_readCond c).2.2 (fG_X12_readOr d).2.2.1) ∧ (∀ c d, 3 + 3 * e ≤ c → 4 + 4 * e ≤ d → pRdOk n most B D L (8 - e) (fG_X5_readCond c).1 (fG_X12_readOr d).1) := by
  have step : ∀ e, (∀ c d, 1 + 3 * e ≤ c → 2 + 4 * e ≤ d → pRdOk n most B D L (8 - e) (fG_X5_readCond c).2.2 (fG_X12_readOr d).2.2.1) → ∀ c d, 3 + 3 * e ≤ c → 4 + 4 * e ≤ d → pRdOk n most B D L (8 - e) (fG_X5_readCond c).1 (fG_X12_readOr d).1 := by
    intro e h c d hc hd
    obtain ⟨c, rfl⟩ : ∃ c', c = c' + 2 := ⟨c - 2, by omega⟩
    obtain ⟨d, rfl⟩ : ∃ d', d = d' + 2 := ⟨d - 2, by omega⟩
    exact q_or (q_and (h c d (by omega) (by omega)))
  intro e
  induction e with
  | zero =>
    intro _
    have h1 : ∀ c d, 1 + 3 * 0 ≤ c → 2 + 4 * 0 ≤ d → pRdOk n most B D L (8 - 0) (fG_X5_readCond c).2.2 (fG_X12_readOr d).2.2.1 := by
      intro c d hc hd
      obtain ⟨c, rfl⟩ : ∃ c', c = c' + 1 := ⟨c - 1, by omega⟩
      obtain ⟨d, rfl⟩ : ∃ d', d = d' + 2 := ⟨d - 2, by omega⟩
      exact q_one (m1 := (fG_X12_readOr d).1) (m2 := (fG_X12_readOr d).2.1) (m4 := (fG_X12_readOr d).2.2.2.1) (m5 := (fG_X12_readOr d).2.2.2.2) (b2 := (fG_X12_readOr d).2.1) (b3 := (fG_X12_readOr d).2.2.1) (b4 := (fG_X12_readOr d).2.2.2.1) (b5 := (fG_X12_readOr d).2.2.2.2) (by omega) (fun q => by omega) (fun q => by omega)
    exact ⟨h1, step 0 h1⟩
  | succ e ih =>
    intro he
    obtain ⟨i1, i2⟩ := ih (by omega)
    have h1 : ∀ c d, 1 + 3 * (e + 1) ≤ c → 2 + 4 * (e + 1) ≤ d → pRdOk n most B D L (8 - (e + 1)) (fG_X5_readCond c).2.2 (fG_X12_readOr d).2.2.1 := by
      intro c d hc hd
      obtain ⟨c, rfl⟩ : ∃ c', c = c' + 1 := ⟨c - 1, by omega⟩
      obtain ⟨d, rfl⟩ : ∃ d', d = d' + 2 := ⟨d - 2, by omega⟩
      have e1 : 8 - (e + 1) + 1 = 8 - e := by omega
      exact q_one (m1 := (fG_X12_readOr d).1) (m2 := (fG_X12_readOr d).2.1) (m4 := (fG_X12_readOr d).2.2.2.1) (m5 := (fG_X12_readOr d).2.2.2.2) (b2 := (fG_X12_readOr d).2.1) (b3 := (fG_X12_readOr d).2.2.1) (b4 := (fG_X12_readOr d).2.2.2.1) (b5 := (fG_X12_readOr d).2.2.2.2) (by omega) (fun _ => by rw [e1]; exact i1 c d (by omega) (by omega)) (fun _ => by rw [e1]; exact i2 c d (by omega) (by omega))
    exact ⟨h1, step (e + 1) h1⟩
end
