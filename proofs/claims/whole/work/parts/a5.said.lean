/-! SENTENCES: ONE, the pieces -/
section
variable {n most : Nat} {B : Nat → Nat} {L : LdT} {D : pD} {dp : Nat} {r1 r2 r3 m1 m2 m3 m4 m5 b1 b2 b3 b4 b5 : MoT → Option (Int32 × MoT)} {c1 c2 c3 : PhT → RdT → LdT → Int32 → Option (PhT × RdT)}
theorem zb_bo0 : zb_bo 0 = true := by decide
theorem zb_bo1 : zb_bo 1 = true := by decide
/-- not ONE -/
theorem q_notOne {R : RdT} {M M0 : MoT} {P : PhT} {ko so vo : Nat → Nat} {p o : Nat} (hdp : dp < 8) (h1 : pRdOk n most B D L (dp + 1) c3 m3) (hE : pEnv D L M) (hJ : pJ n most B R M P ko so vo p (o + 1) (dp + 1)) (hp : p ≤ 2 * o) (hbl : pBl M = pBl M0) (hnd : ∀ j, j < 4 * p → Mo_node M j = Mo_node M0 j) :
    pGood n most B D M0 ko so vo p o dp ((c3 P R L (zn (dp + 2))).bind fun q4 => (f_X5_add q4.1 15 0 0).bind fun q5 => some (q5, q4.2)) ((f_B_X12_readNot m1 m2 m3 m4 m5 M).bind fun q11 => f_B_X12_readSaid_b166 r1 r2 r3 (f_B_X12_readNot m1 m2 m3 m4 m5) (f_B_X12_readBracket b1 b2 b3 b4 b5) q11.2 q11.1) ∨
    pBad3 M0 ((c3 P R L (zn (dp + 2))).bind fun q4 => (f_X5_add q4.1 15 0 0).bind fun q5 => some (q5, q4.2)) ((f_B_X12_readNot m1 m2 m3 m4 m5 M).bind fun q11 => f_B_X12_readSaid_b166 r1 r2 r3 (f_B_X12_readNot m1 m2 m3 m4 m5) (f_B_X12_readBracket b1 b2 b3 b4 b5) q11.2 q11.1) := by
  unfold f_B_X12_readNot
  rcases h1 R M P ko so vo p (o + 1) hE hJ with ⟨P', R', M', ko', so', vo', p', o', d, t, g1, g2, g3, g4, g5, g6, g7, g8, g9, g10, g11, g12, g13⟩ | ⟨P', R', M', p', g1, g2, g3, g4, g5, g6⟩
  · left
    obtain ⟨P2, nd, a1, a2, a3, w1, w2, w3, w4, w5⟩ := pJ_add g3 (by have := g3.2.2.2.2.1; omega) (c := 1) (s := 0) (v := 0) ⟨by omega, by omega⟩ (by omega) (by omega) 1 (zn t) 0 0
    rw [g1, g2, ob_eq, ob_eq]
    simp only
    rw [if_neg n10, g11, a2, ob_eq, show f_X5_add P' 15 0 0 = some P2 from a1, ob_eq, zl_eq, ob_eq]
    simp only
    rw [pm_out zb_bo1 (by rw [g_within_top]; exact a3.2.2.2.2.2.2)]
    refine ⟨P2, R', _, _, _, _, p' + 1, o', fun F m => !d F m, p', rfl, rfl, ⟨(a3.1.s_top _).s_within _, ⟨a3.2.1.1, a3.2.1.2.1, by rw [g_onesMany_within, g_onesMany_top]; exact a3.2.1.2.2⟩, a3.2.2.1, a3.2.2.2.1, a3.2.2.2.2.1, by rw [g_nodes_within, g_nodes_top, g_nodes_nodes], g_within_within _ _⟩, by omega, by omega, by omega, fun i hi => ?_, fun j hj => ?_, ?_, by omega, by rw [g_top_within, g_top_top], ?_, by rw [bl_within, bl_top, bl_nodes, bl_node]; exact g13.trans hbl⟩
    · rw [upN_ne _ _ (by omega), upN_ne _ _ (by omega), upN_ne _ _ (by omega)]; exact g7 i hi
    · rw [g_node_within, g_node_top, g_node_nodes, g_node_node, w5 j (by omega), g8 j hj, hnd j hj]
    · exact pSgm_not (pSgm_cg g9 (fun i hi => ⟨upN_ne _ _ (by omega), upN_ne _ _ (by omega), upN_ne _ _ (by omega)⟩)) (upN_eq _ _ _)
    · have h40 := g3.2.2.1.2.1
      rw [g_node_within, g_node_top, g_node_nodes, g_node_node]
      exact ⟨by omega, Or.inr (Or.inl ⟨t, d, g10, w1, w2, pNd_cg (fun j hj => w5 j (by omega)) g12, fun _ _ => rfl⟩)⟩
  · right
    obtain ⟨P2, p2, a1, a2, a3⟩ := pc_addW g4 g5 15 0 0
    rw [g1, g2, ob_eq, ob_eq]
    simp only
    rw [if_pos trivial, ob_eq, a1, ob_eq]
    simp only
    have hw : ∃ x, f_B_X12_readSaid_b166 r1 r2 r3 (f_B_X12_readNot m1 m2 m3 m4 m5) (f_B_X12_readBracket b1 b2 b3 b4 b5) M' 0 = some (0, Mo_s_within M' x) := ⟨Mo_within M' - 1, by unfold f_B_X12_readSaid_b166; rw [zl_eq, if_pos zb_bo0]⟩
    obtain ⟨x, hx⟩ := hw
    unfold f_B_X12_readNot at hx
    rw [hx]
    exact pBad3.of rfl rfl (g3.s_within x) a2 a3 (by rw [bl_within]; exact g6.trans hbl)
/-- a bracket -/
theorem q_bracket {R : RdT} {M M0 : MoT} {P : PhT} {ko so vo : Nat → Nat} {p o : Nat} (hdp : dp < 8) (h2 : pRdOk n most B D L (dp + 1) c1 b1) (hE : pEnv D L M) (hJ : pJ n most B R M P ko so vo p (o + 1) (dp + 1)) (hbl : pBl M = pBl M0) (hnd : ∀ j, j < 4 * p → Mo_node M j = Mo_node M0 j) :
    pGood n most B D M0 ko so vo p o dp ((c1 P R L (zn (dp + 2))).bind fun q14 => (f_X7_expect q14.2 41).bind fun q15 => some (q14.1, q15)) ((f_B_X12_readBracket b1 b2 b3 b4 b5 M).bind fun q18 => f_B_X12_readSaid_b166 r1 r2 r3 (f_B_X12_readNot m1 m2 m3 m4 m5) (f_B_X12_readBracket b1 b2 b3 b4 b5) q18.2 q18.1) ∨
    pBad3 M0 ((c1 P R L (zn (dp + 2))).bind fun q14 => (f_X7_expect q14.2 41).bind fun q15 => some (q14.1, q15)) ((f_B_X12_readBracket b1 b2 b3 b4 b5 M).bind fun q18 => f_B_X12_readSaid_b166 r1 r2 r3 (f_B_X12_readNot m1 m2 m3 m4 m5) (f_B_X12_readBracket b1 b2 b3 b4 b5) q18.2 q18.1) := by
  have hw0 : ∀ M' : MoT, ∃ x, f_B_X12_readSaid_b166 r1 r2 r3 (f_B_X12_readNot m1 m2 m3 m4 m5) (f_B_X12_readBracket b1 b2 b3 b4 b5) M' 0 = some (0, Mo_s_within M' x) := fun M' => ⟨Mo_within M' - 1, by unfold f_B_X12_readSaid_b166; rw [zl_eq, if_pos zb_bo0]⟩
  unfold f_B_X12_readBracket
  unfold f_B_X12_readBracket at hw0
  rcases h2 R M P ko so vo p (o + 1) hE hJ with ⟨P', R', M', ko', so', vo', p', o', d, t, g1, g2, g3, g4, g5, g6, g7, g8, g9, g10, g11, g12, g13⟩ | ⟨P', R', M', p', g1, g2, g3, g4, g5, g6⟩
  · rw [g1, g2, ob_eq, ob_eq]
    simp only
    rw [if_neg n10]
    have hG := g3.1
    rcases tk_sign hG.2.1 (c := 41) (by unfold pSign; omega) with ⟨k1, k2⟩ | ⟨k1, k2⟩
    · left
      obtain ⟨R2, M2, a1, a2, a3, a4, a5⟩ := hG.adv (by rw [k1]; decide)
      obtain ⟨e1, e2, e3, e4, e5⟩ := a4.nd
      have hx : f_X7_expect R' 41 = some R2 := by
        unfold f_X7_expect
        rw [if_pos hG.2.2.1, if_pos (show Rd_kind R' = 41 from k1), a1, ob_eq]
      rw [show f_X12_isSign M' 41 = some 1 from k2, ob_eq, if_neg n10, a2, ob_eq, ob_eq, hx, ob_eq]
      simp only
      rw [pm_out zb_bo1 (e4.trans g3.2.2.2.2.2.2)]
      refine ⟨P', R2, _, ko', so', vo', p', o', d, t, rfl, rfl, ⟨a3.s_within _, ⟨g3.2.1.1, g3.2.1.2.1, by rw [g_onesMany_within, e3]; exact g3.2.1.2.2⟩, g3.2.2.1, g3.2.2.2.1, g3.2.2.2.2.1, by rw [g_nodes_within, e2]; exact g3.2.2.2.2.2.1, g_within_within _ _⟩, by omega, by omega, by omega, g7, fun j hj => ?_, g9, g10, by rw [g_top_within, e5]; exact g11, by rw [g_node_within, e1]; exact g12, by rw [bl_within, a4.bl]; exact g13.trans hbl⟩
      rw [g_node_within, e1, g8 j hj, hnd j hj]
    · right
      obtain ⟨R2, M2, a1, a2, a3, a4⟩ := hG.bad (k := 1) (by omega) (by omega) (Or.inl rfl)
      have a2' : f_X12_bad M' 1 = some (0, M2) := a2
      have hx : f_X7_expect R' 41 = some R2 := by
        unfold f_X7_expect
        rw [if_pos hG.2.2.1, if_neg (show ¬ Rd_kind R' = 41 from k1), show f_X7_fail R' 1 = some R2 from a1, ob_eq]
      rw [show f_X12_isSign M' 41 = some 0 from k2, ob_eq, if_pos rfl, pm_badB a2', ob_eq, hx, ob_eq]
      simp only
      obtain ⟨x, hx⟩ := hw0 M2
      rw [hx]
      exact pBad3.of rfl rfl (a3.s_within x) g3.2.2.1.1 g3.2.2.1.2.1 (by rw [bl_within, a4.bl]; exact g13.trans hbl)
  · right
    obtain ⟨fk, pl, w1, w2, w3⟩ := g3
    rw [g1, g2, ob_eq, ob_eq]
    simp only
    rw [if_pos trivial, ob_eq, w1.expect, ob_eq]
    simp only
    obtain ⟨x, hx⟩ := hw0 M'
    rw [hx]
    exact pBad3.of rfl rfl (pW.s_within ⟨fk, pl, w1, w2, w3⟩ x) g4 g5 (by rw [bl_within]; exact g6.trans hbl)
/-- of a place -/
theorem q_ofPlace {R : RdT} {M M0 : MoT} {P : PhT} {ko so vo : Nat → Nat} {p o w : Nat} (hE : pEnv D L M) (hJ : pJ n most B R M P ko so vo p (o + 1) (dp + 1)) (hp : p ≤ 2 * o) (ho : pOnes ko p ≤ o) (hbl : pBl M = pBl M0) (hnd : ∀ j, j < 4 * p → Mo_node M j = Mo_node M0 j) (hw : w = 22 ∨ w = 23) :
    pGood n most B D M0 ko so vo p o dp (f_B_X5_readOne_b153 c1 c2 c3 P R L (zn w)) ((f_X12_readOf M (zn w)).bind fun q16 => f_B_X12_readSaid_b165 r1 r2 r3 m4 b5 q16.2 q16.1) ∨
    pBad3 M0 (f_B_X5_readOne_b153 c1 c2 c3 P R L (zn w)) ((f_X12_readOf M (zn w)).bind fun q16 => f_B_X12_readSaid_b165 r1 r2 r3 m4 b5 q16.2 q16.1) := by
  have hw0 : ∀ M' : MoT, ∃ x, f_B_X12_readSaid_b166 r1 r2 r3 m4 b5 M' 0 = some (0, Mo_s_within M' x) := fun M' => ⟨Mo_within M' - 1, by unfold f_B_X12_readSaid_b166; rw [zl_eq, if_pos zb_bo0]⟩
  have hk : pKo (50 + w) = w := by rcases hw with rfl | rfl <;> rfl
  have hnp := hE.1.1
  unfold f_B_X5_readOne_b153 f_X12_readOf f_B_X12_readSaid_b165
  rcases hJ.1.placeN hE with ⟨v, R', M', a1, a2, a3, a4, a5, a6, a7⟩ | ⟨R', M', a1, a2, a3, a4⟩
  · left
    obtain ⟨e1, e2, e3, e4, e5⟩ := a6.nd
    have hJ2 : pJ n most B R' M' P ko so vo p (o + 1) (dp + 1) := ⟨a5, ⟨hJ.2.1.1, hJ.2.1.2.1, e3.trans hJ.2.1.2.2⟩, hJ.2.2.1, hJ.2.2.2.1, hJ.2.2.2.2.1, e2.trans hJ.2.2.2.2.2.1, e4.trans hJ.2.2.2.2.2.2⟩
    obtain ⟨P', M3, b1', b2', b3', b4'⟩ := pGood_leaf (D := D) hJ2 hp ho (a6.bl.trans hbl) (fun j hj => by rw [e1]; exact hnd j hj) (w := w) (s := 0) (v := v) (v1 := v) (v2 := 0) (by omega) (by omega) (by omega) (by omega) (fun _ => rfl) (fun q => by omega)
    rw [hk] at b1'
    refine b4' ?_ ?_
    · rw [a2, ob_eq]
      simp only
      rw [show f_X5_add P (zn w) 0 (zn v) = some P' from b1', ob_eq, if_pos hJ.1.2.2.1, a3, ob_eq]
    · rw [a4, ob_eq]
      simp only
      rw [if_neg n10, a7, show (50 : Int32) + zn w = zn (50 + w) from zn_add 50 w, show f_X12_saysOne M' (zn (50 + w)) (zn v) 0 0 = some (zn p, M3) from b2', ob_eq, zl_eq, ob_eq]
      simp only
      exact pm_out zb_bo1 b3'
  · right
    obtain ⟨P2, p2, c1', c2', c3'⟩ := pc_addW hJ.2.2.1.1 hJ.2.2.1.2.1 (zn w) 0 (-1)
    have hne : ¬ Rd_fault R' = 0 := by obtain ⟨fk, pl, w1, -⟩ := a3; exact w1.ne
    rw [a1, a2, ob_eq, ob_eq]
    simp only
    rw [if_pos trivial, ob_eq, c1', ob_eq, if_neg hne]
    simp only
    obtain ⟨x, hx⟩ := hw0 M'
    rw [hx]
    exact pBad3.of rfl rfl (a3.s_within x) c2' c3' (by rw [bl_within, a4.bl]; exact hbl)
/-- a number compared -/
theorem q_compare {R : RdT} {M M0 : MoT} {P : PhT} {ko so vo : Nat → Nat} {p o w : Nat} (hJ : pJ n most B R M P ko so vo p (o + 1) (dp + 1)) (hp : p ≤ 2 * o) (ho : pOnes ko p ≤ o) (hbl : pBl M = pBl M0) (hnd : ∀ j, j < 4 * p → Mo_node M j = Mo_node M0 j) (hw : 24 ≤ w) (hw2 : w ≤ 27) :
    pGood n most B D M0 ko so vo p o dp (if Rd_kind R = 60 then f_B_X5_readOne_b219 c1 c2 c3 P R L (zn w) (Rd_kind R) else if Rd_kind R = 61 then f_B_X5_readOne_b219 c1 c2 c3 P R L (zn w) (Rd_kind R) else if Rd_kind R = 62 then f_B_X5_readOne_b219 c1 c2 c3 P R L (zn w) (Rd_kind R) else (f_X7_fail R 1).bind fun q13 => some (P, q13)) ((f_X12_readCompare M (zn w)).bind fun q17 => f_B_X12_readSaid_b165 r1 r2 r3 m4 b5 q17.2 q17.1) ∨
    pBad3 M0 (if Rd_kind R = 60 then f_B_X5_readOne_b219 c1 c2 c3 P R L (zn w) (Rd_kind R) else if Rd_kind R = 61 then f_B_X5_readOne_b219 c1 c2 c3 P R L (zn w) (Rd_kind R) else if Rd_kind R = 62 then f_B_X5_readOne_b219 c1 c2 c3 P R L (zn w) (Rd_kind R) else (f_X7_fail R 1).bind fun q13 => some (P, q13)) ((f_X12_readCompare M (zn w)).bind fun q17 => f_B_X12_readSaid_b165 r1 r2 r3 m4 b5 q17.2 q17.1) := by
  have hw0 : ∀ M' : MoT, ∃ x, f_B_X12_readSaid_b166 r1 r2 r3 m4 b5 M' 0 = some (0, Mo_s_within M' x) := fun M' => ⟨Mo_within M' - 1, by unfold f_B_X12_readSaid_b166; rw [zl_eq, if_pos zb_bo0]⟩
  have hk : pKo (50 + w) = w := by
    have : w = 24 ∨ w = 25 ∨ w = 26 ∨ w = 27 := by omega
    rcases this with rfl | rfl | rfl | rfl <;> rfl
  have hG := hJ.1
  unfold f_B_X12_readSaid_b165
  rcases tk_cmp hG.2.1 with ⟨c, hc, k1, k2, k3⟩ | ⟨k1, k2, k3, k4⟩
  · have hcl : (if Rd_kind R = 60 then f_B_X5_readOne_b219 c1 c2 c3 P R L (zn w) (Rd_kind R) else if Rd_kind R = 61 then f_B_X5_readOne_b219 c1 c2 c3 P R L (zn w) (Rd_kind R) else if Rd_kind R = 62 then f_B_X5_readOne_b219 c1 c2 c3 P R L (zn w) (Rd_kind R) else (f_X7_fail R 1).bind fun q13 => some (P, q13)) = f_B_X5_readOne_b219 c1 c2 c3 P R L (zn w) (zn c) := by
      rw [k1]
      rcases hc with rfl | rfl | rfl
      · rw [if_pos (show zn 60 = (60 : Int32) from rfl)]
      · rw [if_neg (show ¬ zn 61 = (60 : Int32) by decide), if_pos (show zn 61 = (61 : Int32) from rfl)]
      · rw [if_neg (show ¬ zn 62 = (60 : Int32) by decide), if_neg (show ¬ zn 62 = (61 : Int32) by decide), if_pos (show zn 62 = (62 : Int32) from rfl)]
    rw [hcl, k3]
    unfold f_B_X5_readOne_b219 f_X12_readCompare_b33
    obtain ⟨R', M', a1, a2, a3, a4, a5⟩ := hG.adv (by rw [k1]; rcases hc with rfl | rfl | rfl <;> decide)
    obtain ⟨e1, e2, e3, e4, e5⟩ := a4.nd
    rw [a1, a2, ob_eq, ob_eq, k2]
    rcases a3.number (lo := 0) (hi := 999) (by omega) (by omega) with ⟨R2, M2, y, d1, d2, d3, d4, d5, d6, d7⟩ | ⟨R2, M2, d1, d2, d3, d4⟩
    · left
      obtain ⟨f1, f2, f3, f4, f5⟩ := d4.nd
      have hJ2 : pJ n most B R2 M2 P ko so vo p (o + 1) (dp + 1) := ⟨d3, ⟨hJ.2.1.1, hJ.2.1.2.1, (f3.trans e3).trans hJ.2.1.2.2⟩, hJ.2.2.1, hJ.2.2.2.1, hJ.2.2.2.2.1, (f2.trans e2).trans hJ.2.2.2.2.2.1, (f4.trans e4).trans hJ.2.2.2.2.2.2⟩
      obtain ⟨P', M3, b1', b2', b3', b4'⟩ := pGood_leaf (D := D) hJ2 hp ho ((d4.bl.trans a4.bl).trans hbl) (fun j hj => by rw [f1, e1]; exact hnd j hj) (w := w) (s := c) (v := y) (v1 := 0) (v2 := y) (by omega) (by omega) (by omega) (by omega) (fun q => by omega) (fun _ => rfl)
      rw [hk] at b1'
      refine b4' ?_ ?_
      · rw [show f_X7_number R' 0 999 = some (zn y, R2) from d1, ob_eq]
        simp only
        rw [b1', ob_eq]
      · rw [show f_X12_readNumber M' 0 999 = some (1, M2) from d2, ob_eq]
        simp only
        rw [if_neg n10, d7, show (50 : Int32) + zn w = zn (50 + w) from zn_add 50 w, show f_X12_saysOne M2 (zn (50 + w)) 0 (zn y) (zn c) = some (zn p, M3) from b2', ob_eq, zl_eq, ob_eq]
        simp only
        exact pm_out zb_bo1 b3'
    · right
      obtain ⟨P2, p2, c1', c2', c3'⟩ := pc_addW hJ.2.2.1.1 hJ.2.2.1.2.1 (zn w) (zn c) (zn 0)
      rw [show f_X7_number R' 0 999 = some (zn 0, R2) from d1, show f_X12_readNumber M' 0 999 = some (0, M2) from d2, ob_eq, ob_eq]
      simp only
      rw [if_pos trivial, ob_eq, c1', ob_eq]
      simp only
      obtain ⟨x, hx⟩ := hw0 M2
      rw [hx]
      exact pBad3.of rfl rfl (d3.s_within x) c2' c3' (by rw [bl_within, d4.bl, a4.bl]; exact hbl)
  · right
    obtain ⟨R', M', a1, a2, a3, a4⟩ := hG.bad (k := 1) (by omega) (by omega) (Or.inl rfl)
    have a2' : f_X12_bad M 1 = some (0, M') := a2
    rw [if_neg k1, if_neg k2, if_neg k3, show f_X7_fail R 1 = some R' from a1, ob_eq, k4, pm_badB a2', ob_eq]
    simp only
    obtain ⟨x, hx⟩ := hw0 M'
    rw [hx]
    exact pBad3.of rfl rfl (a3.s_within x) hJ.2.2.1.1 hJ.2.2.1.2.1 (by rw [bl_within, a4.bl]; exact hbl)
/-- a word alone -/
theorem q_wordOne {R : RdT} {M M0 : MoT} {P : PhT} {ko so vo : Nat → Nat} {p o w : Nat} (hJ : pJ n most B R M P ko so vo p (o + 1) (dp + 1)) (hp : p ≤ 2 * o) (ho : pOnes ko p ≤ o) (hbl : pBl M = pBl M0) (hnd : ∀ j, j < 4 * p → Mo_node M j = Mo_node M0 j) (hw : 15 ≤ w) (hw2 : w ≤ 21) :
    pGood n most B D M0 ko so vo p o dp ((f_X5_add P (zn (pSg w)) 0 0).bind fun q9 => some (q9, R)) ((f_X12_saysOne M ((50 : Int32) + zn w) 0 0 0).bind fun q14 => zlet (Mo_s_top q14.2 q14.1) fun y15 => f_B_X12_readSaid_b166 r1 r2 r3 m4 b5 y15 1) := by
  have hk : pKo (50 + w) = pSg w := by unfold pKo; rw [if_neg (by omega), if_neg (by omega), if_neg (by omega), Nat.add_sub_cancel_left]
  obtain ⟨P', M3, b1', b2', b3', b4'⟩ := pGood_leaf (D := D) hJ hp ho hbl hnd (w := w) (s := 0) (v := 0) (v1 := 0) (v2 := 0) (by omega) (by omega) (by omega) (by omega) (fun q => by omega) (fun _ => rfl)
  rw [hk] at b1'
  refine b4' ?_ ?_
  · rw [show f_X5_add P (zn (pSg w)) 0 0 = some P' from b1', ob_eq]
  · rw [show (50 : Int32) + zn w = zn (50 + w) from zn_add 50 w, show f_X12_saysOne M (zn (50 + w)) 0 0 0 = some (zn p, M3) from b2', ob_eq, zl_eq]
    exact pm_out zb_bo1 b3'
end
