/-! SENTENCES: ONE, whole -/
section
variable {n most : Nat} {B : Nat → Nat} {L : LdT} {D : pD} {dp : Nat} {r1 r2 r3 m1 m2 m3 m4 m5 b1 b2 b3 b4 b5 : MoT → Option (Int32 × MoT)} {c1 c2 c3 : PhT → RdT → LdT → Int32 → Option (PhT × RdT)}
theorem pG.two {R : RdT} {M : MoT} (h : pG n most B R M) {k : Nat} (h1 : 1 ≤ k) (h4 : k ≤ 4) (hk : k = 1 ∨ Mo_kind M ≠ 1) (P : PhT) {p' : Nat} (hp : Ph_parts P = zn p') (hp4 : p' ≤ 40) : pBad3 M ((f_X7_fail R (zn k)).bind fun q => some (P, q)) ((f_X12_bad M (zn k)).bind fun q => if zb_bo q.1 = true then some (q.1, q.2) else none) := by
  obtain ⟨R', M', a1, a2, a3, a4⟩ := h.bad h1 h4 hk
  rw [a1, ob_eq, pm_badB a2]
  exact pBad3.of rfl rfl a3 hp hp4 a4.bl
theorem q_one (hdp : dp ≤ 8) (h1 : dp < 8 → pRdOk n most B D L (dp + 1) c3 m3) (h2 : dp < 8 → pRdOk n most B D L (dp + 1) c1 b1) :
    pRdOk n most B D L dp (f_B_X5_readOne c1 c2 c3) (f_B_X12_readSaid r1 r2 r3 (f_B_X12_readNot m1 m2 m3 m4 m5) (f_B_X12_readBracket b1 b2 b3 b4 b5)) := by
  intro R M P ko so vo p o hE hJ
  have hJ0 := hJ
  obtain ⟨hG, ⟨ho1, ho2, ho3⟩, hP, hon, hp2, hnq, hwi⟩ := hJ
  have hT := hG.2.1
  unfold f_B_X5_readOne f_B_X12_readSaid
  -- past the first look: too many, or in
  have core : ∀ (x1 x2 x4 : Int32), ¬ Rd_kind R = 0 → Mo_kind M ≠ 1 → (∀ (R' : RdT) (M' : MoT), dp < 8 → pJ n most B R' M' (Ph_s_ones P (zn (o + 1))) ko so vo p (o + 1) (dp + 1) → pBl M' = pBl M → (∀ j, j < 4 * p → Mo_node M' j = Mo_node M j) → pEnv D L M' →
      ∀ cl mo, cl = (if x1 = 0 then (if x4 = (15 : Int32) then ((c3 (Ph_s_ones P (zn (o + 1))) R' L (zn (dp + 2))).bind fun q4 => ((f_X5_add q4.1 (15 : Int32) (0 : Int32) (0 : Int32)).bind fun q5 => some (q5, q4.2))) else (if x4 = (22 : Int32) then f_B_X5_readOne_b153 c1 c2 c3 (Ph_s_ones P (zn (o + 1))) R' L x4 else (if x4 = (23 : Int32) then f_B_X5_readOne_b153 c1 c2 c3 (Ph_s_ones P (zn (o + 1))) R' L x4 else (if x4 < (24 : Int32) then ((f_X5_add (Ph_s_ones P (zn (o + 1))) x4 (0 : Int32) (0 : Int32)).bind fun q9 => some (q9, R')) else (if (Rd_kind R') = (60 : Int32) then f_B_X5_readOne_b219 c1 c2 c3 (Ph_s_ones P (zn (o + 1))) R' L x4 (Rd_kind R') else (if (Rd_kind R') = (61 : Int32) then f_B_X5_readOne_b219 c1 c2 c3 (Ph_s_ones P (zn (o + 1))) R' L x4 (Rd_kind R') else (if (Rd_kind R') = (62 : Int32) then f_B_X5_readOne_b219 c1 c2 c3 (Ph_s_ones P (zn (o + 1))) R' L x4 (Rd_kind R') else ((f_X7_fail R' (1 : Int32)).bind fun q13 => some ((Ph_s_ones P (zn (o + 1))), q13))))))))) else ((c1 (Ph_s_ones P (zn (o + 1))) R' L (zn (dp + 2))).bind fun q14 => ((f_X7_expect q14.2 (41 : Int32)).bind fun q15 => some (q14.1, q15)))) →
      mo = (if x1 = 0 then (if x2 = (14 : Int32) then ((f_B_X12_readNot m1 m2 m3 m4 m5 M').bind fun q11 => f_B_X12_readSaid_b166 r1 r2 r3 (f_B_X12_readNot m1 m2 m3 m4 m5) (f_B_X12_readBracket b1 b2 b3 b4 b5) q11.2 q11.1) else (if x2 < (22 : Int32) then ((f_X12_saysOne M' ((50 : Int32) + x2) (0 : Int32) (0 : Int32) (0 : Int32)).bind fun q14 => (zlet (Mo_s_top q14.2 q14.1) fun y15 => f_B_X12_readSaid_b166 r1 r2 r3 (f_B_X12_readNot m1 m2 m3 m4 m5) (f_B_X12_readBracket b1 b2 b3 b4 b5) y15 (1 : Int32))) else (if x2 < (24 : Int32) then ((f_X12_readOf M' x2).bind fun q16 => f_B_X12_readSaid_b165 r1 r2 r3 (f_B_X12_readNot m1 m2 m3 m4 m5) (f_B_X12_readBracket b1 b2 b3 b4 b5) q16.2 q16.1) else ((f_X12_readCompare M' x2).bind fun q17 => f_B_X12_readSaid_b165 r1 r2 r3 (f_B_X12_readNot m1 m2 m3 m4 m5) (f_B_X12_readBracket b1 b2 b3 b4 b5) q17.2 q17.1)))) else ((f_B_X12_readBracket b1 b2 b3 b4 b5 M').bind fun q18 => f_B_X12_readSaid_b166 r1 r2 r3 (f_B_X12_readNot m1 m2 m3 m4 m5) (f_B_X12_readBracket b1 b2 b3 b4 b5) q18.2 q18.1)) →
      pGood n most B D M ko so vo p o dp cl mo ∨ pBad3 M cl mo) →
      pGood n most B D M ko so vo p o dp (f_B_X5_readOne_b54 c1 c2 c3 P R L (zn (dp + 1)) x4 x1) (f_B_X12_readSaid_b46 r1 r2 r3 (f_B_X12_readNot m1 m2 m3 m4 m5) (f_B_X12_readBracket b1 b2 b3 b4 b5) M x1 x2) ∨ pBad3 M (f_B_X5_readOne_b54 c1 c2 c3 P R L (zn (dp + 1)) x4 x1) (f_B_X12_readSaid_b46 r1 r2 r3 (f_B_X12_readNot m1 m2 m3 m4 m5) (f_B_X12_readBracket b1 b2 b3 b4 b5) M x1 x2) := by
    intro x1 x2 x4 hk0 hk1 rest
    unfold f_B_X5_readOne_b54 f_B_X12_readSaid_b46
    by_cases q1 : o = 20
    · right
      rw [ho1, ho3, if_neg (show ¬ zn o < (20 : Int32) by rw [zn_l20, zn_lt (by omega) (by omega)]; omega), if_pos (show zn o = (20 : Int32) by rw [q1]; rfl)]
      exact hG.two (k := 4) (by omega) (by omega) (Or.inr hk1) P hP.1 hP.2.1
    · rw [ho1, ho3, if_pos (show zn o < (20 : Int32) by rw [zn_l20, zn_lt (by omega) (by omega)]; omega), if_neg (show ¬ zn o = (20 : Int32) by rw [zn_l20, zn_eq (by omega) (by omega)]; exact q1)]
      by_cases q2 : dp = 8
      · right
        rw [hwi, if_pos (show (8 : Int32) < zn (dp + 1) by rw [zn_l8, zn_lt (by omega) (by omega)]; omega), if_pos (show zn dp = (8 : Int32) by rw [q2]; rfl)]
        exact hG.two (k := 4) (by omega) (by omega) (Or.inr hk1) P hP.1 hP.2.1
      · have hG2 : pG n most B R (Mo_s_within (Mo_s_onesMany M (zn (o + 1))) (zn (dp + 1))) := (hG.s_onesMany _).s_within _
        obtain ⟨R', M', a1, a2, a3, a4, a5⟩ := hG2.adv hk0
        obtain ⟨e1, e2, e3, e4, e5⟩ := a4.nd
        have hbl : pBl M' = pBl M := by rw [a4.bl, bl_within, bl_onesMany]
        rw [hwi, if_neg (show ¬ (8 : Int32) < zn (dp + 1) by rw [zn_l8, zn_lt (by omega) (by omega)]; omega), if_neg (show ¬ zn dp = (8 : Int32) by rw [zn_l8, zn_eq (by omega) (by omega)]; exact q2), zl_eq, zl_eq, zl_eq, show zn o + 1 = zn (o + 1) from zn_add o 1, g_within_onesMany, hwi, show zn dp + 1 = zn (dp + 1) from zn_add dp 1, a1, a2, ob_eq, ob_eq, show zn (dp + 1) + 1 = zn (dp + 2) from zn_add (dp + 1) 1]
        refine rest R' M' (by omega) ⟨a3, ⟨rfl, by omega, by rw [e3, g_onesMany_within, g_onesMany_onesMany]⟩, hP, by omega, by omega, by rw [e2, g_nodes_within, g_nodes_onesMany]; exact hnq, by rw [e4, g_within_within]⟩ hbl (fun j _ => by rw [e1, g_node_within, g_node_onesMany]) (hE.fr hbl) _ _ rfl rfl
  rcases tk_sign hT (c := 40) (by unfold pSign; omega) with ⟨k1, k2⟩ | ⟨k1, k2⟩
  · have hk4 : Mo_kind M ≠ 1 := by
      intro q
      unfold f_X12_isSign f_X12_isSign_b20 at k2
      rw [if_neg (show ¬ Mo_kind M = 4 by rw [q]; decide)] at k2
      exact absurd (Option.some.inj k2) (by decide)
    rw [if_pos (show Rd_kind R = 40 from k1), show f_X12_isSign M 40 = some 1 from k2, ob_eq]
    rcases pm_findW hT r1 r2 r3 (f_B_X12_readNot m1 m2 m3 m4 m5) (f_B_X12_readBracket b1 b2 b3 b4 b5) 1 with ⟨j, -, -, -, j4, -⟩ | ⟨-, j2⟩
    · rw [k1] at j4; exact absurd j4 (by decide)
    · rw [show (14 : Int32) = zn 14 from rfl, j2]
      unfold f_B_X5_readOne_b20 f_B_X12_readSaid_b30
      rw [if_neg n10, if_neg n10]
      refine core 1 (zn 28) (Rd_key R) (by rw [k1]; decide) hk4 (fun R' M' hd hJ' hbl hnd hE' cl mo e1 e2 => ?_)
      rw [e1, e2, if_neg n10, if_neg n10]
      exact q_bracket hd (h2 hd) hE' hJ' hbl hnd
  · rw [if_neg (show ¬ Rd_kind R = 40 from k1), show f_X12_isSign M 40 = some 0 from k2, ob_eq]
    unfold f_B_X5_readOne_b20
    rw [if_pos rfl]
    rcases pm_findW hT r1 r2 r3 (f_B_X12_readNot m1 m2 m3 m4 m5) (f_B_X12_readBracket b1 b2 b3 b4 b5) 0 with ⟨j, j1, j2, j3, j4, j5, j6⟩ | ⟨j1, j2⟩
    · have hs : ∀ i : Fin 14, pSg (i.val + 14) ≤ 27 ∧ (pSg (i.val + 14) = 6 ∨ 15 ≤ pSg (i.val + 14)) ∧ (pSg (i.val + 14) = 15 ↔ i.val + 14 = 14) ∧ (pSg (i.val + 14) = 22 ↔ i.val + 14 = 22) ∧ (pSg (i.val + 14) = 23 ↔ i.val + 14 = 23) ∧ (24 ≤ i.val + 14 → pSg (i.val + 14) = i.val + 14) ∧ (i.val + 14 < 22 → pSg (i.val + 14) < 22) := by decide +kernel
      have hj := hs ⟨j - 14, by omega⟩
      simp only [show j - 14 + 14 = j from by omega] at hj
      obtain ⟨s1, s2, s3, s4, s5, s6, s7⟩ := hj
      have e20 : (if Rd_key R = (6 : Int32) then f_B_X5_readOne_b54 c1 c2 c3 P R L (zn (dp + 1)) (Rd_key R) 0 else if Rd_key R < (15 : Int32) then (f_X7_fail R (1 : Int32)).bind fun q17 => some (P, q17) else if (27 : Int32) < Rd_key R then (f_X7_fail R (1 : Int32)).bind fun q18 => some (P, q18) else f_B_X5_readOne_b54 c1 c2 c3 P R L (zn (dp + 1)) (Rd_key R) 0) = f_B_X5_readOne_b54 c1 c2 c3 P R L (zn (dp + 1)) (zn (pSg j)) 0 := by
        rw [j3]
        by_cases z : pSg j = 6
        · rw [if_pos (show zn (pSg j) = (6 : Int32) by rw [z]; rfl)]
        · rw [if_neg (show ¬ zn (pSg j) = (6 : Int32) by rw [zn_l6, zn_eq (by omega) (by omega)]; exact z), if_neg (show ¬ zn (pSg j) < (15 : Int32) by rw [zn_l15, zn_lt (by omega) (by omega)]; omega), if_neg (show ¬ (27 : Int32) < zn (pSg j) by rw [zn_l27, zn_lt (by omega) (by omega)]; omega)]
      rw [e20, show (14 : Int32) = zn 14 from rfl, j6]
      unfold f_B_X12_readSaid_b30
      rw [if_pos rfl, if_neg (show ¬ (27 : Int32) < zn j by rw [zn_l27, zn_lt (by omega) (by omega)]; omega)]
      refine core 0 (zn j) (zn (pSg j)) (by rw [j4]; decide) (by rw [j5]; decide) (fun R' M' hd hJ' hbl hnd hE' cl mo e1 e2 => ?_)
      rw [e1, e2, if_pos rfl, if_pos rfl]
      by_cases w1 : j = 14
      · rw [if_pos (show zn (pSg j) = (15 : Int32) by rw [s3.mpr w1]; rfl), if_pos (show zn j = (14 : Int32) by rw [w1]; rfl)]
        exact q_notOne hd (h1 hd) hE' hJ' hp2 hbl hnd
      rw [if_neg (show ¬ zn (pSg j) = (15 : Int32) by rw [zn_l15, zn_eq (by omega) (by omega)]; exact fun q => w1 (s3.mp q)), if_neg (show ¬ zn j = (14 : Int32) by rw [zn_l14, zn_eq (by omega) (by omega)]; exact w1)]
      by_cases w2 : j < 22
      · have := s7 w2
        rw [if_neg (show ¬ zn (pSg j) = (22 : Int32) by rw [zn_l22, zn_eq (by omega) (by omega)]; omega), if_neg (show ¬ zn (pSg j) = (23 : Int32) by rw [zn_l23, zn_eq (by omega) (by omega)]; omega), if_pos (show zn (pSg j) < (24 : Int32) by rw [zn_l24, zn_lt (by omega) (by omega)]; omega), if_pos (show zn j < (22 : Int32) by rw [zn_l22, zn_lt (by omega) (by omega)]; exact w2)]
        exact Or.inl (q_wordOne hJ' hp2 hon hbl hnd (by omega) (by omega))
      rw [if_neg (show ¬ zn j < (22 : Int32) by rw [zn_l22, zn_lt (by omega) (by omega)]; exact w2)]
      by_cases w3 : j < 24
      · have e : pSg j = j := by
          have : j = 22 ∨ j = 23 := by omega
          rcases this with q | q
          · rw [s4.mpr q, q]
          · rw [s5.mpr q, q]
        rw [if_pos (show zn j < (24 : Int32) by rw [zn_l24, zn_lt (by omega) (by omega)]; exact w3), e]
        have := q_ofPlace (D := D) (L := L) (r1 := r1) (r2 := r2) (r3 := r3) (m4 := f_B_X12_readNot m1 m2 m3 m4 m5) (b5 := f_B_X12_readBracket b1 b2 b3 b4 b5) (c1 := c1) (c2 := c2) (c3 := c3) hE' hJ' hp2 hon hbl hnd (w := j) (by omega)
        by_cases z : j = 22
        · rw [if_pos (show zn j = (22 : Int32) by rw [z]; rfl)]; exact this
        · rw [if_neg (show ¬ zn j = (22 : Int32) by rw [zn_l22, zn_eq (by omega) (by omega)]; exact z), if_pos (show zn j = (23 : Int32) by rw [show j = 23 by omega]; rfl)]; exact this
      · have e := s6 (by omega)
        rw [if_neg (show ¬ zn j < (24 : Int32) by rw [zn_l24, zn_lt (by omega) (by omega)]; exact w3), e, if_neg (show ¬ zn j = (22 : Int32) by rw [zn_l22, zn_eq (by omega) (by omega)]; omega), if_neg (show ¬ zn j = (23 : Int32) by rw [zn_l23, zn_eq (by omega) (by omega)]; omega), if_neg (show ¬ zn j < (24 : Int32) by rw [zn_l24, zn_lt (by omega) (by omega)]; exact w3)]
        exact q_compare hJ' hp2 hon hbl hnd (by omega) (by omega)
    · right
      have hlow : ∀ i : Fin 14, pSg i.val ≠ 6 ∧ pSg i.val < 15 := by decide +kernel
      have e20 : (if Rd_key R = (6 : Int32) then f_B_X5_readOne_b54 c1 c2 c3 P R L (zn (dp + 1)) (Rd_key R) 0 else if Rd_key R < (15 : Int32) then (f_X7_fail R (1 : Int32)).bind fun q17 => some (P, q17) else if (27 : Int32) < Rd_key R then (f_X7_fail R (1 : Int32)).bind fun q18 => some (P, q18) else f_B_X5_readOne_b54 c1 c2 c3 P R L (zn (dp + 1)) (Rd_key R) 0) = (f_X7_fail R (1 : Int32)).bind fun q17 => some (P, q17) := by
        rcases j1 with j1 | ⟨i, i1, i2⟩
        · rw [j1, if_neg (show ¬ zm = (6 : Int32) by decide), if_pos (show zm < (15 : Int32) by decide)]
        · obtain ⟨a1, a2⟩ := hlow ⟨i, i1⟩
          simp only at a1 a2
          rw [i2, if_neg (show ¬ zn (pSg i) = (6 : Int32) by rw [zn_l6, zn_eq (by omega) (by omega)]; exact a1), if_pos (show zn (pSg i) < (15 : Int32) by rw [zn_l15, zn_lt (by omega) (by omega)]; exact a2)]
      rw [e20, show (14 : Int32) = zn 14 from rfl, j2]
      unfold f_B_X12_readSaid_b30
      rw [if_pos rfl, if_pos (show (27 : Int32) < zn 28 by decide)]
      exact hG.two (k := 1) (by omega) (by omega) (Or.inl rfl) P hP.1 hP.2.1
end
