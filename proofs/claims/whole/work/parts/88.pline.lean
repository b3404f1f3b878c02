section
variable {n most : Nat} {B : Nat → Nat} {R : RdT} {M : MoT} {L : LdT} {D : pD}
theorem pm_first (h : pG n most B R M) (hk0 : ¬ Rd_kind R = 0) (hk2 : Mo_kind M = 2) {i c mx : Nat} (hi : i < 443) (hc : Mo_read M i = zn c) (hcx : c ≤ mx) (hmx : mx < 1000) :
    (c = mx ∧ ∃ R' M', f_X7_fail R 4 = some R' ∧ f_X12_readFirst M (zn i) (zn mx) = some (0, M') ∧ pW R' M' ∧ pFb M M') ∨
    (c < mx ∧ ∃ R' M', f_X7_advance R = some R' ∧ f_X12_readFirst M (zn i) (zn mx) = some (1, M') ∧ pG n most B R' M' ∧ pFb M M' ∧ Mo_told M' = Mo_told M) := by
  unfold f_X12_readFirst
  rw [zb_zn hi (by omega), if_pos rfl, zn_nat (by omega), hc]
  by_cases q : c = mx
  · left
    obtain ⟨R', M', b1, b2, b3, b4⟩ := h.bad (k := 4) (by omega) (by omega) (Or.inr (by rw [hk2]; decide))
    rw [if_pos (by rw [q]), pm_badB (k := 4) b2]
    exact ⟨q, R', M', b1, rfl, b3, b4⟩
  · right
    obtain ⟨R', M', a1, a2, a3, a4, a5⟩ := h.adv hk0
    rw [if_neg (by rw [zn_eq (by omega) (by omega)]; exact q), a2, ob_eq]
    exact ⟨by omega, R', M', a1, rfl, a3, a4, a5⟩
theorem pFb.sr {M M' : MoT} (h : pFb M M') : pFl M M' := h.l
/-- a number, put into its row -/
theorem pG.putn (h : pG n most B R M) {lo hi i : Nat} (hi1 : hi < 1000) (hlo : lo ≤ hi) (hi443 : i < 443) :
    (∃ R' M' y, f_X7_number R (zn lo) (zn hi) = some (zn y, R') ∧ (∀ {β : Type} (f : Int32 × MoT → Option β), (f_X12_readNumber M (zn lo) (zn hi)).bind (fun q => (f_X12_put q.2 (zn i) q.1).bind f) = f (1, M')) ∧ pG n most B R' M' ∧ Mo_read M' = upd (Mo_read M) i (zn y) ∧ Mo_readName M' = Mo_readName M ∧ pFl M M' ∧ lo ≤ y ∧ y ≤ hi) ∨
    (∃ R' M', f_X7_number R (zn lo) (zn hi) = some (zn lo, R') ∧ (∀ {β : Type} (f : Int32 × MoT → Option β), (f_X12_readNumber M (zn lo) (zn hi)).bind (fun q => (f_X12_put q.2 (zn i) q.1).bind f) = f (0, M')) ∧ pW R' M' ∧ pFl M M') := by
  rcases h.number hi1 hlo with ⟨R', M', y, a1, a2, a3, a4, a5, a6, a7⟩ | ⟨R', M', a1, a2, a3, a4⟩
  · left
    refine ⟨R', Mo_s_read M' (upd (Mo_read M') i (Mo_told M')), y, a1, fun f => ?_, ⟨a3.1, a3.2.1, a3.2.2.1, a3.2.2.2⟩, ?_, a4.rn, ?_, a5, a6⟩
    · rw [a2, ob_eq, pm_put1 M' hi443, ob_eq]
    · show upd (Mo_read M') i (Mo_told M') = _
      rw [a4.rd, a7]
    · exact ⟨a4.l.1, a4.l.2.1, a4.l.2.2⟩
  · right
    refine ⟨R', M', a1, fun f => ?_, a3, a4.l⟩
    rw [a2, ob_eq, pm_put0, ob_eq]
theorem q_placeLine (h : pG n most B R M) (hk0 : ¬ Rd_kind R = 0) (hk2 : Mo_kind M = 2) {s : Nat} (hs : s ≤ 2) (hkey : Rd_key R = zn s) (hD : pLq D L (Mo_read M) (Mo_readName M)) : pLine n most B M (pSz D) (Ld_lines L) (f_X3_readPlace L R) (f_X12_readPlace M (zn s)) := by
  obtain ⟨b1, b2, b3, b4⟩ := hD.1
  obtain ⟨c1, c2, c3, c4⟩ := hD.2.1
  obtain ⟨d1, d2, d3, d4⟩ := hD.2.2.1
  unfold f_X3_readPlace f_X12_readPlace
  rcases pm_first h hk0 hk2 (i := 0) (c := pD_np D) (mx := 10) (by omega) d1 b1 (by omega) with ⟨e, R1, M1, i1, i2, i3, i4⟩ | ⟨e, R1, M1, i1, i2, i3, i4, i5⟩
  · right
    rw [c1, if_neg (by rw [zn_l10, zn_lt (by omega) (by omega)]; omega), i1, ob_eq, show f_X12_readFirst M 0 10 = some (0, M1) from i2, ob_eq]
    exact ⟨_, R1, M1, rfl, rfl, i3, i4.l⟩
  · rw [c1, if_pos (show zn (pD_np D) < (10 : Int32) by rw [zn_l10, zn_lt (by omega) (by omega)]; omega), i1, ob_eq, show f_X12_readFirst M 0 10 = some (1, M1) from i2, ob_eq]
    simp only [if_neg n10]
    rw [show Mo_read M1 (0 : Int32).toNatClampNeg = zn (pD_np D) from by rw [i4.rd]; exact d1, hkey]
    have e12 : ∀ z, (if zn s = (2 : Int32) then z else z) = z := fun (z : Nat) => ite_self _
    have hns : pNs L (pD_np D) (pD_nm D) (Mo_readName M1) := by rw [i4.rn]; exact hD.ns
    rcases i3.fresh hns (by rw [i4.rd]; exact d1) (by rw [i4.rd]; exact d3) (slot := pD_np D) (by omega) with ⟨R2, M2, x, y, j1, j2, j3, j4, j5, j6, j7, j8⟩ | ⟨R2, M2, x, j1, j2, ⟨fk, pl, j3, j3'⟩, j4⟩
    · rw [j1, ob_eq, j2, ob_eq]
      simp only [if_neg n10]
      rw [zb_zn (show pD_np D < 10 by omega) (by omega), if_pos rfl, zl_eq]
      rw [show zn (pD_np D) * (4 : Int32) = zn (pD_np D * 4) from zn_mul _ 4, show zn (pD_np D * 4) + (0 : Int32) = zn (pD_np D * 4 + 0) from zn_add _ 0, show zn (pD_np D * 4) + (1 : Int32) = zn (pD_np D * 4 + 1) from zn_add _ 1, zb_zn (show pD_np D * 4 + 0 < 40 by omega) (by omega), if_pos rfl, zl_eq, zn_nat (show pD_np D < 2147483648 by omega), zn_nat (show pD_np D * 4 + 0 < 2147483648 by omega)]
      rw [show (4 : Int32) + zn (pD_np D) = zn (4 + pD_np D) from zn_add 4 _, zb_zn (show 4 + pD_np D < 443 by omega) (by omega), if_pos rfl, zl_eq, zn_nat (show 4 + pD_np D < 2147483648 by omega), j6, i4.rd]
      have w0 : pFl M M2 := i4.l.tr j7
      by_cases s2 : s = 2
      · -- a port
        subst s2
        rw [if_pos (show zn 2 = (2 : Int32) from rfl), if_pos (show zn 2 = (2 : Int32) from rfl)]
        have hG3 : pG n most B R2 (Mo_s_read M2 (upd (Mo_read M) (4 + pD_np D) (zn 2))) := ⟨j3.1, j3.2.1, j3.2.2.1, j3.2.2.2⟩
        rw [show (14 : Int32) + zn (pD_np D) = zn (14 + pD_np D) from zn_add 14 _, show (24 : Int32) + zn (pD_np D) = zn (24 + pD_np D) from zn_add 24 _, show (34 : Int32) + zn (pD_np D) = zn (34 + pD_np D) from zn_add 34 _]
        rcases hG3.putn (lo := 0) (hi := 12) (i := 14 + pD_np D) (by omega) (by omega) (by omega) with ⟨R4, M4, y4, k1, k2, k3, k4, k5, k6, k7, k8⟩ | ⟨R4, M4, k1, k2, ⟨fk, pl, k3, k3'⟩, k4⟩
        · rw [show f_X7_number R2 0 12 = some (zn y4, R4) from k1, ob_eq]
          refine (congrArg (fun z => pLine n most B M (pSz D) (Ld_lines L) _ z) (k2 _)).mpr ?_
          simp only [if_neg n10]
          unfold f_X3_readPlace_b77
          rw [zb_zn (show pD_np D * 4 + 1 < 40 by omega) (by omega), if_pos rfl, zl_eq, zn_nat (show pD_np D * 4 + 1 < 2147483648 by omega), if_pos (show zn 2 = (2 : Int32) from rfl), show zn (pD_np D * 4) + (2 : Int32) = zn (pD_np D * 4 + 2) from zn_add _ 2]
          rcases k3.putn (lo := 0) (hi := 99) (i := 24 + pD_np D) (by omega) (by omega) (by omega) with ⟨R5, M5, y5, l1, l2, l3, l4, l5, l6, l7, l8⟩ | ⟨R5, M5, l1, l2, ⟨fk, pl, l3, l3'⟩, l4⟩
          · rw [show f_X7_number R4 0 99 = some (zn y5, R5) from l1, ob_eq]
            refine (congrArg (fun z => pLine n most B M (pSz D) (Ld_lines L) _ z) (l2 _)).mpr ?_
            simp only [if_neg n10]
            unfold f_X3_readPlace_b101
            rw [zb_zn (show pD_np D * 4 + 2 < 40 by omega) (by omega), if_pos rfl, zl_eq, zn_nat (show pD_np D * 4 + 2 < 2147483648 by omega), if_pos (show zn 2 = (2 : Int32) from rfl), show zn (pD_np D * 4) + (3 : Int32) = zn (pD_np D * 4 + 3) from zn_add _ 3]
            rcases l3.putn (lo := 1) (hi := 6) (i := 34 + pD_np D) (by omega) (by omega) (by omega) with ⟨R6, M6, y6, m1, m2, m3, m4, m5, m6, m7, m8⟩ | ⟨R6, M6, m1, m2, ⟨fk, pl, m3, m3'⟩, m4⟩
            · rw [show f_X7_number R5 1 6 = some (zn y6, R6) from m1, ob_eq]
              refine (congrArg (fun z => pLine n most B M (pSz D) (Ld_lines L) _ z) (m2 _)).mpr ?_
              simp only [if_neg n10]
              unfold f_X3_readPlace_b125 f_X12_readPlace_b109
              rw [zb_zn (show pD_np D * 4 + 3 < 40 by omega) (by omega), if_pos rfl, zl_eq, zn_nat (show pD_np D * 4 + 3 < 2147483648 by omega)]
              simp only [zl_eq]
              rw [if_pos (show zn 2 = (2 : Int32) from rfl)]
              left
              have hr : Mo_read M6 = upd (upd (upd (upd (Mo_read M) (4 + pD_np D) (zn 2)) (14 + pD_np D) (zn y4)) (24 + pD_np D) (zn y5)) (34 + pD_np D) (zn y6) := by rw [m4, l4, k4]; rfl
              refine ⟨_, R6, _, pAddP D 2 y4 y5 y6, rfl, rfl, ⟨m3.1, m3.2.1, m3.2.2.1, m3.2.2.2⟩, pAddP_q hD (by omega) (by omega) k8 l8 m8 j4 (x1 := x) ?_ rfl rfl ?_ rfl rfl ?_ rfl rfl rfl ?_ ?_, ?_, rfl, pAddP_sz _ _ _ _ _⟩
              · show Ld_places L + 1 = _
                rw [c1]; exact zn_add _ 1
              · show Ld_ports L + 1 = _
                rw [c4]; exact zn_add _ 1
              · intro j
                show upd (upd (upd (upd (Ld_placeRows L) (pD_np D * 4 + 0) (zn 2)) (pD_np D * 4 + 1) (zn y4)) (pD_np D * 4 + 2) (zn y5)) (pD_np D * 4 + 3) (zn y6) j = _
                unfold upd
                by_cases q0 : j = pD_np D * 4 + 0
                · rw [if_neg (by omega), if_neg (by omega), if_neg (by omega), if_pos q0, if_pos q0]
                · by_cases q1 : j = pD_np D * 4 + 1
                  · rw [if_neg (by omega), if_neg (by omega), if_pos q1, if_neg q0, if_pos q1]
                  · by_cases q2 : j = pD_np D * 4 + 2
                    · rw [if_neg (by omega), if_pos q2, if_neg q0, if_neg q1, if_pos q2]
                    · rw [if_neg q2, if_neg q1, if_neg q0, if_neg q0, if_neg q1, if_neg q2]
              · show Mo_readName M6 = _
                rw [m5, l5, k5]
                show Mo_readName M2 = _
                rw [j5, i4.rn]
              · intro j
                show upd (upd (Mo_read M6) 3 (Mo_read M6 3 + 1)) 0 (upd (Mo_read M6) 3 (Mo_read M6 3 + 1) 0 + 1) j = _
                have h3 : Mo_read M6 3 + 1 = zn (pD_no D + 1) := by
                  rw [hr]
                  unfold upd
                  rw [if_neg (by omega), if_neg (by omega), if_neg (by omega), if_neg (by omega), d4]; exact zn_add _ 1
                have h0 : upd (Mo_read M6) 3 (Mo_read M6 3 + 1) 0 + 1 = zn (pD_np D + 1) := by
                  rw [pu_ne _ _ (by omega), hr]
                  unfold upd
                  rw [if_neg (by omega), if_neg (by omega), if_neg (by omega), if_neg (by omega), d1]; exact zn_add _ 1
                rw [h0, h3, hr]
                unfold upd
                by_cases q0 : j = 0
                · rw [if_pos q0, if_pos q0]
                · rw [if_neg q0, if_neg q0]
                  by_cases q3 : j = 3
                  · rw [if_pos q3, if_pos q3]; rfl
                  · rw [if_neg q3, if_neg q3]
                    by_cases q4 : j = 4 + pD_np D
                    · rw [if_neg (by omega), if_neg (by omega), if_neg (by omega), if_pos q4, if_pos q4]
                    · rw [if_neg q4]
                      by_cases q14 : j = 14 + pD_np D
                      · simp only [if_neg q4, if_pos q14, if_neg (show ¬ j = 24 + pD_np D by omega), if_neg (show ¬ j = 34 + pD_np D by omega)]
                      · rw [if_neg q14]
                        by_cases q24 : j = 24 + pD_np D
                        · simp only [if_neg q4, if_neg q14, if_pos q24, if_neg (show ¬ j = 34 + pD_np D by omega)]
                        · rw [if_neg q24]
                          by_cases q34 : j = 34 + pD_np D
                          · simp only [if_neg q4, if_neg q14, if_neg q24, if_pos q34]
                          · simp only [if_neg q34, if_neg q24, if_neg q14, if_neg q4]
              · exact ((w0.tr ⟨k6.1, k6.2.1, k6.2.2⟩).tr l6).tr ⟨m6.1, m6.2.1, m6.2.2⟩
            · rw [show f_X7_number R5 1 6 = some (zn 1, R6) from m1, ob_eq]
              refine (congrArg (fun z => pLine n most B M (pSz D) (Ld_lines L) _ z) (m2 _)).mpr ?_
              obtain ⟨L', hL'⟩ := pc_b125 (Ld_s_placeRows (Ld_s_placeRows (Ld_s_placeRows (Ld_s_placeNames L (vp_updL (Ld_placeNames L) (pD_np D) x)) (upd (Ld_placeRows (Ld_s_placeNames L (vp_updL (Ld_placeNames L) (pD_np D) x))) (pD_np D * 4 + 0) (zn 2))) (upd (Ld_placeRows (Ld_s_placeRows (Ld_s_placeNames L (vp_updL (Ld_placeNames L) (pD_np D) x)) (upd (Ld_placeRows (Ld_s_placeNames L (vp_updL (Ld_placeNames L) (pD_np D) x))) (pD_np D * 4 + 0) (zn 2)))) (pD_np D * 4 + 1) (zn y4))) (upd (Ld_placeRows (Ld_s_placeRows (Ld_s_placeRows (Ld_s_placeNames L (vp_updL (Ld_placeNames L) (pD_np D) x)) (upd (Ld_placeRows (Ld_s_placeNames L (vp_updL (Ld_placeNames L) (pD_np D) x))) (pD_np D * 4 + 0) (zn 2))) (upd (Ld_placeRows (Ld_s_placeRows (Ld_s_placeNames L (vp_updL (Ld_placeNames L) (pD_np D) x)) (upd (Ld_placeRows (Ld_s_placeNames L (vp_updL (Ld_placeNames L) (pD_np D) x))) (pD_np D * 4 + 0) (zn 2)))) (pD_np D * 4 + 1) (zn y4)))) (pD_np D * 4 + 2) (zn y5))) R6 (zn 2) (zn 1) (i := pD_np D * 4 + 3) (by omega)
              right
              exact ⟨L', R6, M6, hL', rfl, ⟨fk, pl, m3, m3'⟩, ((w0.tr ⟨k6.1, k6.2.1, k6.2.2⟩).tr l6).tr m4⟩
          · rw [show f_X7_number R4 0 99 = some (zn 0, R5) from l1, ob_eq]
            refine (congrArg (fun z => pLine n most B M (pSz D) (Ld_lines L) _ z) (l2 _)).mpr ?_
            right
            obtain ⟨L', hL'⟩ := pc_b101 l3 (Ld_s_placeRows (Ld_s_placeRows (Ld_s_placeNames L (vp_updL (Ld_placeNames L) (pD_np D) x)) (upd (Ld_placeRows (Ld_s_placeNames L (vp_updL (Ld_placeNames L) (pD_np D) x))) (pD_np D * 4 + 0) (zn 2))) (upd (Ld_placeRows (Ld_s_placeRows (Ld_s_placeNames L (vp_updL (Ld_placeNames L) (pD_np D) x)) (upd (Ld_placeRows (Ld_s_placeNames L (vp_updL (Ld_placeNames L) (pD_np D) x))) (pD_np D * 4 + 0) (zn 2)))) (pD_np D * 4 + 1) (zn y4))) (zn 2) (zn 0) (i := pD_np D * 4 + 2) (j := pD_np D * 4) (by omega) (by omega)
            exact ⟨L', R5, M5, hL', rfl, ⟨fk, pl, l3, l3'⟩, (w0.tr ⟨k6.1, k6.2.1, k6.2.2⟩).tr l4⟩
        · rw [show f_X7_number R2 0 12 = some (zn 0, R4) from k1, ob_eq]
          refine (congrArg (fun z => pLine n most B M (pSz D) (Ld_lines L) _ z) (k2 _)).mpr ?_
          right
          obtain ⟨L', hL'⟩ := pc_b77 k3 (Ld_s_placeRows (Ld_s_placeNames L (vp_updL (Ld_placeNames L) (pD_np D) x)) (upd (Ld_placeRows (Ld_s_placeNames L (vp_updL (Ld_placeNames L) (pD_np D) x))) (pD_np D * 4 + 0) (zn 2))) (zn 2) (zn 0) (i := pD_np D * 4 + 1) (j := pD_np D * 4) (by omega) (by omega)
          exact ⟨L', R4, M4, hL', rfl, ⟨fk, pl, k3, k3'⟩, w0.tr ⟨k4.1, k4.2.1, k4.2.2⟩⟩
      · -- a church or an inn
        have ns2 : ¬ zn s = (2 : Int32) := by rw [zn_l2, zn_eq (by omega) (by omega)]; exact s2
        rw [if_neg ns2, if_neg ns2]
        left
        unfold f_X3_readPlace_b77 f_X3_readPlace_b101 f_X3_readPlace_b125 f_X12_readPlace_b109
        rw [zb_zn (show pD_np D * 4 + 1 < 40 by omega) (by omega), if_pos rfl, show zn (pD_np D * 4) + (2 : Int32) = zn (pD_np D * 4 + 2) from zn_add _ 2, zb_zn (show pD_np D * 4 + 2 < 40 by omega) (by omega), show zn (pD_np D * 4) + (3 : Int32) = zn (pD_np D * 4 + 3) from zn_add _ 3, zb_zn (show pD_np D * 4 + 3 < 40 by omega) (by omega)]
        simp only [zl_eq, if_neg ns2, if_true]
        rw [zn_nat (show pD_np D * 4 + 1 < 2147483648 by omega), zn_nat (show pD_np D * 4 + 2 < 2147483648 by omega), zn_nat (show pD_np D * 4 + 3 < 2147483648 by omega)]
        obtain ⟨z1, z2, z3⟩ := hD.2.2.2.2.2.2.2.2.1 (pD_np D) (Nat.le_refl _) (by omega)
        refine ⟨_, R2, _, pAddP D s 0 0 0, rfl, rfl, ⟨j3.1, j3.2.1, j3.2.2.1, j3.2.2.2⟩, pAddP_q hD (by omega) hs (by omega) (by omega) (by omega) j4 (x1 := x) ?_ rfl rfl ?_ rfl rfl ?_ rfl rfl rfl ?_ ?_, w0, rfl, pAddP_sz _ _ _ _ _⟩
        · show Ld_places L + 1 = _
          rw [c1]; exact zn_add _ 1
        · rw [if_neg s2]; exact c4
        · intro j
          show upd (upd (upd (upd (Ld_placeRows L) (pD_np D * 4 + 0) (zn s)) (pD_np D * 4 + 1) (zn 0)) (pD_np D * 4 + 2) (zn 0)) (pD_np D * 4 + 3) (zn 0) j = _
          unfold upd
          by_cases q0 : j = pD_np D * 4 + 0
          · rw [if_neg (by omega), if_neg (by omega), if_neg (by omega), if_pos q0, if_pos q0]
          · by_cases q1 : j = pD_np D * 4 + 1
            · rw [if_neg (by omega), if_neg (by omega), if_pos q1, if_neg q0, if_pos q1]
            · by_cases q2 : j = pD_np D * 4 + 2
              · rw [if_neg (by omega), if_pos q2, if_neg q0, if_neg q1, if_pos q2]
              · rw [if_neg q2, if_neg q1, if_neg q0, if_neg q0, if_neg q1, if_neg q2]
        · show Mo_readName M2 = _
          rw [j5, i4.rn]
        · intro j
          show upd (upd (Mo_read M) (4 + pD_np D) (zn s)) 0 (upd (Mo_read M) (4 + pD_np D) (zn s) 0 + 1) j = _
          rw [pu_ne _ _ (show 0 ≠ 4 + pD_np D by omega), d1, show zn (pD_np D) + 1 = zn (pD_np D + 1) from zn_add _ 1, if_neg s2]
          unfold upd
          by_cases q0 : j = 0
          · rw [if_pos q0, if_pos q0]
          · rw [if_neg q0, if_neg q0]
            by_cases q3 : j = 3
            · rw [if_pos q3, if_neg (by omega), q3]; exact d4
            · rw [if_neg q3]
              by_cases q4 : j = 4 + pD_np D
              · rw [if_pos q4, if_pos q4]
              · rw [if_neg q4, if_neg q4]
                by_cases q14 : j = 14 + pD_np D
                · rw [if_pos q14, q14]; exact z1
                · rw [if_neg q14]
                  by_cases q24 : j = 24 + pD_np D
                  · rw [if_pos q24, q24]; exact z2
                  · rw [if_neg q24]
                    by_cases q34 : j = 34 + pD_np D
                    · rw [if_pos q34, q34]; exact z3
                    · rw [if_neg q34]
    · -- no new name
      right
      rw [j1, ob_eq, j2, ob_eq]
      simp only
      rw [zb_zn (show pD_np D < 10 by omega) (by omega), if_pos rfl, zl_eq]
      rw [show zn (pD_np D) * (4 : Int32) = zn (pD_np D * 4) from zn_mul _ 4, show zn (pD_np D * 4) + (0 : Int32) = zn (pD_np D * 4 + 0) from zn_add _ 0, show zn (pD_np D * 4) + (1 : Int32) = zn (pD_np D * 4 + 1) from zn_add _ 1, zb_zn (show pD_np D * 4 + 0 < 40 by omega) (by omega), if_pos rfl, zl_eq, j3.number, ob_eq]
      have hb : ∀ z, ∃ L', f_X3_readPlace_b77 (Ld_s_placeRows (Ld_s_placeNames L (vp_updL (Ld_placeNames L) (zn (pD_np D)).toNatClampNeg x)) (upd (Ld_placeRows (Ld_s_placeNames L (vp_updL (Ld_placeNames L) (zn (pD_np D)).toNatClampNeg x))) (zn (pD_np D * 4 + 0)).toNatClampNeg (zn s))) R2 (zn s) (zn (pD_np D * 4)) z (zn (pD_np D * 4 + 1)) = some (L', R2) := fun z => pc_b77 j3 _ _ _ (by omega) (by omega)
      have : ∃ L', (if zn s = (2 : Int32) then f_X3_readPlace_b77 (Ld_s_placeRows (Ld_s_placeNames L (vp_updL (Ld_placeNames L) (zn (pD_np D)).toNatClampNeg x)) (upd (Ld_placeRows (Ld_s_placeNames L (vp_updL (Ld_placeNames L) (zn (pD_np D)).toNatClampNeg x))) (zn (pD_np D * 4 + 0)).toNatClampNeg (zn s))) R2 (zn s) (zn (pD_np D * 4)) 0 (zn (pD_np D * 4 + 1)) else f_X3_readPlace_b77 (Ld_s_placeRows (Ld_s_placeNames L (vp_updL (Ld_placeNames L) (zn (pD_np D)).toNatClampNeg x)) (upd (Ld_placeRows (Ld_s_placeNames L (vp_updL (Ld_placeNames L) (zn (pD_np D)).toNatClampNeg x))) (zn (pD_np D * 4 + 0)).toNatClampNeg (zn s))) R2 (zn s) (zn (pD_np D * 4)) 0 (zn (pD_np D * 4 + 1))) = some (L', R2) := by
        split
        · exact hb 0
        · exact hb 0
      obtain ⟨L', hL'⟩ := this
      exact ⟨L', R2, M2, hL', rfl, ⟨fk, pl, j3, j3'⟩, i4.l.tr j4⟩
end
