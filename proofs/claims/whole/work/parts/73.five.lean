theorem zn_lt2 {a : Nat} (h : a < 2147483648) : (zn a < 2) = (a < 2) := zn_lt (b := 2) h (by omega)
theorem pFm.cgF {D : pD} {F F' : pF} {w : Nat → Int32} (h : pFm D F w) (hd : pF_day F' = pF_day F) (ho : ∀ m i, pF_o F' m i = pF_o F m i) : pFm D F' w :=
  ⟨by rw [hd]; exact h.1, fun m i hm hi => by rw [ho]; exact h.2 m i hm hi⟩
/-- where a man just is -/
def pPlace (F : pF) (m : Nat) : Int32 := if pF_o F m 0 ≤ 2 ∧ pF_o F m 13 = 0 then zn (pF_o F m 12) else zm
theorem pm_placeOf {D : pD} {F : pF} (hv : pV D) (M : MoT) {w : Nat → Int32} (h : pLm D w) (hF : pFm D F w) (s a b : Int32) {m : Nat} (hm : m < pD_nm D) (hf : pMv D (pF_o F m)) : ∃ a1 b1, f_X12_placeOf (pM M w s a b) (zn m) = some (pPlace F m, pM M w s a1 b1) := by
  have hm6 := Nat.lt_of_lt_of_le hm hv.nm
  obtain ⟨⟨b0, -⟩, ⟨h4, -⟩, h3, hj, hs, hw, h2⟩ := hf
  unfold f_X12_placeOf pPlace
  simp (disch := omega) only [zn_add, zb_zn, zn_nat, if_true, zl_eq, ob_eq, pM_now, pM_snow, pM_seed, pM_sseed, pM_road, pM_place, pM_sroad, pM_splace, zn_l44, zn_l144, zn_l160, zn_l176, zn_l192, zn_l208, zn_l224, zn_l230, zn_l236, zn_l242, zn_l243, zn_l343, zn_l443, zn_l444, zn_l450, zn_l456, zn_l462, zn_l468, zn_l474, zn_l480, zn_l486, zn_l492, zn_l498, zn_l504, zn_l510, zn_l516, zn_l517, zn_l518, hF.g0 hm, zn_eq0, zn_eq1, zn_eq2, hF.g4 hm, hF.g3 hm, hF.g5 hm]
  by_cases q0 : pF_o F m 0 = 0
  · have := hs q0
    rw [if_pos q0, if_pos ⟨by omega, this.2.2.2⟩, this.2.2.1]
    exact ⟨_, _, rfl⟩
  · obtain ⟨j1, j2, j3⟩ := hj q0
    obtain ⟨g, hg⟩ : ∃ g, pF_o F m 3 = g + 1 := ⟨pF_o F m 3 - 1, by omega⟩
    have h3b := (h3 j1).1
    rw [hg, Nat.add_sub_cancel] at h3b j2 j3 h2 hw
    rw [if_neg q0]
    by_cases q2 : pF_o F m 0 = 2
    · rw [if_pos q2, if_pos ⟨by omega, (h2 q2).2⟩, (h2 q2).1, hg]
      exact ⟨_, _, rfl⟩
    · rw [if_neg q2]
      by_cases q1 : pF_o F m 0 = 1
      · obtain ⟨w1, w2, w3, w4, w5⟩ := hw q1
        rw [if_pos q1, pm_layM hv M h hF s hm a b h4 h3b hg j2 (by omega), ob_eq, pM_place]
        refine ⟨_, _, congrArg some (Prod.ext ?_ rfl)⟩
        show pThere D g (pF_o F m 4) (pF_o F m 5) = _
        unfold pThere
        rw [← w5]
        by_cases q : pF_o F m 13 = 0
        · rw [if_pos q, if_pos ⟨by omega, q⟩]
        · rw [if_neg q, if_neg (fun z => q z.2)]
      · rw [if_neg q1, if_neg (by omega)]
        exact ⟨_, _, rfl⟩
theorem pMv.row {D : pD} {f g : Nat → Nat} (h : pMv D f) (e : ∀ i, g i = f i) : pMv D g := by
  have : g = f := funext e
  rw [this]; exact h
theorem q_swear_a {D : pD} {L : LdT} (hv : pV D) (h : pLc D L) (M : MoT) {F : pF} {K : FkT} {w : Nat → Int32} (hK : pFc D F K) (hL : pLm D w) (hF : pFm D F w) (s a b : Int32) (hV : pFv D F) {m p d : Nat} (hm : m < pD_nm D) (hp : p < pD_np D) (hport : pD_pl D p 0 = 2) (hd : 1 ≤ d) (hd2 : d ≤ 40) :
    pActR D F K M w s a b (f_X1_swears K L (zn m) (zn p) (zn d)) 0 (zn m) (zn p) (zn d) := by
  have hm6 := Nat.lt_of_lt_of_le hm hv.nm
  have hnp := hv.np
  obtain ⟨⟨b0, b1, b2, b8⟩, ⟨h4, h4b⟩, h3, hj, hs, hw, h2⟩ := hV.2 m hm
  have hfar := hv.far h4 hp
  have hme := hv.me hm
  unfold pActR f_X1_swears f_X12_why f_X12_why_b19
  simp (disch := omega) only [zn_add, zb_zn, zn_nat, if_true, zl_eq, ob_eq, pM_now, pM_snow, pM_seed, pM_sseed, pM_road, pM_place, pM_sroad, pM_splace, zn_l44, zn_l144, zn_l160, zn_l176, zn_l192, zn_l208, zn_l224, zn_l230, zn_l236, zn_l242, zn_l243, zn_l343, zn_l443, zn_l444, zn_l450, zn_l456, zn_l462, zn_l468, zn_l474, zn_l480, zn_l486, zn_l492, zn_l498, zn_l504, zn_l510, zn_l516, zn_l517, zn_l518, hF.g0 hm, hF.g4 hm, hF.g2 hm, pc_of0 hv hK hm, pc_of4 hv hK hm, pc_of2 hv hK hm, zn_eq0, zn_eq1, zn_eq2, pc_joined hv h h4 hp, pm_farOf hv (M := pM M w s a b) hL h4 hp, zn_l100000, zn_lt2, zn_lt, zn_eq, if_true]
  by_cases q0 : pF_o F m 0 = 0
  · by_cases qj : pD_far D (pF_o F m 4) p = 100000
    · refine ⟨2, K, by omega, ?_, rfl, ⟨a, b, ?_⟩, fun _ => rfl, fun z => absurd z (by omega)⟩
      · simp only [if_pos q0, if_pos qj]; rfl
      · have : ¬ pD_far D (pF_o F m 4) p < 100000 := by omega
        have n1 : ¬ pF_o F m 0 = 1 := by omega
        simp only [if_pos q0, if_neg this, if_neg n1]; rfl
    · have qj2 : pD_far D (pF_o F m 4) p < 100000 := by omega
      have n1 : ¬ pF_o F m 0 = 1 := by omega
      by_cases q2 : pF_o F m 2 < 2
      · have q2' : ¬ pF_o F m 2 = 2 := by omega
        -- done
        have k0 : pFc D (pUp F m 0 1) (Fk_s_row K (upd (Fk_row K) (m * 13 + 0) (1 : Int32))) := hK.p0 (m := m) (v := 1)
        have r2 : pF_o (pUp F m 0 1) m 2 = pF_o F m 2 := pUp_nei _ _ (by omega)
        have k1 := k0.p2 (m := m) (v := pF_o F m 2 + 1)
        have k2 := k1.p3 (m := m) (v := p + 1)
        have k3 := k2.p5 (m := m) (v := 0)
        have k4 := (k3.skip (m := m) (v := pD_far D (pF_o F m 4) p)).p7 (m := m) (v := d)
        have k5 := k4.p8 (m := m) (v := pD_me D m 1)
        have k6 := k5.p9 (m := m) (v := 0)
        have f0 := hF.p0 hv hm (v := 1)
        have f1 := f0.p2 hv hm (v := pF_o F m 2 + 1)
        have f2 := f1.p3 hv hm (v := p + 1)
        have f3 := f2.p5 hv hm (v := 0)
        have f3L := hL.fr' hv (((((pFr.rf w).up (j := 444 + m) (by omega) (by omega) (zn 1)).up (j := 456 + m) (by omega) (by omega) (zn (pF_o F m 2 + 1))).up (j := 462 + m) (by omega) (by omega) (zo (p + 1))).up (j := 474 + m) (by omega) (by omega) (zn 0))
        have f4 := f3.p6 hv hm (v := pD_far D (pF_o F m 4) p)
        have f5 := f4.p7 hv hm (v := d)
        have f5L := ((f3L.fr' hv ((pFr.rf _).up (j := 480 + m) (by omega) (by omega) (zn (pD_far D (pF_o F m 4) p)))).fr' hv ((pFr.rf _).up (j := 486 + m) (by omega) (by omega) (zn d)))
        have f6 := f5.p8 hv hm (v := pD_me D m 1)
        have f7 := f6.p9 hv hm (v := 0)
        have r4 : pF_o (pUp (pUp (pUp (pUp F m 0 1) m 2 (pF_o F m 2 + 1)) m 3 (p + 1)) m 5 0) m 4 = pF_o F m 4 := by
          rw [pUp_nei _ _ (by omega), pUp_nei _ _ (by omega), pUp_nei _ _ (by omega), pUp_nei _ _ (by omega)]
        have hne : pF_o F m 4 ≠ p := fun e => by rw [e, hport] at h4b; omega
        have hst := hv.stp h4 hp hne qj
        refine ⟨0, _, by omega, ?_, ?_, ⟨a, b, ?_⟩, fun z => absurd rfl z, fun _ => ⟨_, _, k6, f7, ⟨hV.1, fun m' hm' => ?_⟩, ?_, rfl, fun M1 s1 a1 b1 => ⟨a1, b1, ?_⟩⟩⟩
        · simp only [if_pos q0, if_neg qj, if_pos q2, if_neg (show ¬ (1 : Int32) = 0 by decide)]
          rw [pc_put0 hv hm, ob_eq, pc_more2 hv k0 hm, ob_eq, r2, zn_l1, zn_add, pc_put3 hv hm, ob_eq, pc_put5 hv hm, ob_eq, pc_put6 hv hm, ob_eq, show f_X3_ofMan L (zn m) (zn 1) = some (zn (pD_me D m 1)) from pc_ofMan hv h hm (by omega), ob_eq, pc_put7 hv hm, ob_eq, pc_put8 hv hm, ob_eq]
          rfl
        · rfl
        · simp only [if_pos q0, if_pos qj2, if_neg n1, if_neg q2']; rfl
        · by_cases z : m' = m
          · subst z
            rw [pUp_row, pUp_row, pUp_row, pUp_row, pUp_row, pUp_row, pUp_row, pUp_row]
            refine ⟨⟨show (1 : Nat) ≤ 5 by decide, b1, show pF_o F m' 2 + 1 ≤ 2 by omega, show pD_me D m' 1 ≤ 20 by omega⟩, ⟨h4, h4b⟩, fun _ => ⟨hp, hport⟩, fun _ => ⟨show p + 1 ≠ 0 by omega, qj, rfl⟩, fun e => absurd (show 1 = 0 from e) (by decide), fun _ => ⟨?_, hd, hd2, Nat.zero_le _, ?_⟩, fun e => absurd (show 1 = 2 from e) (by decide)⟩
            · show 0 < pD_far D (pF_o F m' 4) p
              omega
            · show (pF_o F m' 12, pF_o F m' 13) = pWalk D p 10 (pF_o F m' 4) 0
              rw [pWalk_stay (Or.inr (by omega)), (hs q0).2.2.1, (hs q0).2.2.2]
          · rw [pUp_rown _ z, pUp_rown _ z, pUp_rown _ z, pUp_rown _ z, pUp_rown _ z, pUp_rown _ z, pUp_rown _ z, pUp_rown _ z]; exact hV.2 m' hm'
        · exact ((((((((pFr.rf w).up (by omega) (by omega) _).up (by omega) (by omega) _).up (by omega) (by omega) _).up (by omega) (by omega) _).up (by omega) (by omega) _).up (by omega) (by omega) _).up (by omega) (by omega) _).up (by omega) (by omega) _
        · unfold f_X12_live f_X12_doSwear
          rw [if_pos rfl]
          have e2 := f0.g2 hm
          rw [r2] at e2
          have e4 := f3.g4 hm
          rw [r4] at e4
          have e230 := (f5L.2.2.2.1 m hm).2.1
          rw [show zo (p + 1) = zn p from rfl] at e4 e230 f3L
          simp (disch := omega) only [zn_add, zb_zn, zn_nat, if_true, zl_eq, ob_eq, pM_now, pM_snow, pM_seed, pM_sseed, pM_road, pM_place, pM_sroad, pM_splace, zn_l44, zn_l144, zn_l160, zn_l176, zn_l192, zn_l208, zn_l224, zn_l230, zn_l236, zn_l242, zn_l243, zn_l343, zn_l443, zn_l444, zn_l450, zn_l456, zn_l462, zn_l468, zn_l474, zn_l480, zn_l486, zn_l492, zn_l498, zn_l504, zn_l510, zn_l516, zn_l517, zn_l518, e2, zn_l1]
          rw [show (0 : Int32) = zn 0 from rfl]
          rw [e4, pm_farOf hv (M := pM M1 (upd (upd (upd (upd w (444 + m) (zn 1)) (456 + m) (zn (pF_o F m 2 + 1))) (462 + m) (zn p)) (474 + m) (zn 0)) s1 a1 b1) f3L h4 hp, ob_eq, e230]; rfl
      · have q2' : pF_o F m 2 = 2 := by omega
        refine ⟨3, K, by omega, ?_, rfl, ⟨a, b, ?_⟩, fun _ => rfl, fun z => absurd z (by omega)⟩
        · simp only [if_pos q0, if_neg qj, if_neg q2, if_neg (show ¬ (1 : Int32) = 0 by decide)]; rfl
        · simp only [if_pos q0, if_pos qj2, if_neg n1, if_pos q2']; rfl
  · refine ⟨1, K, by omega, ?_, rfl, ⟨a, b, ?_⟩, fun _ => rfl, fun z => absurd z (by omega)⟩
    · simp only [if_neg q0]; rfl
    · simp only [if_neg q0]
      split <;> rfl

theorem q_order_a {D : pD} {L : LdT} (hv : pV D) (h : pLc D L) (M : MoT) {F : pF} {K : FkT} {w : Nat → Int32} (hK : pFc D F K) (hL : pLm D w) (hF : pFm D F w) (s a b : Int32) (hV : pFv D F) {m n : Nat} (hm : m < pD_nm D) (hn : n ≤ 20) (y : Int32) :
    pActR D F K M w s a b (f_X1_orders K L (zn m) (zn n)) 1 (zn m) (zn n) y := by
  have hm6 := Nat.lt_of_lt_of_le hm hv.nm
  have hMv := hV.2 m hm
  obtain ⟨⟨b0, b1, b2, b8⟩, ⟨h4, h4b⟩, h3, hj, hs, hw, h2⟩ := hMv
  have hme := hv.me hm
  unfold pActR f_X1_orders f_X12_why f_X12_why_b19
  rw [show f_X3_ofMan L (zn m) 1 = some (zn (pD_me D m 1)) from pc_ofMan hv h hm (k := 1) (by omega)]
  simp (disch := omega) only [zn_add, zb_zn, zn_nat, if_true, zl_eq, ob_eq, pM_now, pM_snow, pM_seed, pM_sseed, pM_road, pM_place, pM_sroad, pM_splace, zn_l44, zn_l144, zn_l160, zn_l176, zn_l192, zn_l208, zn_l224, zn_l230, zn_l236, zn_l242, zn_l243, zn_l343, zn_l443, zn_l444, zn_l450, zn_l456, zn_l462, zn_l468, zn_l474, zn_l480, zn_l486, zn_l492, zn_l498, zn_l504, zn_l510, zn_l516, zn_l517, zn_l518, hF.g0 hm, hF.g8 hm, pc_of0 hv hK hm, pc_of7 hv hK hm, (hL.2.2.2.1 m hm).2.1, zn_eq1, zn_lt, zn_eq, if_true]
  by_cases q1 : pF_o F m 0 = 1
  · by_cases q2 : pD_me D m 1 < n
    · refine ⟨2, K, by omega, ?_, rfl, ⟨a, b, ?_⟩, fun _ => rfl, fun z => absurd z (by omega)⟩
      · simp only [if_pos q1, if_pos q2]; rfl
      · simp only [if_pos q1, if_pos q2]; rfl
    · by_cases q3 : n = pF_o F m 8
      · refine ⟨3, K, by omega, ?_, rfl, ⟨a, b, ?_⟩, fun _ => rfl, fun z => absurd z (by omega)⟩
        · simp only [if_pos q1, if_neg q2, if_pos q3]; rfl
        · simp only [if_pos q1, if_neg q2, if_pos q3.symm]; rfl
      · have q3' : ¬ pF_o F m 8 = n := fun e => q3 e.symm
        refine ⟨0, _, by omega, ?_, ?_, ⟨a, b, ?_⟩, fun z => absurd rfl z, fun _ => ⟨_, _, hK.p8 (m := m) (v := n), hF.p8 hv hm (v := n), ⟨hV.1, fun m' hm' => ?_⟩, (pFr.rf w).up (by omega) (by omega) _, rfl, fun M1 s1 a1 b1 => ⟨a1, b1, ?_⟩⟩⟩
        · simp only [if_pos q1, if_neg q2, if_neg q3]
          rw [pc_put7 hv hm, ob_eq]; rfl
        · rfl
        · simp only [if_pos q1, if_neg q2, if_neg q3']; rfl
        · by_cases z : m' = m
          · subst z
            rw [pUp_row]
            exact ⟨⟨b0, b1, b2, hn⟩, ⟨h4, h4b⟩, h3, hj, hs, hw, h2⟩
          · rw [pUp_rown _ z]; exact hV.2 m' hm'
        · unfold f_X12_live
          rw [if_neg (by decide), if_pos rfl]
          simp (disch := omega) only [zn_add, zb_zn, zn_nat, if_true, zl_eq, ob_eq, pM_now, pM_snow, pM_seed, pM_sseed, pM_road, pM_place, pM_sroad, pM_splace, zn_l44, zn_l144, zn_l160, zn_l176, zn_l192, zn_l208, zn_l224, zn_l230, zn_l236, zn_l242, zn_l243, zn_l343, zn_l443, zn_l444, zn_l450, zn_l456, zn_l462, zn_l468, zn_l474, zn_l480, zn_l486, zn_l492, zn_l498, zn_l504, zn_l510, zn_l516, zn_l517, zn_l518]
  · refine ⟨1, K, by omega, ?_, rfl, ⟨a, b, ?_⟩, fun _ => rfl, fun z => absurd z (by omega)⟩
    · simp only [if_neg q1]; rfl
    · simp only [if_neg q1]; rfl
theorem q_slip_a {D : pD} (hv : pV D) (M : MoT) {F : pF} {K : FkT} {w : Nat → Int32} (hK : pFc D F K) (hF : pFm D F w) (s a b : Int32) (hV : pFv D F) {m : Nat} (hm : m < pD_nm D) (x y : Int32) :
    pActR D F K M w s a b (f_X1_slips K (zn m)) 2 (zn m) x y := by
  have hm6 := Nat.lt_of_lt_of_le hm hv.nm
  obtain ⟨⟨b0, b1, b2, b8⟩, ⟨h4, h4b⟩, h3, hj, hs, hw, h2⟩ := hV.2 m hm
  unfold pActR f_X1_slips f_X12_why f_X12_why_b19
  simp (disch := omega) only [zn_add, zb_zn, zn_nat, if_true, zl_eq, ob_eq, pM_now, pM_snow, pM_seed, pM_sseed, pM_road, pM_place, pM_sroad, pM_splace, zn_l44, zn_l144, zn_l160, zn_l176, zn_l192, zn_l208, zn_l224, zn_l230, zn_l236, zn_l242, zn_l243, zn_l343, zn_l443, zn_l444, zn_l450, zn_l456, zn_l462, zn_l468, zn_l474, zn_l480, zn_l486, zn_l492, zn_l498, zn_l504, zn_l510, zn_l516, zn_l517, zn_l518, hF.g0 hm, pc_of0 hv hK hm, zn_eq1, zn_eq, if_true]
  by_cases q1 : pF_o F m 0 = 1
  · refine ⟨0, _, by omega, ?_, ?_, ⟨a, b, ?_⟩, fun z => absurd rfl z, fun _ => ⟨_, _, hK.p0 (m := m) (v := 4), hF.p0 hv hm (v := 4), ⟨hV.1, fun m' hm' => ?_⟩, (pFr.rf w).up (by omega) (by omega) _, rfl, fun M1 s1 a1 b1 => ⟨a1, b1, ?_⟩⟩⟩
    · simp only [if_pos q1]
      rw [pc_put0 hv hm, ob_eq]; rfl
    · rfl
    · simp only [if_pos q1]; rfl
    · by_cases z : m' = m
      · subst z
        rw [pUp_row]
        exact ⟨⟨show (4 : Nat) ≤ 5 by decide, b1, b2, b8⟩, ⟨h4, h4b⟩, h3, fun _ => hj (by omega), fun e => absurd (show 4 = 0 from e) (by decide), fun e => absurd (show 4 = 1 from e) (by decide), fun e => absurd (show 4 = 2 from e) (by decide)⟩
      · rw [pUp_rown _ z]; exact hV.2 m' hm'
    · unfold f_X12_live
      rw [if_neg (by decide), if_neg (by decide), if_pos rfl]
      simp (disch := omega) only [zn_add, zb_zn, zn_nat, if_true, zl_eq, ob_eq, pM_now, pM_snow, pM_seed, pM_sseed, pM_road, pM_place, pM_sroad, pM_splace, zn_l44, zn_l144, zn_l160, zn_l176, zn_l192, zn_l208, zn_l224, zn_l230, zn_l236, zn_l242, zn_l243, zn_l343, zn_l443, zn_l444, zn_l450, zn_l456, zn_l462, zn_l468, zn_l474, zn_l480, zn_l486, zn_l492, zn_l498, zn_l504, zn_l510, zn_l516, zn_l517, zn_l518]; rfl
  · refine ⟨1, K, by omega, ?_, rfl, ⟨a, b, ?_⟩, fun _ => rfl, fun z => absurd z (by omega)⟩
    · simp only [if_neg q1]; rfl
    · simp only [if_neg q1]; rfl
theorem q_enter_a {D : pD} {L : LdT} (hv : pV D) (h : pLc D L) (M : MoT) {F : pF} {K : FkT} {w : Nat → Int32} (hK : pFc D F K) (hL : pLm D w) (hF : pFm D F w) (s a b : Int32) (hV : pFv D F) {m : Nat} (hm : m < pD_nm D) (x y : Int32) :
    pActR D F K M w s a b (f_X1_enters K L (zn m)) 3 (zn m) x y := by
  have hm6 := Nat.lt_of_lt_of_le hm hv.nm
  have hnp := hv.np
  have hMv := hV.2 m hm
  have hMv' := hMv
  obtain ⟨⟨b0, b1, b2, b8⟩, ⟨h4, h4b⟩, h3, hj, hs, hw, h2⟩ := hMv
  unfold pActR f_X1_enters f_X12_why f_X12_why_b19
  rw [pc_of0 hv hK hm, ob_eq, pc_of11 hv hK hm, ob_eq, pc_of12 hv hK hm, ob_eq]
  simp only [if_neg (show ¬ (3 : Int32) = 0 by decide), if_neg (show ¬ (3 : Int32) = 1 by decide), if_neg (show ¬ (3 : Int32) = 2 by decide), ite_true, ite_self]
  unfold f_X12_whyEnter f_X12_whyEnter_b38
  simp (disch := omega) only [zn_add, zb_zn, zn_nat, if_true, zl_eq, ob_eq, pM_now, pM_snow, pM_seed, pM_sseed, pM_road, pM_place, pM_sroad, pM_splace, zn_l44, zn_l144, zn_l160, zn_l176, zn_l192, zn_l208, zn_l224, zn_l230, zn_l236, zn_l242, zn_l243, zn_l343, zn_l443, zn_l444, zn_l450, zn_l456, zn_l462, zn_l468, zn_l474, zn_l480, zn_l486, zn_l492, zn_l498, zn_l504, zn_l510, zn_l516, zn_l517, zn_l518, hF.g0 hm, zn_eq1, zn_eq, if_true]
  by_cases q1 : pF_o F m 0 = 1
  · have hmt := hMv'.mt q1
    obtain ⟨p1, p2, p3, p4, p5, p6⟩ := hmt.pos hv
    obtain ⟨a1, b1', hpl⟩ := pm_placeOf hv M hL hF s a b hm hMv'
    simp only [if_pos q1]
    rw [hpl]
    by_cases q : pF_o F m 13 = 0
    · have e : pPlace F m = zn (pF_o F m 12) := by unfold pPlace; rw [if_pos ⟨by omega, q⟩]
      have hpp := hv.pl p1
      have c1 : ¬ zn (pF_o F m 12) = (-1 : Int32) := by rw [show (-1 : Int32) = zm from rfl, zm_eq (by omega)]; exact id
      have cq : zn (pF_o F m 13) = 0 := by rw [q]; rfl
      rw [e, show f_X3_ofPlace L (zn (pF_o F m 12)) 0 = some (zn (pD_pl D (pF_o F m 12) 0)) from pc_ofPlace hv h p1 (k := 0) (by omega)]
      simp (disch := omega) only [zn_add, zb_zn, zn_nat, if_true, zl_eq, ob_eq, pM_now, pM_snow, pM_seed, pM_sseed, pM_road, pM_place, pM_sroad, pM_splace, zn_l44, zn_l144, zn_l160, zn_l176, zn_l192, zn_l208, zn_l224, zn_l230, zn_l236, zn_l242, zn_l243, zn_l343, zn_l443, zn_l444, zn_l450, zn_l456, zn_l462, zn_l468, zn_l474, zn_l480, zn_l486, zn_l492, zn_l498, zn_l504, zn_l510, zn_l516, zn_l517, zn_l518, if_neg c1, show ∀ x, (4 : Int32) + zn x = zn (4 + x) from fun x => zn_add 4 x, (hL.2.1 _ p1).1, zn_eq0, if_pos q]
      by_cases qc : pD_pl D (pF_o F m 12) 0 = 0
      · have k0 := hK.p0 (m := m) (v := 0)
        have k1 := k0.p4 (m := m) (v := pF_o F m 12)
        have k2 := (k1.p5 (m := m) (v := 0)).skip (m := m) (v := 0)
        have k3 := k2.p9 (m := m) (v := 0)
        have f0 := hF.p4 hv hm (v := pF_o F m 12)
        have f1 := f0.p0 hv hm (v := 0)
        have f2 := f1.p5 hv hm (v := 0)
        have f3 := f2.p6 hv hm (v := 0)
        have f4 := f3.p9 hv hm (v := 0)
        have eo : ∀ m' i, pF_o (pUp (pUp (pUp (pUp (pUp F m 0 0) m 4 (pF_o F m 12)) m 5 0) m 6 0) m 9 0) m' i = pF_o (pUp (pUp (pUp (pUp (pUp F m 4 (pF_o F m 12)) m 0 0) m 5 0) m 6 0) m 9 0) m' i := by
          intro m' i
          simp only [pUp, pF_o]
          by_cases z9 : m' = m ∧ i = 9
          · rw [if_pos z9, if_pos z9]
          · rw [if_neg z9, if_neg z9]
            by_cases z6 : m' = m ∧ i = 6
            · rw [if_pos z6, if_pos z6]
            · rw [if_neg z6, if_neg z6]
              by_cases z5 : m' = m ∧ i = 5
              · rw [if_pos z5, if_pos z5]
              · rw [if_neg z5, if_neg z5]
                by_cases z4 : m' = m ∧ i = 4
                · rw [if_pos z4, if_neg (by omega), if_pos z4]
                · rw [if_neg z4]
                  by_cases z0 : m' = m ∧ i = 0
                  · rw [if_pos z0, if_pos z0]
                  · rw [if_neg z0, if_neg z0, if_neg z4]
        refine ⟨0, _, by omega, ?_, ?_, ⟨a1, b1', ?_⟩, fun z => absurd rfl z, fun _ => ⟨_, _, k3, f4.cgF rfl eo, ⟨hV.1, fun m' hm' => ?_⟩, (((((pFr.rf w).up (by omega) (by omega) _).up (by omega) (by omega) _).up (by omega) (by omega) _).up (by omega) (by omega) _).up (by omega) (by omega) _, rfl, fun M1 s1 a3 b3 => ?_⟩⟩
        · simp only [if_pos qc]
          rw [pc_put0 hv hm, ob_eq, pc_put4 hv hm, ob_eq, pc_put5 hv hm, ob_eq, pc_put8 hv hm, ob_eq]; rfl
        · rfl
        · simp only [if_pos qc]; rfl
        · by_cases z : m' = m
          · subst z
            rw [pUp_row, pUp_row, pUp_row, pUp_row, pUp_row]
            exact ⟨⟨Nat.zero_le _, b1, b2, b8⟩, ⟨p1, qc⟩, h3, fun e => absurd rfl e, fun _ => ⟨rfl, rfl, rfl, q⟩, fun e => absurd (show 0 = 1 from e) (by decide), fun e => absurd (show 0 = 2 from e) (by decide)⟩
          · rw [pUp_rown _ z, pUp_rown _ z, pUp_rown _ z, pUp_rown _ z, pUp_rown _ z]; exact hV.2 m' hm'
        · unfold f_X12_live f_X12_doEnter
          obtain ⟨a4, b4, hpl2⟩ := pm_placeOf hv M1 hL hF s1 a3 b3 hm hMv'
          rw [if_neg (show ¬ (3 : Int32) = 0 by decide), if_neg (show ¬ (3 : Int32) = 1 by decide), if_neg (show ¬ (3 : Int32) = 2 by decide), if_pos (show (3 : Int32) = 3 from rfl), hpl2, e]
          simp (disch := omega) only [zn_add, zb_zn, zn_nat, if_true, zl_eq, ob_eq, pM_now, pM_snow, pM_seed, pM_sseed, pM_road, pM_place, pM_sroad, pM_splace, zn_l44, zn_l144, zn_l160, zn_l176, zn_l192, zn_l208, zn_l224, zn_l230, zn_l236, zn_l242, zn_l243, zn_l343, zn_l443, zn_l444, zn_l450, zn_l456, zn_l462, zn_l468, zn_l474, zn_l480, zn_l486, zn_l492, zn_l498, zn_l504, zn_l510, zn_l516, zn_l517, zn_l518]
          exact ⟨a4, b4, rfl⟩
      · refine ⟨2, K, by omega, ?_, rfl, ⟨a1, b1', ?_⟩, fun _ => rfl, fun z => absurd z (by omega)⟩
        · simp only [if_neg qc]; rfl
        · simp only [if_neg qc]; rfl
    · have e : pPlace F m = zm := by unfold pPlace; rw [if_neg (fun z => q z.2)]
      have cq : ¬ zn (pF_o F m 13) = 0 := by rw [zn_eq0 (by omega)]; exact q
      refine ⟨2, K, by omega, ?_, rfl, ⟨a1, b1', ?_⟩, fun _ => rfl, fun z => absurd z (by omega)⟩
      · simp only [if_neg cq]; rfl
      · rw [e, ob_eq, if_pos (show zm = (-1 : Int32) from rfl)]; rfl
  · refine ⟨1, K, by omega, ?_, rfl, ⟨a, b, ?_⟩, fun _ => rfl, fun z => absurd z (by omega)⟩
    · simp only [if_neg q1]; rfl
    · simp only [if_neg q1]; rfl
theorem q_get_a {D : pD} (hv : pV D) (M : MoT) {F : pF} {K : FkT} {w : Nat → Int32} (hK : pFc D F K) (hF : pFm D F w) (s a b : Int32) (hV : pFv D F) {m n : Nat} (hm : m < pD_nm D) (hn : n ≤ 99) (y : Int32) :
    pActR D F K M w s a b (f_X1_gets K (zn m) (zn n)) 4 (zn m) (zn n) y := by
  have hm6 := Nat.lt_of_lt_of_le hm hv.nm
  obtain ⟨⟨b0, b1, b2, b8⟩, ⟨h4, h4b⟩, h3, hj, hs, hw, h2⟩ := hV.2 m hm
  have lt2 : ((2 : Int32) < zn (pF_o F m 0)) = (2 < pF_o F m 0) := zn_lt (a := 2) (by omega) (by omega)
  unfold pActR f_X1_gets f_X12_why f_X12_why_b19
  simp (disch := omega) only [zn_add, zb_zn, zn_nat, if_true, zl_eq, ob_eq, pM_now, pM_snow, pM_seed, pM_sseed, pM_road, pM_place, pM_sroad, pM_splace, zn_l44, zn_l144, zn_l160, zn_l176, zn_l192, zn_l208, zn_l224, zn_l230, zn_l236, zn_l242, zn_l243, zn_l343, zn_l443, zn_l444, zn_l450, zn_l456, zn_l462, zn_l468, zn_l474, zn_l480, zn_l486, zn_l492, zn_l498, zn_l504, zn_l510, zn_l516, zn_l517, zn_l518, hF.g0 hm, pc_of0 hv hK hm, pc_of1 hv hK hm, zn_eq1, lt2, zn_eq, zn_l999, zr_min_zn, if_true]
  simp only [if_neg (show ¬ (4 : Int32) = 0 by decide), if_neg (show ¬ (4 : Int32) = 1 by decide), if_neg (show ¬ (4 : Int32) = 2 by decide), if_neg (show ¬ (4 : Int32) = 3 by decide)]
  by_cases q : 2 < pF_o F m 0
  · refine ⟨1, K, by omega, ?_, rfl, ⟨a, b, ?_⟩, fun _ => rfl, fun z => absurd z (by omega)⟩
    · simp only [if_pos q]; rfl
    · simp only [if_pos q, ite_self]; rfl
  · refine ⟨0, _, by omega, ?_, ?_, ⟨a, b, ?_⟩, fun z => absurd rfl z, fun _ => ⟨_, _, hK.p1 (m := m) (v := min 999 (pF_o F m 1 + n)), hF.p1 hv hm (v := min 999 (pF_o F m 1 + n)), ⟨hV.1, fun m' hm' => ?_⟩, (pFr.rf w).up (by omega) (by omega) _, rfl, fun M1 s1 a1 b1 => ⟨a1, b1, ?_⟩⟩⟩
    · simp only [if_neg q]
      rw [pc_put1 hv hm, ob_eq]; rfl
    · rfl
    · simp only [if_neg q, ite_self]; rfl
    · by_cases z : m' = m
      · subst z
        rw [pUp_row]
        exact ⟨⟨b0, show min 999 (pF_o F m' 1 + n) ≤ 999 by omega, b2, b8⟩, ⟨h4, h4b⟩, h3, hj, hs, hw, h2⟩
      · rw [pUp_rown _ z]; exact hV.2 m' hm'
    · unfold f_X12_live
      rw [if_neg (show ¬ (4 : Int32) = 0 by decide), if_neg (show ¬ (4 : Int32) = 1 by decide), if_neg (show ¬ (4 : Int32) = 2 by decide), if_neg (show ¬ (4 : Int32) = 3 by decide)]
      simp (disch := omega) only [zn_add, zb_zn, zn_nat, if_true, zl_eq, ob_eq, pM_now, pM_snow, pM_seed, pM_sseed, pM_road, pM_place, pM_sroad, pM_splace, zn_l44, zn_l144, zn_l160, zn_l176, zn_l192, zn_l208, zn_l224, zn_l230, zn_l236, zn_l242, zn_l243, zn_l343, zn_l443, zn_l444, zn_l450, zn_l456, zn_l462, zn_l468, zn_l474, zn_l480, zn_l486, zn_l492, zn_l498, zn_l504, zn_l510, zn_l516, zn_l517, zn_l518, hF.g1 hm, zn_l999, pm_least]
