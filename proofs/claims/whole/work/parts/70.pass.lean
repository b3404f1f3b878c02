theorem zn_addneg {a b : Nat} (h : b ≤ a) : zn a + -(zn b) = zn (a - b) := by
  rw [← zi_zn, ← zi_zn, zi_neg, zi_add, ← zi_zn]; congr 1; omega
/-- a day of one who waits -/
theorem q_wait {D : pD} {L : LdT} (hv : pV D) (h : pLc D L) (M : MoT) {F : pF} {K : FkT} {w : Nat → Int32} (hK : pFc D F K) (hL : pLm D w) (hF : pFm D F w) (a b : Int32) {m : Nat} (hm : m < pD_nm D) (hV : pFv D F) (hw : pF_o F m 0 = 2) :
    ∃ F' K' w' a' b', f_X1_waitForShip K L (zn m) = some K' ∧ f_X12_waits (pM M w (Fk_seed K) a b) (zn m) = some (pM M w' (Fk_seed K') a' b') ∧ pFc D F' K' ∧ pFm D F' w' ∧ pFv D F' ∧ pFr w w' ∧ pF_day F' = pF_day F ∧ ∀ m', m' ≠ m → pF_o F' m' = pF_o F m' := by
  have hm6 := Nat.lt_of_lt_of_le hm hv.nm
  have hMv := hV.2 m hm
  have ho : ∀ m', m' < pD_nm D → m' ≠ m → pMv D (pF_o F m') := fun m' h' _ => hV.2 m' h'
  have hMv' := hMv
  obtain ⟨⟨b0, b1, b2, b8⟩, h4, h3, hj, -, -, h2⟩ := hMv
  obtain ⟨j1, j2, j3⟩ := hj (by omega)
  obtain ⟨g, hg⟩ : ∃ g, pF_o F m 3 = g + 1 := ⟨pF_o F m 3 - 1, by omega⟩
  have h3b := (h3 j1).1
  rw [hg, Nat.add_sub_cancel] at h3b
  have hpl := hv.pl h3b
  have hnp := hv.np
  have hK2 := hK.seed (pRand (Fk_seed K))
  have hs2 : Fk_seed (Fk_s_seed K (pRand (Fk_seed K))) = pRand (Fk_seed K) := by generalize pRand (Fk_seed K) = v; rfl
  -- one waits on
  have wade : ∃ F' K' w' a' b', f_X1_waitForShip_b72 (Fk_s_seed K (pRand (Fk_seed K))) L (zn m) = some K' ∧ f_X12_waits_b97 (pM M w (pRand (Fk_seed K)) a b) (zn m) = some (pM M w' (Fk_seed K') a' b') ∧ pFc D F' K' ∧ pFm D F' w' ∧ pFv D F' ∧ pFr w w' ∧ pF_day F' = pF_day F ∧ ∀ m', m' ≠ m → pF_o F' m' = pF_o F m' := by
    unfold f_X1_waitForShip_b72 f_X12_waits_b97
    rw [pc_more9 hv hK2 hm, ob_some, zn_l1, zn_add]
    simp (disch := omega) only [zn_add, zb_zn, zn_nat, if_true, zlet, ob_some, pM_now, pM_snow, pM_seed, pM_sseed, pM_road, pM_place, pM_sroad, pM_splace, zn_l44, zn_l144, zn_l160, zn_l176, zn_l192, zn_l208, zn_l224, zn_l230, zn_l236, zn_l242, zn_l243, zn_l343, zn_l443, zn_l444, zn_l450, zn_l456, zn_l462, zn_l468, zn_l474, zn_l480, zn_l486, zn_l492, zn_l498, zn_l504, zn_l510, zn_l516, zn_l517, zn_l518, hF.g10 hm]
    refine ⟨_, _, _, a, b, rfl, ?_, hK2.p10, hF.p10 hv hm, ⟨hV.1, fun m' hm' => ?_⟩, (pFr.rf w).up (by omega) (by omega) _, rfl, fun m' z => by rw [pUp_rown _ z]⟩
    · rw [show ∀ f, Fk_seed (Fk_s_row (Fk_s_seed K (pRand (Fk_seed K))) f) = Fk_seed (Fk_s_seed K (pRand (Fk_seed K))) from fun f => by generalize pRand (Fk_seed K) = v; rfl, hs2]
    · by_cases z : m' = m
      · rw [z, pUp_row]; exact hMv'
      · rw [pUp_rown _ z]; exact ho m' hm' z
  unfold f_X1_waitForShip f_X12_waits
  rw [pc_of3 hv hK hm, hg, ob_some, pc_draw12, ob_some, show zo (g + 1) = zn g from rfl, show f_X3_ofPlace L (zn g) 1 = some (zn (pD_pl D g 1)) from pc_ofPlace hv h h3b (k := 1) (by omega), ob_some]
  simp (disch := omega) only [zn_add, zb_zn, zn_nat, if_true, zlet, ob_some, pM_now, pM_snow, pM_seed, pM_sseed, pM_road, pM_place, pM_sroad, pM_splace, zn_l44, zn_l144, zn_l160, zn_l176, zn_l192, zn_l208, zn_l224, zn_l230, zn_l236, zn_l242, zn_l243, zn_l343, zn_l443, zn_l444, zn_l450, zn_l456, zn_l462, zn_l468, zn_l474, zn_l480, zn_l486, zn_l492, zn_l498, zn_l504, zn_l510, zn_l516, zn_l517, zn_l518, hF.g3 hm, hg, show zo (g + 1) = zn g from rfl, pm_draw12, zn_l14, (hL.2.1 g h3b).2.1]
  by_cases q : pDraw (Fk_seed K) 12 < zn (pD_pl D g 1)
  · rw [if_pos q, if_pos q]
    unfold f_X1_waitForShip_b27 f_X12_waits_b34
    rw [show f_X3_ofPlace L (zn g) 2 = some (zn (pD_pl D g 2)) from pc_ofPlace hv h h3b (k := 2) (by omega), ob_some, if_neg (show ¬ (1 : Int32) = 0 by decide), if_neg (show ¬ (1 : Int32) = 0 by decide), pc_of1 hv hK2 hm, ob_some]
    simp (disch := omega) only [zn_add, zb_zn, zn_nat, if_true, zlet, ob_some, pM_now, pM_snow, pM_seed, pM_sseed, pM_road, pM_place, pM_sroad, pM_splace, zn_l44, zn_l144, zn_l160, zn_l176, zn_l192, zn_l208, zn_l224, zn_l230, zn_l236, zn_l242, zn_l243, zn_l343, zn_l443, zn_l444, zn_l450, zn_l456, zn_l462, zn_l468, zn_l474, zn_l480, zn_l486, zn_l492, zn_l498, zn_l504, zn_l510, zn_l516, zn_l517, zn_l518, hF.g1 hm, zn_l24, (hL.2.1 g h3b).2.2.1, zn_lt]
    by_cases q2 : pF_o F m 1 < pD_pl D g 2
    · rw [if_pos q2, if_pos q2]; exact wade
    · rw [if_neg q2, if_neg q2, pc_more1 hv hK2 hm, ob_some, zn_addneg (by omega), pc_put0 hv hm, ob_some, zn_sub (by omega)]
      have hA := hK2.p1 (m := m) (v := pF_o F m 1 - pD_pl D g 2)
      have hB := hF.p1 hv hm (v := pF_o F m 1 - pD_pl D g 2)
      refine ⟨_, _, _, a, b, rfl, ?_, hA.p0 (v := 3), hB.p0 hv hm (v := 3), ⟨hV.1, fun m' hm' => ?_⟩, ((pFr.rf w).up (by omega) (by omega) _).up (by omega) (by omega) _, rfl, fun m' z => by rw [pUp_rown _ z, pUp_rown _ z]⟩
      · rw [show ∀ f g, Fk_seed (Fk_s_row (Fk_s_row (Fk_s_seed K (pRand (Fk_seed K))) f) g) = Fk_seed (Fk_s_seed K (pRand (Fk_seed K))) from fun f g => by generalize pRand (Fk_seed K) = v; rfl, hs2]; rfl
      · by_cases z : m' = m
        · rw [z, pUp_row, pUp_row]
          exact ⟨⟨show (3 : Nat) ≤ 5 by decide, show pF_o F m 1 - pD_pl D g 2 ≤ 999 by omega, b2, b8⟩, h4, h3, fun _ => ⟨j1, j2, j3⟩, fun e => absurd (show 3 = 0 from e) (by decide), fun e => absurd (show 3 = 1 from e) (by decide), fun e => absurd (show 3 = 2 from e) (by decide)⟩
        · rw [pUp_rown _ z, pUp_rown _ z]; exact ho m' hm' z
  · rw [if_neg q, if_neg q]
    unfold f_X1_waitForShip_b27 f_X12_waits_b34
    rw [show f_X3_ofPlace L (zn g) 2 = some (zn (pD_pl D g 2)) from pc_ofPlace hv h h3b (k := 2) (by omega), ob_some, if_pos rfl, if_pos rfl]
    exact wade
/-- one day, from the k-th man on -/
theorem q_day_loop {D : pD} {L : LdT} (hv : pV D) (h : pLc D L) (M : MoT) : ∀ (d : Nat) {k fu : Nat} {F : pF} {K : FkT} {w : Nat → Int32} (hK : pFc D F K) (hL : pLm D w) (hF : pFm D F w) (a b : Int32) (hV : pFv D F), pF_day F < 400 → k + d = pD_nm D → d + 1 ≤ fu →
    ∃ F' K' w' a' b', f_X1_goDay_L2 L fu K (zn k) = some K' ∧ f_X12_oneDay_L2 fu (pM M w (Fk_seed K) a b) (zn k) = some (pM M w' (Fk_seed K') a' b') ∧ pFc D F' K' ∧ pFm D F' w' ∧ pFv D F' ∧ pFr w w' ∧ pF_day F' = pF_day F + 1 ∧ ∀ m', pF_o F m' 0 ≠ 1 → pF_o F m' 0 ≠ 2 → pF_o F' m' = pF_o F m'
  | d, k, 0, F, K, w, hK, hL, hF, a, b, hV, hd, h1, h2 => by omega
  | 0, k, fu + 1, F, K, w, hK, hL, hF, a, b, hV, hd, h1, h2 => by
    have hnm := hv.nm
    show ∃ F' K' w' a' b', f_X1_goDay_H2 K L (f_X1_goDay_L2 L fu) (zn k) = _ ∧ f_X12_oneDay_H2 (pM M w (Fk_seed K) a b) (f_X12_oneDay_L2 fu) (zn k) = _ ∧ _
    unfold f_X1_goDay_H2 f_X12_oneDay_H2
    rw [h.1.2.2.1, if_neg (by rw [zn_lt (by omega) (by omega)]; omega)]
    simp (disch := omega) only [zn_add, zb_zn, zn_nat, if_true, zlet, ob_some, pM_now, pM_snow, pM_seed, pM_sseed, pM_road, pM_place, pM_sroad, pM_splace, zn_l44, zn_l144, zn_l160, zn_l176, zn_l192, zn_l208, zn_l224, zn_l230, zn_l236, zn_l242, zn_l243, zn_l343, zn_l443, zn_l444, zn_l450, zn_l456, zn_l462, zn_l468, zn_l474, zn_l480, zn_l486, zn_l492, zn_l498, zn_l504, zn_l510, zn_l516, zn_l517, zn_l518, show (2 : Int32).toNatClampNeg = 2 from rfl, hL.1.2.2.1]
    rw [if_neg (by rw [zn_lt (by omega) (by omega)]; omega)]
    refine ⟨(pF_day F + 1, F.2), _, _, _, _, rfl, rfl, ⟨?_, hK.2⟩, ⟨?_, fun m i hm hi => ?_⟩, ⟨by show pF_day F + 1 ≤ 400; omega, hV.2⟩, (pFr.rf w).up (by omega) (by omega) _, rfl, fun _ _ _ => rfl⟩
    · show Fk_day K + 1 = zn (pF_day F + 1)
      rw [hK.1, zn_l1, zn_add]
    · show w 443 + 1 = zn (pF_day F + 1)
      rw [hF.1, zn_l1, zn_add]
    · show (if 444 + 6 * i + m = 443 then _ else _) = _
      rw [if_neg (by omega)]; exact hF.2 m i hm hi
  | d + 1, k, fu + 1, F, K, w, hK, hL, hF, a, b, hV, hd, h1, h2 => by
    have hnm := hv.nm
    have hk : k < pD_nm D := by omega
    have b0 := (hV.2 k hk).1.1
    show ∃ F' K' w' a' b', f_X1_goDay_H2 K L (f_X1_goDay_L2 L fu) (zn k) = _ ∧ f_X12_oneDay_H2 (pM M w (Fk_seed K) a b) (f_X12_oneDay_L2 fu) (zn k) = _ ∧ _
    unfold f_X1_goDay_H2 f_X12_oneDay_H2 f_X1_goDay_b45 f_X12_oneDay_b53
    rw [h.1.2.2.1, if_pos (by rw [zn_lt (by omega) (by omega)]; omega)]
    simp (disch := omega) only [zn_add, zb_zn, zn_nat, if_true, zlet, ob_some, pM_now, pM_snow, pM_seed, pM_sseed, pM_road, pM_place, pM_sroad, pM_splace, zn_l44, zn_l144, zn_l160, zn_l176, zn_l192, zn_l208, zn_l224, zn_l230, zn_l236, zn_l242, zn_l243, zn_l343, zn_l443, zn_l444, zn_l450, zn_l456, zn_l462, zn_l468, zn_l474, zn_l480, zn_l486, zn_l492, zn_l498, zn_l504, zn_l510, zn_l516, zn_l517, zn_l518, show (2 : Int32).toNatClampNeg = 2 from rfl, hL.1.2.2.1]
    rw [if_pos (by rw [zn_lt (by omega) (by omega)]; omega), pc_of0 hv hK hk, ob_some, hF.g0 hk, ob_some]
    simp (disch := omega) only [zn_eq, zn_eq2, zn_l1, zn_add]
    by_cases q2 : pF_o F k 0 = 2
    · simp only [if_pos q2]
      obtain ⟨F1, K1, w1, a1, b1, i1, i2, i3, i4, i5, i6, i7, i8⟩ := q_wait hv h M hK hL hF a b hk hV q2
      simp only [i1, ob_some, i2]
      obtain ⟨F', K', w', a', b', j1, j2, j3, j4, j5, j6, j7, j8⟩ := q_day_loop hv h M d (k := k + 1) (fu := fu) i3 (hL.fr' hv i6) i4 a1 b1 i5 (by omega) (by omega) (by omega)
      refine ⟨F', K', w', a', b', j1, j2, j3, j4, j5, i6.tr j6, by omega, fun m' z1 z2 => ?_⟩
      have z : m' ≠ k := fun e => z2 (by rw [e]; exact q2)
      rw [j8 m' (by rw [i8 m' z]; exact z1) (by rw [i8 m' z]; exact z2), i8 m' z]
    · simp only [if_neg q2]
      by_cases q1 : pF_o F k 0 = 1
      · simp only [if_pos q1]
        obtain ⟨F1, K1, w1, a1, b1, i1, i2, i3, i4, i5, i6, i7, i8⟩ := q_walk hv h M hK hL hF a b hk hV q1
        simp only [i1, ob_some, i2]
        obtain ⟨F', K', w', a', b', j1, j2, j3, j4, j5, j6, j7, j8⟩ := q_day_loop hv h M d (k := k + 1) (fu := fu) i3 (hL.fr' hv i6) i4 a1 b1 i5 (by omega) (by omega) (by omega)
        refine ⟨F', K', w', a', b', j1, j2, j3, j4, j5, i6.tr j6, by omega, fun m' z1 z2 => ?_⟩
        have z : m' ≠ k := fun e => z1 (by rw [e]; exact q1)
        rw [j8 m' (by rw [i8 m' z]; exact z1) (by rw [i8 m' z]; exact z2), i8 m' z]
      · simp only [if_neg q1]
        exact q_day_loop hv h M d (k := k + 1) (fu := fu) hK hL hF a b hV hd (by omega) (by omega)
theorem q_day {D : pD} {L : LdT} (hv : pV D) (h : pLc D L) (M : MoT) {F : pF} {K : FkT} {w : Nat → Int32} (hK : pFc D F K) (hL : pLm D w) (hF : pFm D F w) (a b : Int32) (hV : pFv D F) (hd : pF_day F < 400) :
    ∃ F' K' w' a' b', f_X1_goDay K L = some K' ∧ f_X12_oneDay (pM M w (Fk_seed K) a b) = some (pM M w' (Fk_seed K') a' b') ∧ pFc D F' K' ∧ pFm D F' w' ∧ pFv D F' ∧ pFr w w' ∧ pF_day F' = pF_day F + 1 ∧ ∀ m', pF_o F m' 0 ≠ 1 → pF_o F m' 0 ≠ 2 → pF_o F' m' = pF_o F m' :=
  q_day_loop hv h M (pD_nm D) (k := 0) hK hL hF a b hV hd (by omega) (zFU_ge (by have := hv.nm; omega))
theorem q_days_loop {D : pD} {L : LdT} (hv : pV D) (h : pLc D L) (M : MoT) (n : Nat) (hn : n ≤ 400) : ∀ (d : Nat) {k fu : Nat} {F : pF} {K : FkT} {w : Nat → Int32} (hK : pFc D F K) (hL : pLm D w) (hF : pFm D F w) (a b : Int32) (hV : pFv D F), pF_day F + d ≤ 400 → k + d = n → d + 1 ≤ fu →
    ∃ F' K' w' a' b', f_X1_goDays_L18 L fu K (zn n) (zn k) = some (zn n, K') ∧ f_X12_passDays_L25 fu (pM M w (Fk_seed K) a b) (zn n) (zn k) = some (zn n, pM M w' (Fk_seed K') a' b') ∧ pFc D F' K' ∧ pFm D F' w' ∧ pFv D F' ∧ pFr w w' ∧ pF_day F' = pF_day F + d ∧ ∀ m', pF_o F m' 0 ≠ 1 → pF_o F m' 0 ≠ 2 → pF_o F' m' = pF_o F m'
  | d, k, 0, F, K, w, hK, hL, hF, a, b, hV, hd, h1, h2 => by omega
  | 0, k, fu + 1, F, K, w, hK, hL, hF, a, b, hV, hd, h1, h2 => by
    show ∃ F' K' w' a' b', f_X1_goDays_H18 K L (f_X1_goDays_L18 L fu) (zn n) (zn k) = _ ∧ f_X12_passDays_H25 (pM M w (Fk_seed K) a b) (f_X12_passDays_L25 fu) (zn n) (zn k) = _ ∧ _
    unfold f_X1_goDays_H18 f_X12_passDays_H25
    have e : ¬ zn k < zn n := by rw [zn_lt (by omega) (by omega)]; omega
    rw [if_neg e, if_neg e]
    exact ⟨F, K, w, a, b, rfl, rfl, hK, hF, hV, pFr.rf w, rfl, fun _ _ _ => rfl⟩
  | d + 1, k, fu + 1, F, K, w, hK, hL, hF, a, b, hV, hd, h1, h2 => by
    show ∃ F' K' w' a' b', f_X1_goDays_H18 K L (f_X1_goDays_L18 L fu) (zn n) (zn k) = _ ∧ f_X12_passDays_H25 (pM M w (Fk_seed K) a b) (f_X12_passDays_L25 fu) (zn n) (zn k) = _ ∧ _
    unfold f_X1_goDays_H18 f_X12_passDays_H25
    have e : zn k < zn n := by rw [zn_lt (by omega) (by omega)]; omega
    rw [if_pos e, if_pos e]
    obtain ⟨F1, K1, w1, a1, b1, i1, i2, i3, i4, i5, i6, i7, i8⟩ := q_day hv h M hK hL hF a b hV (by omega)
    rw [i1, ob_some, i2, ob_some, zn_l1, zn_add]
    obtain ⟨F', K', w', a', b', j1, j2, j3, j4, j5, j6, j7, j8⟩ := q_days_loop hv h M n hn d (k := k + 1) (fu := fu) i3 (hL.fr' hv i6) i4 a1 b1 i5 (by omega) (by omega) (by omega)
    refine ⟨F', K', w', a', b', j1, j2, j3, j4, j5, i6.tr j6, by omega, fun m' z1 z2 => ?_⟩
    have e := i8 m' z1 z2
    rw [j8 m' (by rw [e]; exact z1) (by rw [e]; exact z2), e]
/-- days one behind the other -/
theorem q_goDays {D : pD} {L : LdT} (hv : pV D) (h : pLc D L) (M : MoT) {F : pF} {K : FkT} {w : Nat → Int32} (hK : pFc D F K) (hL : pLm D w) (hF : pFm D F w) (s a b : Int32) (hV : pFv D F) {n : Nat} (hn : n ≤ 30) (x : Int32) :
    ∃ F' K' w' a' b', f_X1_goDays K L (zn n) x = some (zn (min n (400 - pF_day F)), K') ∧ f_X12_passDays (pM M w s a b) (zn n) x = some (zn (min n (400 - pF_day F)), pM M w' (Fk_seed K') a' b') ∧ pFc D F' K' ∧ pFm D F' w' ∧ pFv D F' ∧ pFr w w' ∧ pF_day F' = pF_day F + min n (400 - pF_day F) ∧ ∀ m', pF_o F m' 0 ≠ 1 → pF_o F m' 0 ≠ 2 → pF_o F' m' = pF_o F m' := by
  have hd := hV.1
  unfold f_X1_goDays f_X12_passDays f_X1_daysToCome
  simp (disch := omega) only [zn_add, zb_zn, zn_nat, if_true, zlet, ob_some, pM_now, pM_snow, pM_seed, pM_sseed, pM_road, pM_place, pM_sroad, pM_splace, zn_l44, zn_l144, zn_l160, zn_l176, zn_l192, zn_l208, zn_l224, zn_l230, zn_l236, zn_l242, zn_l243, zn_l343, zn_l443, zn_l444, zn_l450, zn_l456, zn_l462, zn_l468, zn_l474, zn_l480, zn_l486, zn_l492, zn_l498, zn_l504, zn_l510, zn_l516, zn_l517, zn_l518, show (443 : Int32).toNatClampNeg = 443 from rfl, hF.1, zn_l400, zn_sub, pm_least]
  rw [show Fk_day (Fk_s_seed K x) = Fk_day K from rfl, hK.1, zn_sub (by omega), zr_min_zn (by omega) (by omega)]
  exact q_days_loop hv h M (min n (400 - pF_day F)) (by omega) (min n (400 - pF_day F)) (k := 0) (K := Fk_s_seed K x) hK hL hF a b hV (by omega) (by omega) (zFU_ge (by omega))
