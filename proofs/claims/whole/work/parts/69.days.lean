def pFordM (D : pD) (g a lo hi : Nat) : Prop := ∃ j, lo ≤ j ∧ j < hi ∧ pD_ro D (pRd D (pWalk D g 10 a j).1 g) 4 = 1
theorem pm_ford_loop {D : pD} {F : pF} (hv : pV D) (M : MoT) {w : Nat → Int32} (hL : pLm D w) (hF : pFm D F w) (s : Int32) {m g n : Nat} (hm : m < pD_nm D) (ha : pF_o F m 4 < pD_np D) (hg : g < pD_np D) (hg3 : pF_o F m 3 = g + 1) (hj : pD_far D (pF_o F m 4) g ≠ 100000) (hn : pF_o F m 5 + n ≤ pD_far D (pF_o F m 4) g) :
    ∀ (d : Nat) {k fu : Nat} (a b : Int32), k + d = n + 1 → 1 ≤ k → d + 1 ≤ fu → ∃ q a' b', f_X12_hasFord_L2 fu (pM M w s a b) (zn m) (zn n) (zn k) = some (q, pM M w s a' b') ∧ ((q = 1 ∧ pFordM D g (pF_o F m 4) (pF_o F m 5 + k - 1) (pF_o F m 5 + n)) ∨ (q = 0 ∧ ¬ pFordM D g (pF_o F m 4) (pF_o F m 5 + k - 1) (pF_o F m 5 + n)))
  | d, k, 0, a, b, h1, h2, h3 => by omega
  | d, k, fu + 1, a, b, h1, h2, h3 => by
    have hfar := hv.far ha hg
    have hm6 := Nat.lt_of_lt_of_le hm hv.nm
    have hnr := hv.nr
    show ∃ q a' b', f_X12_hasFord_H2 (pM M w s a b) (f_X12_hasFord_L2 fu) (zn m) (zn n) (zn k) = _ ∧ _
    unfold f_X12_hasFord_H2
    cases d with
    | zero =>
      rw [if_pos (by rw [zn_lt (by omega) (by omega)]; omega)]
      refine ⟨0, a, b, rfl, Or.inr ⟨rfl, ?_⟩⟩
      rintro ⟨j, j1, j2, -⟩; omega
    | succ d =>
      rw [if_neg (by rw [zn_lt (by omega) (by omega)]; omega)]
      simp (disch := omega) only [zn_add, zb_zn, zn_nat, if_true, zlet, ob_some, pM_now, pM_snow, pM_seed, pM_sseed, pM_road, pM_place, pM_sroad, pM_splace, zn_l44, zn_l144, zn_l160, zn_l176, zn_l192, zn_l208, zn_l224, zn_l230, zn_l236, zn_l242, zn_l243, zn_l343, zn_l443, zn_l444, zn_l450, zn_l456, zn_l462, zn_l468, zn_l474, zn_l480, zn_l486, zn_l492, zn_l498, zn_l504, zn_l510, zn_l516, zn_l517, zn_l518, hF.g5 hm]
      rw [pm_layM hv M hL hF s hm a b ha hg hg3 hj (by omega), ob_some, if_neg (by omega)]
      obtain ⟨p1, p2, p3, p4⟩ := pWalk_props hv hg ha hj (pF_o F m 5 + k - 1) (by omega)
      have pg : (pWalk D g 10 (pF_o F m 4) (pF_o F m 5 + k - 1)).1 ≠ g := by
        intro z
        have := (pWalk_goal hv hg ha hj (by omega)).mp z
        omega
      obtain ⟨-, ⟨-, hr⟩, -⟩ := hv.stp p1 hg pg p2
      have hf4 := (hv.ro hr).2.2.2.2.1
      simp (disch := omega) only [zn_add, zb_zn, zn_nat, if_true, zlet, ob_some, pM_now, pM_snow, pM_seed, pM_sseed, pM_road, pM_place, pM_sroad, pM_splace, zn_l44, zn_l144, zn_l160, zn_l176, zn_l192, zn_l208, zn_l224, zn_l230, zn_l236, zn_l242, zn_l243, zn_l343, zn_l443, zn_l444, zn_l450, zn_l456, zn_l462, zn_l468, zn_l474, zn_l480, zn_l486, zn_l492, zn_l498, zn_l504, zn_l510, zn_l516, zn_l517, zn_l518, (hL.2.2.1 _ hr).2.2.2.2, zn_eq1]
      by_cases q : pD_ro D (pRd D (pWalk D g 10 (pF_o F m 4) (pF_o F m 5 + k - 1)).1 g) 4 = 1
      · rw [if_pos q]
        exact ⟨1, _, _, rfl, Or.inl ⟨rfl, pF_o F m 5 + k - 1, by omega, by omega, q⟩⟩
      · rw [if_neg q, zn_l1, zn_add]
        obtain ⟨r, a', b', i1, i2⟩ := pm_ford_loop hv M hL hF s hm ha hg hg3 hj hn d (k := k + 1) (fu := fu) (zn (pRd D (pWalk D g 10 (pF_o F m 4) (pF_o F m 5 + k - 1)).1 g)) (pThere D g (pF_o F m 4) (pF_o F m 5 + k)) (by omega) (by omega) (by omega)
        refine ⟨r, a', b', i1, ?_⟩
        have e : pFordM D g (pF_o F m 4) (pF_o F m 5 + k - 1) (pF_o F m 5 + n) ↔ pFordM D g (pF_o F m 4) (pF_o F m 5 + (k + 1) - 1) (pF_o F m 5 + n) := by
          constructor
          · rintro ⟨j, j1, j2, j3⟩
            by_cases z : j = pF_o F m 5 + k - 1
            · rw [z] at j3; exact absurd j3 q
            · exact ⟨j, by omega, j2, j3⟩
          · rintro ⟨j, j1, j2, j3⟩
            exact ⟨j, by omega, j2, j3⟩
        rw [e]; exact i2
theorem pFord_same {D : pD} (hv : pV D) {g a f n p e : Nat} (ha : a < pD_np D) (hg : g < pD_np D) (hj : pD_far D a g ≠ 100000) (hn0 : 0 < n) (hn : f + n ≤ pD_far D a g) (hw : (p, e) = pWalk D g 10 a f) : pFord D g p (((n + e : Nat)) : Int) ↔ pFordM D g a f (f + n) := by
  have hp := pWalk_props hv hg ha hj f (by omega)
  have hadd := pWalk_add hv hg ha hj f
  rw [← hw] at hp hadd
  simp only at hp hadd
  obtain ⟨p1, p2, p3, p4⟩ := hp
  have hpg : p ≠ g := by
    intro z
    have h0 := hv.far0 hg
    rw [z, h0] at p3; omega
  have p5 : e < pLen D p g := p4.elim (fun z => absurd z hpg) id
  constructor
  · rintro ⟨j, j1, j2, j3⟩
    by_cases q : j < e
    · rw [pWalk_stay (Or.inr (by omega))] at j3
      refine ⟨f, by omega, by omega, ?_⟩
      rw [← hw]; exact j3
    · refine ⟨f + (j - e), by omega, by omega, ?_⟩
      rw [← hadd, show e + (j - e) = j by omega]; exact j3
  · rintro ⟨j, j1, j2, j3⟩
    refine ⟨e + (j - f), by omega, by omega, ?_⟩
    rw [hadd, show f + (j - f) = j by omega]; exact j3
theorem zr_min_zn {a b : Nat} (h1 : a < 2147483648) (h2 : b < 2147483648) : zr_mminF (zn a) (zn b) = zn (min a b) := by
  unfold zr_mminF
  simp (disch := omega) only [zn_lt]
  split
  · rw [Nat.min_eq_right (by omega)]
  · rw [Nat.min_eq_left (by omega)]
theorem pm_least {a b : Nat} (h1 : a < 2147483648) (h2 : b < 2147483648) : f_X12_least (zn a) (zn b) = some (zn (min a b)) := by
  unfold f_X12_least
  simp (disch := omega) only [zn_lt]
  split
  · rw [Nat.min_eq_left (by omega)]
  · rw [Nat.min_eq_right (by omega)]
theorem pc_allMiles {D : pD} {L : LdT} {F : pF} {K : FkT} (hv : pV D) (h : pLc D L) (hK : pFc D F K) {m : Nat} (hm : m < pD_nm D) (hf : pMv D (pF_o F m)) : f_X1_allMiles K L (zn m) = some (zn (pF_o F m 6)) := by
  obtain ⟨⟨b0, -⟩, ⟨h4, -⟩, h3, hj, hs, -, -⟩ := hf
  unfold f_X1_allMiles
  rw [pc_of0 hv hK hm, ob_some]
  simp (disch := omega) only [zn_eq0]
  by_cases q : pF_o F m 0 = 0
  · rw [if_pos q, (hs q).2.1]; rfl
  · obtain ⟨j1, j2, j3⟩ := hj q
    obtain ⟨g, hg⟩ : ∃ g, pF_o F m 3 = g + 1 := ⟨pF_o F m 3 - 1, by omega⟩
    have h3' := (h3 j1).1
    rw [hg, Nat.add_sub_cancel] at h3' j3
    rw [if_neg q, pc_of4 hv hK hm, ob_some, pc_of3 hv hK hm, ob_some, hg]
    rw [show zo (g + 1) = zn g from rfl, pc_milesBetween hv h h4 h3', ob_some, j3]
/-- a day of one who walks -/
theorem q_walk {D : pD} {L : LdT} (hv : pV D) (h : pLc D L) (M : MoT) {F : pF} {K : FkT} {w : Nat → Int32} (hK : pFc D F K) (hL : pLm D w) (hF : pFm D F w) (a b : Int32) {m : Nat} (hm : m < pD_nm D) (hV : pFv D F) (hw : pF_o F m 0 = 1) :
    ∃ F' K' w' a' b', f_X1_walk K L (zn m) = some K' ∧ f_X12_walks (pM M w (Fk_seed K) a b) (zn m) = some (pM M w' (Fk_seed K') a' b') ∧ pFc D F' K' ∧ pFm D F' w' ∧ pFv D F' ∧ pFr w w' ∧ pF_day F' = pF_day F ∧ ∀ m', m' ≠ m → pF_o F' m' = pF_o F m' := by
  have hm6 := Nat.lt_of_lt_of_le hm hv.nm
  have hMv := hV.2 m hm
  have hf := hMv.mt hw
  have hpos := hf.pos hv
  have ho : ∀ m', m' < pD_nm D → m' ≠ m → pMv D (pF_o F m') := fun m' h' _ => hV.2 m' h'
  have hf' := hf
  obtain ⟨⟨b1, b2, b8⟩, ⟨h4, h4b⟩, ⟨h3, h3b, h3c⟩, hj, h6, h0, h5, h7, h9, hww⟩ := hf
  have h5' : pF_o F m 5 < pF_o F m 6 := (hMv.2.2.2.2.2.1 hw).1
  obtain ⟨g, hg⟩ : ∃ g, pF_o F m 3 = g + 1 := ⟨pF_o F m 3 - 1, by omega⟩
  rw [hg, Nat.add_sub_cancel] at h3b hj h6 hww hpos
  have hpcl := pCl_le hv (b := g) hpos.1
  generalize hn : min (pF_o F m 8) (pF_o F m 6 - pF_o F m 5) = n
  unfold f_X1_walk f_X12_walks
  rw [pc_of7 hv hK hm, ob_some, pc_allMiles hv h hK hm hMv, ob_some, pc_of5 hv hK hm, ob_some, zn_sub (by omega), zr_min_zn (by omega) (by omega), hn]
  simp (disch := omega) only [zn_add, zb_zn, zn_nat, if_true, zlet, ob_some, pM_now, pM_snow, pM_seed, pM_sseed, pM_road, pM_place, pM_sroad, pM_splace, zn_l44, zn_l144, zn_l160, zn_l176, zn_l192, zn_l208, zn_l224, zn_l230, zn_l236, zn_l242, zn_l243, zn_l343, zn_l443, zn_l444, zn_l450, zn_l456, zn_l462, zn_l468, zn_l474, zn_l480, zn_l486, zn_l492, zn_l498, zn_l504, zn_l510, zn_l516, zn_l517, zn_l518, hF.g8 hm, hF.g6 hm, hF.g5 hm, zn_sub, pm_least]
  rw [hn]
  have hnn : n ≤ 20 := by omega
  have hnf : pF_o F m 5 + n ≤ pF_o F m 6 := by omega
  unfold f_X1_meetsFord
  rw [pc_of3 hv hK hm, hg, ob_some, pc_of11 hv hK hm, ob_some, pc_of12 hv hK hm, ob_some, zn_add]
  rw [show zo (g + 1) = zn g from rfl]
  by_cases q0 : n = 0
  · subst q0
    rw [show f_X1_meetsFord_L31 K L zFU (zn 0) (zn g) (zn (pF_o F m 12)) (zn (0 + pF_o F m 13)) 0 = some 0 from by
      show f_X1_meetsFord_H31 K L (f_X1_meetsFord_L31 K L 69999) (zn 0) (zn g) (zn (pF_o F m 12)) (zn (0 + pF_o F m 13)) 0 = some 0
      unfold f_X1_meetsFord_H31
      rw [if_pos (by decide), if_neg (by decide)], ob_some]
    rw [if_pos rfl, if_neg (by rw [zn_pos (by omega)]; omega)]
    unfold f_X1_walk_b47 f_X1_walk_b48 f_X1_walk_b77 f_X12_walks_b61 f_X12_walks_b62
    rw [if_pos rfl, if_neg (by rw [zn_pos (by omega)]; omega), if_pos rfl, if_pos rfl, if_neg (by rw [zn_pos (by omega)]; omega)]
    have hKa := hK.p9 (m := m) (v := pF_o F m 9 + 1)
    have hFa := hF.p9 hv hm (v := pF_o F m 9 + 1)
    have hfr : pFr w (upd w (498 + m) (zn (pF_o F m 9 + 1))) := (pFr.rf w).up (by omega) (by omega) _
    rw [pc_more8 hv hK hm, ob_some, zn_l1, zn_add, pc_of8 hv hKa hm, ob_some, pUp_same]
    simp (disch := omega) only [zn_add, zb_zn, zn_nat, if_true, zlet, ob_some, pM_now, pM_snow, pM_seed, pM_sseed, pM_road, pM_place, pM_sroad, pM_splace, zn_l44, zn_l144, zn_l160, zn_l176, zn_l192, zn_l208, zn_l224, zn_l230, zn_l236, zn_l242, zn_l243, zn_l343, zn_l443, zn_l444, zn_l450, zn_l456, zn_l462, zn_l468, zn_l474, zn_l480, zn_l486, zn_l492, zn_l498, zn_l504, zn_l510, zn_l516, zn_l517, zn_l518, hF.g9 hm]
    by_cases q9 : pF_o F m 9 + 1 = 2
    · rw [if_neg (by rw [zn_l2, zn_lt (by omega) (by omega)]; omega), pc_put0 hv hm, ob_some]
      unfold f_X12_walks_b104
      simp (disch := omega) only [zn_add, zb_zn, zn_nat, if_true, zlet, ob_some, pM_now, pM_snow, pM_seed, pM_sseed, pM_road, pM_place, pM_sroad, pM_splace, zn_l44, zn_l144, zn_l160, zn_l176, zn_l192, zn_l208, zn_l224, zn_l230, zn_l236, zn_l242, zn_l243, zn_l343, zn_l443, zn_l444, zn_l450, zn_l456, zn_l462, zn_l468, zn_l474, zn_l480, zn_l486, zn_l492, zn_l498, zn_l504, zn_l510, zn_l516, zn_l517, zn_l518, hFa.g9 hm, pUp_same, zn_eq2]
      rw [if_pos q9]
      refine ⟨_, _, _, _, _, rfl, rfl, hKa.p0, hFa.p0 hv hm, ⟨hV.1, fun m' hm' => ?_⟩, hfr.up (by omega) (by omega) _, rfl, fun m' z => by rw [pUp_rown _ z, pUp_rown _ z]⟩
      by_cases z : m' = m
      · rw [z, pUp_row, pUp_row]
        exact ⟨⟨show (4 : Nat) ≤ 5 by decide, b1, b2, b8⟩, ⟨h4, h4b⟩, hMv.2.2.1, fun _ => hMv.2.2.2.1 (by omega), fun e => absurd (show 4 = 0 from e) (by decide), fun e => absurd (show 4 = 1 from e) (by decide), fun e => absurd (show 4 = 2 from e) (by decide)⟩
      · rw [pUp_rown _ z, pUp_rown _ z]; exact ho m' hm' z
    · rw [if_pos (by rw [zn_l2, zn_lt (by omega) (by omega)]; omega)]
      have hfa : pMt D (pF_o (pUp F m 9 (pF_o F m 9 + 1)) m) := by
        rw [pUp_row]
        obtain ⟨k1, k2, k3, k4, k5, k6, k7, k8, k9, k10⟩ := hf'
        exact ⟨k1, k2, k3, k4, k5, k6, k7, k8, show pF_o F m 9 + 1 ≤ 1 by omega, k10⟩
      obtain ⟨F', K', w', a', b', i1, i2, i3, i4, i5, i6, i7, i8⟩ := q_stay hv h M hKa (hL.fr' hv hfr) hFa a b hm hfa (fun m' hm' z => by rw [pUp_rown _ z]; exact ho m' hm' z) hV.1
      exact ⟨F', K', w', a', b', i1, i2, i3, i4, i5, hfr.tr i6, i7, fun m' z => by rw [i8 m' z, pUp_rown _ z]⟩
  · obtain ⟨r, c1, c2⟩ := pc_ford_loop hv h h3b K (go := n) (by omega) (by omega) 10 (a := pF_o F m 12) (k := 0) (fu := zFU) (left := ((n + pF_o F m 13 : Nat) : Int)) hpos.1 hpos.2.1 (by omega) (by omega) (zFU_ge (by omega)) (by omega) (by omega)
    rw [zi_zn] at c1
    rw [show f_X1_meetsFord_L31 K L zFU (zn n) (zn g) (zn (pF_o F m 12)) (zn (n + pF_o F m 13)) 0 = some r from c1, ob_some]
    have hp0 : (0 : Int32) < zn n := by rw [zn_pos (by omega)]; omega
    simp only [if_pos hp0]
    obtain ⟨q, a', b', d1, d2⟩ := pm_ford_loop hv M hL hF (Fk_seed K) hm h4 h3b hg hj (n := n) (by omega) n (k := 1) (fu := zFU) a b (by omega) (by omega) (zFU_ge (by omega))
    rw [Nat.add_sub_cancel, ← pFord_same hv h4 h3b hj (by omega) (by omega) hww] at d2
    unfold f_X12_hasFord
    rw [show f_X12_hasFord_L2 zFU (pM M w (Fk_seed K) a b) (zn m) (zn n) 1 = some (q, pM M w (Fk_seed K) a' b') from d1, ob_some]
    have hgo := fun a b => q_go hv h M hK hL hF a b hm hf' ho hV.1 hnf (by omega)
    rcases c2 with ⟨rfl, c2⟩ | ⟨rfl, c2⟩
    · have eq1 : q = 1 := d2.elim (fun z => z.1) (fun z => absurd c2 z.2)
      subst eq1
      rw [if_neg (show ¬ (1 : Int32) = 0 by decide)]
      simp only
      rw [if_neg (show ¬ (1 : Int32) = 0 by decide), pc_draw6, ob_some, pm_draw6, ob_some]
      have hK2 := hK.seed (pRand (Fk_seed K))
      have hs2 : Fk_seed (Fk_s_seed K (pRand (Fk_seed K))) = pRand (Fk_seed K) := by generalize pRand (Fk_seed K) = v; rfl
      simp only
      by_cases z : pDraw (Fk_seed K) 6 = 0
      · rw [if_pos z, if_pos z]
        unfold f_X1_walk_b48 f_X1_walk_b77 f_X12_walks_b62
        rw [if_neg (show ¬ (1 : Int32) = 0 by decide), if_neg (show ¬ (1 : Int32) = 0 by decide), if_neg (show ¬ (1 : Int32) = 0 by decide)]
        have := q_stay hv h M hK2 hL hF a' b' hm hf' ho hV.1
        rw [hs2] at this
        exact this
      · rw [if_neg z, if_neg z]
        have := q_go hv h M hK2 hL hF a' b' hm hf' ho hV.1 hnf (by omega)
        rw [hs2] at this
        exact this
    · have eq0 : q = 0 := d2.elim (fun z => absurd z.2 c2) (fun z => z.1)
      subst eq0
      rw [if_pos rfl]
      simp only [if_true]
      exact hgo a' b'
