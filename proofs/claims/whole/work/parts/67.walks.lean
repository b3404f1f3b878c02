/-! a man's day on the road -/
def pFr (w w' : Nat → Int32) : Prop := ∀ i, i < 443 ∨ 516 ≤ i → w' i = w i
theorem pFr.rf (w : Nat → Int32) : pFr w w := fun _ _ => rfl
theorem pFr.tr {w1 w2 w3 : Nat → Int32} (h1 : pFr w1 w2) (h2 : pFr w2 w3) : pFr w1 w3 := fun i hi => (h2 i hi).trans (h1 i hi)
theorem pFr.up {w1 w2 : Nat → Int32} (h1 : pFr w1 w2) {j : Nat} (hj : 443 ≤ j) (hj2 : j < 516) (v : Int32) : pFr w1 (upd w2 j v) := fun i hi => by
  unfold upd; rw [if_neg (by omega)]; exact h1 i hi
theorem pLm.fr {D : pD} {w w' : Nat → Int32} (hv : pV D) (h : pLm D w) (hf : ∀ i, i < 443 → w' i = w i) : pLm D w' := by
  have h1 := hv.np
  have h2 := hv.nr
  have h3 := hv.nm
  refine ⟨⟨?_, ?_, ?_, ?_⟩, fun p hp => ⟨?_, ?_, ?_, ?_⟩, fun r hr => ⟨?_, ?_, ?_, ?_, ?_⟩, fun m hm => ⟨?_, ?_, ?_⟩, ?_, fun a b ha hb => ⟨?_, ?_, ?_⟩⟩
  · rw [hf _ (by omega)]; exact h.1.1
  · rw [hf _ (by omega)]; exact h.1.2.1
  · rw [hf _ (by omega)]; exact h.1.2.2.1
  · rw [hf _ (by omega)]; exact h.1.2.2.2
  · rw [hf _ (by omega)]; exact (h.2.1 p hp).1
  · rw [hf _ (by omega)]; exact (h.2.1 p hp).2.1
  · rw [hf _ (by omega)]; exact (h.2.1 p hp).2.2.1
  · rw [hf _ (by omega)]; exact (h.2.1 p hp).2.2.2
  · rw [hf _ (by omega)]; exact (h.2.2.1 r hr).1
  · rw [hf _ (by omega)]; exact (h.2.2.1 r hr).2.1
  · rw [hf _ (by omega)]; exact (h.2.2.1 r hr).2.2.1
  · rw [hf _ (by omega)]; exact (h.2.2.1 r hr).2.2.2.1
  · rw [hf _ (by omega)]; exact (h.2.2.1 r hr).2.2.2.2
  · rw [hf _ (by omega)]; exact (h.2.2.2.1 m hm).1
  · rw [hf _ (by omega)]; exact (h.2.2.2.1 m hm).2.1
  · rw [hf _ (by omega)]; exact (h.2.2.2.1 m hm).2.2
  · rw [hf _ (by omega)]; exact h.2.2.2.2.1
  · rw [hf _ (by omega)]; exact (h.2.2.2.2.2 a b ha hb).1
  · rw [hf _ (by omega)]; exact (h.2.2.2.2.2 a b ha hb).2.1
  · rw [hf _ (by omega)]; exact (h.2.2.2.2.2 a b ha hb).2.2
theorem pLm.fr' {D : pD} {w w' : Nat → Int32} (hv : pV D) (h : pLm D w) (hf : pFr w w') : pLm D w' := h.fr hv (fun i hi => hf i (Or.inl hi))
theorem zn_dec {a : Nat} (h : 1 ≤ a) : zn a + (-1 : Int32) = zn (a - 1) := by
  have e : (-1 : Int32) = zi (-1) := rfl
  rw [e, ← zi_zn, zi_add, ← zi_zn]; congr 1; omega
theorem zn_dec' {a : Nat} (h : 1 ≤ a) : zn a - (1 : Int32) = zn (a - 1) := by rw [zn_l1, zn_sub h]
def pLess (F : pF) (m : Nat) : pF := if pF_o F m 7 - 1 = 0 then pUp (pUp F m 7 (pF_o F m 7 - 1)) m 0 4 else pUp F m 7 (pF_o F m 7 - 1)
theorem pc_b175 {D : pD} {L : LdT} {F : pF} {K : FkT} (hv : pV D) (hK : pFc D F K) {m : Nat} (hm : m < pD_nm D) (h1 : 1 ≤ pF_o F m 7) (h2 : pF_o F m 7 ≤ 40) : ∃ K', f_X1_walk_b175 K L (zn m) = some K' ∧ pFc D (pLess F m) K' ∧ Fk_seed K' = Fk_seed K := by
  unfold f_X1_walk_b175
  have hK1 : pFc D (pUp F m 7 (pF_o F m 7 - 1)) (Fk_s_row K (upd (Fk_row K) (m * 13 + 6) (zn (pF_o F m 7 - 1)))) := hK.p7
  rw [pc_more6 hv hK hm, ob_some, zn_dec h1, pc_of6 hv hK1 hm, ob_some, pUp_same]
  by_cases q : pF_o F m 7 - 1 = 0
  · rw [if_neg (by rw [zn_pos (by omega)]; omega), pc_put0 hv hm, ob_some]
    refine ⟨_, rfl, ?_, rfl⟩
    rw [pLess, if_pos q]
    exact hK1.p0
  · rw [if_pos (by rw [zn_pos (by omega)]; omega)]
    refine ⟨_, rfl, ?_, rfl⟩
    rw [pLess, if_neg q]
    exact hK1
theorem pm_b239 {D : pD} {F : pF} {w : Nat → Int32} (hv : pV D) (M : MoT) (hF : pFm D F w) (s a b : Int32) {m : Nat} (hm : m < pD_nm D) (h1 : 1 ≤ pF_o F m 7) (h2 : pF_o F m 7 ≤ 40) : ∃ w', f_X12_walks_b239 (pM M w s a b) (zn m) = some (pM M w' s a b) ∧ pFm D (pLess F m) w' ∧ pFr w w' := by
  have hm6 := Nat.lt_of_lt_of_le hm hv.nm
  unfold f_X12_walks_b239
  have hK1 : pFm D (pUp F m 7 (pF_o F m 7 - 1)) (upd w (486 + m) (zn (pF_o F m 7 - 1))) := hF.p7 hv hm
  simp (disch := omega) only [zn_add, zb_zn, zn_nat, if_true, zlet, ob_some, pM_now, pM_snow, pM_seed, pM_sseed, pM_road, pM_place, pM_sroad, pM_splace, zn_l44, zn_l144, zn_l160, zn_l176, zn_l192, zn_l208, zn_l224, zn_l230, zn_l236, zn_l242, zn_l243, zn_l343, zn_l443, zn_l444, zn_l450, zn_l456, zn_l462, zn_l468, zn_l474, zn_l480, zn_l486, zn_l492, zn_l498, zn_l504, zn_l510, zn_l516, zn_l517, zn_l518, hF.g7 hm, zn_dec', hK1.g7 hm, pUp_same, zn_eq0]
  by_cases q : pF_o F m 7 - 1 = 0
  · rw [if_pos q]
    refine ⟨_, rfl, ?_, ((pFr.rf w).up (by omega) (by omega) _).up (by omega) (by omega) _⟩
    rw [pLess, if_pos q]
    exact hK1.p0 hv hm
  · rw [if_neg q]
    refine ⟨_, rfl, ?_, (pFr.rf w).up (by omega) (by omega) _⟩
    rw [pLess, if_neg q]
    exact hK1
/-- a man on his way, at the end of his miles -/
def pMt (D : pD) (f : Nat → Nat) : Prop :=
  (f 1 ≤ 999 ∧ f 2 ≤ 2 ∧ f 8 ≤ 20) ∧ (f 4 < pD_np D ∧ pD_pl D (f 4) 0 = 0) ∧ (f 3 ≠ 0 ∧ f 3 - 1 < pD_np D ∧ pD_pl D (f 3 - 1) 0 = 2) ∧ pD_far D (f 4) (f 3 - 1) ≠ 100000 ∧ f 6 = pD_far D (f 4) (f 3 - 1) ∧ f 0 = 1 ∧ f 5 ≤ f 6 ∧ (1 ≤ f 7 ∧ f 7 ≤ 40) ∧ f 9 ≤ 1 ∧ (f 12, f 13) = pWalk D (f 3 - 1) 10 (f 4) (f 5)
def pTail (D : pD) (F : pF) (m : Nat) (s : Int32) : pF := if pF_o F m 5 = pF_o F m 6 then pUp F m 0 2 else if pF_o F m 13 = 0 then pLess F m else if pDraw s 12 < pDan D m (pF_o F m 12) (pF_o F m 3 - 1) then pUp F m 0 5 else pLess F m
def pTailS (F : pF) (m : Nat) (s : Int32) : Int32 := if pF_o F m 5 = pF_o F m 6 then s else if pF_o F m 13 = 0 then s else pRand s
theorem pMt.pos {D : pD} {f : Nat → Nat} (hv : pV D) (h : pMt D f) : f 12 < pD_np D ∧ pD_far D (f 12) (f 3 - 1) ≠ 100000 ∧ (f 12 = f 3 - 1 ↔ f 5 = f 6) ∧ (f 5 = f 6 → f 13 = 0) ∧ f 13 < 10000 ∧ f 6 ≤ 270 := by
  obtain ⟨-, ⟨h4, -⟩, ⟨h3, h3b, -⟩, hj, h6, h0, h5, -, -, hw⟩ := h
  have hp := pWalk_props hv h3b h4 hj (f 5) (by omega)
  have hg := pWalk_goal hv h3b h4 hj (g := f 5) (by omega)
  rw [← hw] at hp hg
  simp only at hp hg
  have hf0 := hv.far0 h3b
  have hf := hv.far h4 h3b
  refine ⟨hp.1, hp.2.1, by rw [hg, h6], fun e => ?_, ?_, by omega⟩
  · have := hg.mpr (by omega)
    have h3' := hp.2.2.1
    rw [this, hf0] at h3'; omega
  · have := hv.far hp.1 h3b
    have := hp.2.1
    omega
theorem pc_isJustAt {D : pD} {F : pF} {K : FkT} (hv : pV D) (hK : pFc D F K) {m : Nat} (hm : m < pD_nm D) {x : Int32} (h0 : pF_o F m 0 ≤ 5) (h13 : pF_o F m 13 < 2147483648) : f_X1_isJustAt K (zn m) x = some (if pF_o F m 0 ≤ 2 ∧ pF_o F m 13 = 0 ∧ zn (pF_o F m 12) = x then 1 else 0) := by
  unfold f_X1_isJustAt f_X1_isJustAt_b35
  rw [show f_X1_of K (zn m) 0 = some (zn (pF_o F m 0)) from pc_of0 hv hK hm, ob_some]
  simp (disch := omega) only [zn_l2, zn_lt, pc_of12 hv hK hm, pc_of11 hv hK hm, ob_some, zn_eq0]
  by_cases q : 2 < pF_o F m 0
  · rw [if_pos q, if_neg (by omega)]
  · rw [if_neg q]
    by_cases q2 : pF_o F m 13 = 0
    · rw [if_pos q2]
      by_cases q3 : zn (pF_o F m 12) = x
      · rw [if_pos q3, if_pos ⟨by omega, q2, q3⟩]
      · rw [if_neg q3, if_neg (fun e => q3 e.2.2)]
    · rw [if_neg q2, if_neg (fun e => q2 e.2.1)]
theorem pFc.seed {D : pD} {F : pF} {K : FkT} (h : pFc D F K) (v : Int32) : pFc D F (Fk_s_seed K v) := h
theorem pc_b109 {D : pD} {L : LdT} {F : pF} {K : FkT} (hv : pV D) (h : pLc D L) (hK : pFc D F K) {m : Nat} (hm : m < pD_nm D) (hf : pMt D (pF_o F m)) : ∃ K', f_X1_walk_b109 K L (zn m) = some K' ∧ pFc D (pTail D F m (Fk_seed K)) K' ∧ Fk_seed K' = pTailS F m (Fk_seed K) := by
  obtain ⟨p1, p2, p3, p4, p5, p6⟩ := hf.pos hv
  obtain ⟨-, ⟨h4, -⟩, ⟨h3, h3b, -⟩, hj, h6, h0, h5, h7, -, hw⟩ := hf
  have hnp := hv.np
  unfold f_X1_walk_b109
  obtain ⟨b, hb⟩ : ∃ b, pF_o F m 3 = b + 1 := ⟨pF_o F m 3 - 1, by omega⟩
  rw [hb, Nat.add_sub_cancel] at h3b p2 p3
  have e3 : f_X1_of K (zn m) 3 = some (zn b) := by
    rw [pc_of3 hv hK hm, hb]; rfl
  rw [e3, ob_some, pc_isJustAt hv hK hm (by omega) (by omega), ob_some, pTail, pTailS]
  by_cases q : pF_o F m 5 = pF_o F m 6
  · have e : (if pF_o F m 0 ≤ 2 ∧ pF_o F m 13 = 0 ∧ zn (pF_o F m 12) = zn b then (1 : Int32) else 0) = 1 := if_pos ⟨by omega, p4 q, by rw [p3.mpr q]⟩
    rw [e, if_neg (show ¬ (1 : Int32) = 0 by decide), if_pos q, if_pos q, pc_put0 hv hm, ob_some]
    exact ⟨_, rfl, hK.p0, rfl⟩
  · have nb : pF_o F m 12 ≠ b := fun e => q (p3.mp e)
    have e : (if pF_o F m 0 ≤ 2 ∧ pF_o F m 13 = 0 ∧ zn (pF_o F m 12) = zn b then (1 : Int32) else 0) = 0 := by
      refine if_neg (fun e => nb ?_)
      have e2 := e.2.2
      rw [zn_eq (by omega) (by omega)] at e2; exact e2
    rw [e, if_pos rfl, pc_of12 hv hK hm, ob_some, if_neg q, if_neg q]
    by_cases q13 : pF_o F m 13 = 0
    · rw [if_neg (by rw [zn_pos (by omega)]; omega), if_pos q13, if_pos q13]
      exact pc_b175 hv hK hm h7.1 h7.2
    · have hK2 : pFc D F (Fk_s_seed K (pRand (Fk_seed K))) := hK.seed _
      rw [if_pos (by rw [zn_pos (by omega)]; omega), if_neg q13, if_neg q13, pc_draw12, ob_some]
      simp only
      rw [pc_of11 hv hK2 hm, ob_some, pc_dangerFor hv h hK2 hm h3b hb p1 nb p2, ob_some, hb, Nat.add_sub_cancel]
      by_cases qd : pDraw (Fk_seed K) 12 < pDan D m (pF_o F m 12) b
      · rw [if_pos qd, if_pos qd, pc_put0 hv hm, ob_some]
        refine ⟨_, rfl, hK2.p0, ?_⟩
        generalize pRand (Fk_seed K) = v
        rfl
      · rw [if_neg qd, if_neg qd]
        exact pc_b175 hv hK2 hm h7.1 h7.2
theorem pDan_ne {D : pD} (hv : pV D) {m p b : Nat} (hr : pRd D p b < pD_nr D) : pDan D m p b ≠ zm := by
  have h1 := (hv.ro hr).2.2.2.1
  unfold pDan
  generalize pD_ro D (pRd D p b) 3 = d at h1
  have : ∀ d : Fin 13, zn d.val ≠ zm ∧ zn d.val / 2 ≠ zm := by decide +kernel
  have := this ⟨d, by omega⟩
  split
  · exact this.2
  · exact this.1
theorem pm_b104 {D : pD} {F : pF} {w : Nat → Int32} (hv : pV D) (M : MoT) (h : pLm D w) (hF : pFm D F w) (s a b : Int32) {m n : Nat} (hm : m < pD_nm D) (hn9 : pF_o F m 9 ≤ 1) {F2 : pF} (hF2 : F2 = pUp (pUp F m 5 (pF_o F m 5 + n)) m 11 (pF_o F m 11 + n)) (hf : pMt D (pF_o F2 m)) :
    ∃ w' a' b', f_X12_walks_b104 (pM M w s a b) (zn m) (zn n) = some (pM M w' (pTailS F2 m s) a' b') ∧ pFm D (pTail D F2 m s) w' ∧ pFr w w' := by
  obtain ⟨p1, p2, p3, p4, p5, p6⟩ := hf.pos hv
  obtain ⟨-, ⟨h4, -⟩, ⟨h3, h3b, -⟩, hj, h6, h0, h5, h7, -, hw⟩ := hf
  have hm6 := Nat.lt_of_lt_of_le hm hv.nm
  have hnp := hv.np
  obtain ⟨g, hg⟩ : ∃ g, pF_o F2 m 3 = g + 1 := ⟨pF_o F2 m 3 - 1, by omega⟩
  have hA : pFm D (pUp F m 5 (pF_o F m 5 + n)) (upd w (474 + m) (zn (pF_o F m 5 + n))) := hF.p5 hv hm
  have e11 : pF_o (pUp F m 5 (pF_o F m 5 + n)) m 11 = pF_o F m 11 := pUp_nei F m (by omega)
  have hB : pFm D F2 (upd (upd w (474 + m) (zn (pF_o F m 5 + n))) (510 + m) (zn (pF_o F m 11 + n))) := by rw [hF2]; exact hA.p11 hv hm
  have hfr : pFr w (upd (upd w (474 + m) (zn (pF_o F m 5 + n))) (510 + m) (zn (pF_o F m 11 + n))) := ((pFr.rf w).up (by omega) (by omega) _).up (by omega) (by omega) _
  have hB2 := h.fr' hv hfr
  unfold f_X12_walks_b104
  simp (disch := omega) only [zn_add, zb_zn, zn_nat, if_true, zlet, ob_some, pM_now, pM_snow, pM_seed, pM_sseed, pM_road, pM_place, pM_sroad, pM_splace, zn_l44, zn_l144, zn_l160, zn_l176, zn_l192, zn_l208, zn_l224, zn_l230, zn_l236, zn_l242, zn_l243, zn_l343, zn_l443, zn_l444, zn_l450, zn_l456, zn_l462, zn_l468, zn_l474, zn_l480, zn_l486, zn_l492, zn_l498, zn_l504, zn_l510, zn_l516, zn_l517, zn_l518, hF.g9 hm, zn_eq2]
  rw [if_neg (by omega)]
  simp (disch := omega) only [hF.g5 hm, zn_add, hA.g11 hm, e11, hB.g5 hm, hB.g6 hm]
  generalize (upd (upd w (474 + m) (zn (pF_o F m 5 + n))) (510 + m) (zn (pF_o F m 11 + n))) = w2 at hB hfr hB2 ⊢
  rw [pTail, pTailS]
  simp (disch := omega) only [zn_eq]
  by_cases q : pF_o F2 m 5 = pF_o F2 m 6
  · rw [if_pos q, if_pos q, if_pos q]
    exact ⟨_, _, _, rfl, hB.p0 hv hm, hfr.up (by omega) (by omega) _⟩
  · rw [if_neg q, if_neg q, if_neg q]
    rw [hg, Nat.add_sub_cancel] at h3b hj h6 hw p2 p3
    obtain ⟨r1, q1, hd⟩ := pm_dangerAt hv M hB2 hB s hm a b h4 h3b hg hj (g := pF_o F2 m 5) (by omega)
    rw [hd, ob_some, ← hw]
    simp only
    by_cases q13 : pF_o F2 m 13 = 0
    · simp only [if_pos q13]
      rw [if_pos (show zm = (-1 : Int32) from rfl)]
      obtain ⟨w', e1, e2, e3⟩ := pm_b239 hv M hB s r1 q1 hm h7.1 h7.2
      exact ⟨w', _, _, e1, e2, hfr.tr e3⟩
    · simp only [if_neg q13]
      have nb : pF_o F2 m 12 ≠ g := fun e => q (p3.mp e)
      obtain ⟨-, ⟨-, hr⟩, -⟩ := hv.stp p1 h3b nb p2
      rw [if_neg (show ¬ pDan D m (pF_o F2 m 12) g = (-1 : Int32) from pDan_ne hv hr), pm_draw12, ob_some, hg, Nat.add_sub_cancel]
      simp only
      by_cases qd : pDraw s 12 < pDan D m (pF_o F2 m 12) g
      · rw [if_pos qd, if_pos qd]
        simp only [pM_snow, pM_now]
        exact ⟨_, _, _, rfl, hB.p0 hv hm, hfr.up (by omega) (by omega) _⟩
      · rw [if_neg qd, if_neg qd]
        obtain ⟨w', e1, e2, e3⟩ := pm_b239 hv M hB (pRand s) r1 q1 hm h7.1 h7.2
        exact ⟨w', _, _, e1, e2, hfr.tr e3⟩
