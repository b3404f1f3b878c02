theorem pUp_row (F : pF) (m i v : Nat) : pF_o (pUp F m i v) m = fun j => if j = i then v else pF_o F m j := by
  funext j; simp [pUp, pF_o]
theorem pUp_rown (F : pF) {m i v m' : Nat} (h : m' ≠ m) : pF_o (pUp F m i v) m' = pF_o F m' := by
  funext j; simp [pUp, pF_o, h]
theorem pMv.mt {D : pD} {f : Nat → Nat} (h : pMv D f) (h0 : f 0 = 1) : pMt D f := by
  obtain ⟨⟨-, b1, b2, b8⟩, h4, h3, hj, -, hw, -⟩ := h
  obtain ⟨j1, j2, j3⟩ := hj (by omega)
  obtain ⟨w1, w2, w3, w4, w5⟩ := hw h0
  exact ⟨⟨b1, b2, b8⟩, h4, ⟨j1, h3 j1⟩, j2, j3, h0, by omega, ⟨w2, w3⟩, w4, w5⟩
theorem pLess_day (F : pF) (m : Nat) : pF_day (pLess F m) = pF_day F := by unfold pLess; split <;> rfl
theorem pLess_rown (F : pF) {m m' : Nat} (h : m' ≠ m) : pF_o (pLess F m) m' = pF_o F m' := by
  unfold pLess; split
  · rw [pUp_rown _ h, pUp_rown _ h]
  · rw [pUp_rown _ h]
theorem pTail_day (D : pD) (F : pF) (m : Nat) (s : Int32) : pF_day (pTail D F m s) = pF_day F := by
  unfold pTail; split
  · rfl
  · split
    · exact pLess_day F m
    · split
      · rfl
      · exact pLess_day F m
theorem pTail_rown (D : pD) (F : pF) {m m' : Nat} (s : Int32) (h : m' ≠ m) : pF_o (pTail D F m s) m' = pF_o F m' := by
  unfold pTail; split
  · rw [pUp_rown _ h]
  · split
    · exact pLess_rown F h
    · split
      · rw [pUp_rown _ h]
      · exact pLess_rown F h
theorem pLess_v {D : pD} {F : pF} {m : Nat} (hf : pMt D (pF_o F m)) (hl : pF_o F m 5 < pF_o F m 6) : pMv D (pF_o (pLess F m) m) := by
  obtain ⟨⟨b1, b2, b8⟩, h4, ⟨h3, h3b⟩, hj, h6, h0, h5, h7, h9, hw⟩ := hf
  unfold pLess
  split
  · rw [pUp_row, pUp_row]
    exact ⟨⟨show (4 : Nat) ≤ 5 by decide, b1, b2, b8⟩, h4, fun _ => h3b, fun _ => ⟨h3, hj, h6⟩, fun e => absurd (show 4 = 0 from e) (by decide), fun e => absurd (show 4 = 1 from e) (by decide), fun e => absurd (show 4 = 2 from e) (by decide)⟩
  · rw [pUp_row]
    refine ⟨⟨by show pF_o F m 0 ≤ 5; omega, b1, b2, b8⟩, h4, fun _ => h3b, fun _ => ⟨h3, hj, h6⟩, fun e => absurd (show pF_o F m 0 = 0 from e) (by omega), fun _ => ⟨hl, ?_, ?_, h9, hw⟩, fun e => absurd (show pF_o F m 0 = 2 from e) (by omega)⟩
    · show 1 ≤ pF_o F m 7 - 1; omega
    · show pF_o F m 7 - 1 ≤ 40; omega
theorem pTail_v {D : pD} {F : pF} {m : Nat} (hv : pV D) (s : Int32) (hf : pMt D (pF_o F m)) : pMv D (pF_o (pTail D F m s) m) := by
  have hpos := hf.pos hv
  have hf' := hf
  obtain ⟨⟨b1, b2, b8⟩, h4, ⟨h3, h3b⟩, hj, h6, h0, h5, h7, h9, hw⟩ := hf
  unfold pTail
  split
  · rename_i q
    rw [pUp_row]
    exact ⟨⟨show (2 : Nat) ≤ 5 by decide, b1, b2, b8⟩, h4, fun _ => h3b, fun _ => ⟨h3, hj, h6⟩, fun e => absurd (show 2 = 0 from e) (by decide), fun e => absurd (show 2 = 1 from e) (by decide), fun _ => ⟨hpos.2.2.1.mpr q, hpos.2.2.2.1 q⟩⟩
  · have hl : pF_o F m 5 < pF_o F m 6 := by omega
    split
    · exact pLess_v hf' hl
    · split
      · rw [pUp_row]
        exact ⟨⟨show (5 : Nat) ≤ 5 by decide, b1, b2, b8⟩, h4, fun _ => h3b, fun _ => ⟨h3, hj, h6⟩, fun e => absurd (show 5 = 0 from e) (by decide), fun e => absurd (show 5 = 1 from e) (by decide), fun e => absurd (show 5 = 2 from e) (by decide)⟩
      · exact pLess_v hf' hl
theorem pFc.cg {D : pD} {F F' : pF} {K : FkT} (h : pFc D F K) (hd : pF_day F' = pF_day F) (ho : ∀ m i, pF_o F' m i = pF_o F m i) : pFc D F' K :=
  ⟨by rw [hd]; exact h.1, fun m i hm hi h6 => by rw [ho]; exact h.2 m i hm hi h6⟩
/-- he stays: no miles -/
theorem q_stay {D : pD} {L : LdT} (hv : pV D) (h : pLc D L) (M : MoT) {F : pF} {K : FkT} {w : Nat → Int32} (hK : pFc D F K) (hL : pLm D w) (hF : pFm D F w) (a b : Int32) {m : Nat} (hm : m < pD_nm D) (hf : pMt D (pF_o F m)) (ho : ∀ m', m' < pD_nm D → m' ≠ m → pMv D (pF_o F m')) (hd : pF_day F ≤ 400) :
    ∃ F' K' w' a' b', f_X1_walk_b109 K L (zn m) = some K' ∧ f_X12_walks_b104 (pM M w (Fk_seed K) a b) (zn m) (zn 0) = some (pM M w' (Fk_seed K') a' b') ∧ pFc D F' K' ∧ pFm D F' w' ∧ pFv D F' ∧ pFr w w' ∧ pF_day F' = pF_day F ∧ ∀ m', m' ≠ m → pF_o F' m' = pF_o F m' := by
  have e : ∀ m' i, pF_o (pUp (pUp F m 5 (pF_o F m 5 + 0)) m 11 (pF_o F m 11 + 0)) m' i = pF_o F m' i := by
    intro m' i
    simp only [pUp, pF_o]
    split
    · rename_i q; rw [q.1, q.2]; rfl
    · split
      · rename_i q; rw [q.1, q.2]; rfl
      · rfl
  have hK2 := hK.cg (F' := pUp (pUp F m 5 (pF_o F m 5 + 0)) m 11 (pF_o F m 11 + 0)) rfl e
  have e2 : ∀ m', pF_o (pUp (pUp F m 5 (pF_o F m 5 + 0)) m 11 (pF_o F m 11 + 0)) m' = pF_o F m' := fun m' => funext (e m')
  have hf2 : pMt D (pF_o (pUp (pUp F m 5 (pF_o F m 5 + 0)) m 11 (pF_o F m 11 + 0)) m) := by rw [e2]; exact hf
  obtain ⟨K', k1, k2, k3⟩ := pc_b109 hv h hK2 hm hf2
  obtain ⟨w', a', b', w1, w2, w3⟩ := pm_b104 hv M hL hF (Fk_seed K) a b (n := 0) hm hf.2.2.2.2.2.2.2.2.1 rfl hf2
  refine ⟨_, K', w', a', b', k1, by rw [k3]; exact w1, k2, w2, ⟨?_, fun m' hm' => ?_⟩, w3, ?_, fun m' q => ?_⟩
  · rw [pTail_day]; exact hd
  · by_cases q : m' = m
    · rw [q]; exact pTail_v hv _ hf2
    · rw [pTail_rown _ _ _ q, e2]; exact ho m' hm' q
  · rw [pTail_day]; rfl
  · rw [pTail_rown _ _ _ q, e2]
theorem pMt.set {D : pD} {F : pF} {m : Nat} (hv : pV D) (hf : pMt D (pF_o F m)) {n p e : Nat} (hn : pF_o F m 5 + n ≤ pF_o F m 6) (hp : (p, e) = pWalk D (pF_o F m 3 - 1) 10 (pF_o F m 4) (pF_o F m 5 + n)) :
    pMt D (pF_o (pUp (pUp (pUp (pUp (pUp F m 9 0) m 12 p) m 13 e) m 5 (pF_o F m 5 + n)) m 11 (pF_o F m 11 + n)) m) := by
  rw [pUp_row, pUp_row, pUp_row, pUp_row, pUp_row]
  obtain ⟨⟨b1, b2, b8⟩, h4, ⟨h3, h3b⟩, hj, h6, h0, h5, h7, h9, hw⟩ := hf
  exact ⟨⟨b1, b2, b8⟩, h4, ⟨h3, h3b⟩, hj, h6, h0, hn, h7, Nat.zero_le 1, hp⟩
/-- he goes -/
theorem q_go {D : pD} {L : LdT} (hv : pV D) (h : pLc D L) (M : MoT) {F : pF} {K : FkT} {w : Nat → Int32} (hK : pFc D F K) (hL : pLm D w) (hF : pFm D F w) (a b : Int32) {m n : Nat} (hm : m < pD_nm D) (hf : pMt D (pF_o F m)) (ho : ∀ m', m' < pD_nm D → m' ≠ m → pMv D (pF_o F m')) (hd : pF_day F ≤ 400) (hn : pF_o F m 5 + n ≤ pF_o F m 6) (hn0 : 0 < n) :
    ∃ F' K' w' a' b', f_X1_walk_b47 K L (zn m) (zn n) = some K' ∧ f_X12_walks_b61 (pM M w (Fk_seed K) a b) (zn m) (zn n) = some (pM M w' (Fk_seed K') a' b') ∧ pFc D F' K' ∧ pFm D F' w' ∧ pFv D F' ∧ pFr w w' ∧ pF_day F' = pF_day F ∧ ∀ m', m' ≠ m → pF_o F' m' = pF_o F m' := by
  have hpos := hf.pos hv
  have hf' := hf
  have hm6 := Nat.lt_of_lt_of_le hm hv.nm
  obtain ⟨⟨b1, b2, b8⟩, ⟨h4, h4b⟩, ⟨h3, h3b, h3c⟩, hj, h6, h0, h5, h7, h9, hw⟩ := hf
  obtain ⟨g, hg⟩ : ∃ g, pF_o F m 3 = g + 1 := ⟨pF_o F m 3 - 1, by omega⟩
  have hwp : ((pWalk D (pF_o F m 3 - 1) 10 (pF_o F m 4) (pF_o F m 5 + n)).1, (pWalk D (pF_o F m 3 - 1) 10 (pF_o F m 4) (pF_o F m 5 + n)).2) = pWalk D (pF_o F m 3 - 1) 10 (pF_o F m 4) (pF_o F m 5 + n) := rfl
  have hf2 := pMt.set hv hf' hn hwp
  have hadd := pWalk_add hv h3b h4 hj (pF_o F m 5) n
  rw [← hw] at hadd
  simp only at hadd
  generalize hp : (pWalk D (pF_o F m 3 - 1) 10 (pF_o F m 4) (pF_o F m 5 + n)).1 = p at hf2
  generalize he : (pWalk D (pF_o F m 3 - 1) 10 (pF_o F m 4) (pF_o F m 5 + n)).2 = e at hf2
  -- the class
  have hKa : pFc D (pUp F m 9 0) (Fk_s_row K (upd (Fk_row K) (m * 13 + 8) (0 : Int32))) := hK.p9 (v := 0)
  have cl : ∃ K2, (f_X1_step (Fk_s_row K (upd (Fk_row K) (m * 13 + 8) (0 : Int32))) L (zn m) (zn n)) = some K2 ∧ pFc D (pUp (pUp (pUp (pUp (pUp F m 9 0) m 12 p) m 13 e) m 5 (pF_o F m 5 + n)) m 11 (pF_o F m 11 + n)) K2 ∧ Fk_seed K2 = Fk_seed K := by
    generalize hKn : Fk_s_row K (upd (Fk_row K) (m * 13 + 8) (0 : Int32)) = Ka at hKa
    have hsd : Fk_seed Ka = Fk_seed K := by rw [← hKn]; rfl
    have r : ∀ j, j ≠ 9 → pF_o (pUp F m 9 0) m j = pF_o F m j := fun j hj => pUp_nei F m hj
    unfold f_X1_step
    have hcl := pCl_le hv (b := pF_o F m 3 - 1) hpos.1
    rw [pc_of3 hv hKa hm, r 3 (by omega), hg, ob_some, pc_of11 hv hKa hm, r 12 (by omega), ob_some, pc_of12 hv hKa hm, r 13 (by omega), ob_some, zn_add]
    rw [hg, Nat.add_sub_cancel] at hcl hadd hp he h3b hpos
    show ∃ K2, f_X1_step_L31 L zFU Ka (zn m) (zn n) (zn g) (zn (pF_o F m 12)) (zn (n + pF_o F m 13)) (zn 0) = some K2 ∧ _
    have hnb : n + pF_o F m 13 < 20000 := by omega
    rw [pc_step_loop hv h h3b Ka (zn m) (zn n) 10 hpos.1 hpos.2.1 (by omega) (by omega) (zFU_ge (by omega)) (by omega), Nat.add_comm n, hadd, hp, he]
    unfold f_X1_step_b93
    have k1 := hKa.p12 (m := m) (v := p)
    have k2 := k1.p13 (m := m) (v := e)
    rw [pc_put11 hv hm, ob_some, pc_put12 hv hm, ob_some, pc_more5 hv k2 hm, ob_some, zn_add]
    have r5 : pF_o (pUp (pUp (pUp F m 9 0) m 12 p) m 13 e) m 5 = pF_o F m 5 := by
      rw [pUp_nei _ _ (by omega), pUp_nei _ _ (by omega), pUp_nei _ _ (by omega)]
    rw [r5]
    have k3 := k2.p5 (m := m) (v := pF_o F m 5 + n)
    have r11 : pF_o (pUp (pUp (pUp (pUp F m 9 0) m 12 p) m 13 e) m 5 (pF_o F m 5 + n)) m 11 = pF_o F m 11 := by
      rw [pUp_nei _ _ (by omega), pUp_nei _ _ (by omega), pUp_nei _ _ (by omega), pUp_nei _ _ (by omega)]
    rw [pc_more10 hv k3 hm, ob_some, r11, zn_add]
    exact ⟨_, rfl, k3.p11, hsd⟩
  obtain ⟨K2, c1, c2, c3⟩ := cl
  obtain ⟨K', k1, k2, k3⟩ := pc_b109 hv h c2 hm hf2
  -- the reference
  have hFa : pFm D (pUp F m 9 0) (upd w (498 + m) (0 : Int32)) := hF.p9 hv hm (v := 0)
  have hFb : pFm D (pUp (pUp (pUp F m 9 0) m 12 p) m 13 e) (upd w (498 + m) (0 : Int32)) := (hFa.skip (by omega)).skip (by omega)
  have r5 : pF_o (pUp (pUp (pUp F m 9 0) m 12 p) m 13 e) m 5 = pF_o F m 5 := by
    rw [pUp_nei _ _ (by omega), pUp_nei _ _ (by omega), pUp_nei _ _ (by omega)]
  have r11 : pF_o (pUp (pUp (pUp F m 9 0) m 12 p) m 13 e) m 11 = pF_o F m 11 := by
    rw [pUp_nei _ _ (by omega), pUp_nei _ _ (by omega), pUp_nei _ _ (by omega)]
  have r9 : pF_o (pUp (pUp (pUp F m 9 0) m 12 p) m 13 e) m 9 = 0 := by
    rw [pUp_nei _ _ (by omega), pUp_nei _ _ (by omega), pUp_same]
  have hfr : pFr w (upd w (498 + m) (0 : Int32)) := (pFr.rf w).up (by omega) (by omega) _
  obtain ⟨w', a', b', w1, w2, w3⟩ := pm_b104 hv M (hL.fr' hv hfr) hFb (Fk_seed K2) a b (n := n) hm (by omega) (by rw [r5, r11]) hf2
  refine ⟨_, K', w', a', b', ?_, ?_, k2, w2, ⟨?_, fun m' hm' => ?_⟩, hfr.tr w3, ?_, fun m' q => ?_⟩
  · unfold f_X1_walk_b47 f_X1_walk_b48
    have hn6 := hpos.2.2.2.2.2
    rw [if_pos rfl, if_pos (by rw [zn_pos (by omega)]; exact hn0), pc_put8 hv hm, ob_some, c1, ob_some]
    exact k1
  · unfold f_X12_walks_b61 f_X12_walks_b62
    have hn6 := hpos.2.2.2.2.2
    rw [if_pos rfl, if_pos (by rw [zn_pos (by omega)]; exact hn0)]
    simp (disch := omega) only [zn_add, zb_zn, zn_nat, if_true, zlet, ob_some, pM_now, pM_snow, pM_seed, pM_sseed, pM_road, pM_place, pM_sroad, pM_splace, zn_l44, zn_l144, zn_l160, zn_l176, zn_l192, zn_l208, zn_l224, zn_l230, zn_l236, zn_l242, zn_l243, zn_l343, zn_l443, zn_l444, zn_l450, zn_l456, zn_l462, zn_l468, zn_l474, zn_l480, zn_l486, zn_l492, zn_l498, zn_l504, zn_l510, zn_l516, zn_l517, zn_l518]
    rw [k3, ← c3]; exact w1
  · rw [pTail_day]; exact hd
  · by_cases q : m' = m
    · rw [q]; exact pTail_v hv _ hf2
    · rw [pTail_rown _ _ _ q, pUp_rown _ q, pUp_rown _ q, pUp_rown _ q, pUp_rown _ q, pUp_rown _ q]; exact ho m' hm' q
  · rw [pTail_day]; rfl
  · rw [pTail_rown _ _ _ q, pUp_rown _ q, pUp_rown _ q, pUp_rown _ q, pUp_rown _ q, pUp_rown _ q]
