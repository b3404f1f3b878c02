/-- the names told -/
def pNn (D : pD) (L : LdT) (N : Nat → Int64) : Prop := (∀ p, p < pD_np D → pNm (Ld_placeNames L p) (N p)) ∧ (∀ m, m < pD_nm D → pNm (Ld_manNames L m) (N (10 + m)))
def pKeys (R : RdT) : Prop := ∀ k, k < 28 → Rd_keys R k = zq (pKy k)
/-- the reader and the reference's reading, between two calls -/
def pRdr (R : RdT) (M : MoT) : Prop := Rd_fault R = Mo_fault M ∧ pTape R (Mo_tape M) (Mo_taped M) ∧ pKeys R
theorem pRdr.end' {R : RdT} {M : MoT} (h1 : Rd_fault R = Mo_fault M) (h2 : Mo_taped M = 0) (h3 : pKeys R) : pRdr (Rd_s_length R 0) M := ⟨h1, ⟨0, by omega, rfl, h2, fun i hi => by omega⟩, h3⟩
def pD0 : pD := ((0, 0, 0, 0), (fun _ _ => 0, fun _ _ => 0, fun _ _ => 0), (fun _ _ => 0, fun _ _ => 0, fun _ _ => 0))
theorem pD0_q {L : LdT} {w : Nat → Int32} {N : Nat → Int64} (h1 : Ld_places L = 0) (h2 : Ld_roads L = 0) (h3 : Ld_men L = 0) (h4 : Ld_ports L = 0) (h5 : ∀ j, j < 100 → Ld_between L j = -1) (hw : ∀ j, j < 443 → w j = 0) : pLq pD0 L w N := by
  refine ⟨⟨Nat.zero_le _, Nat.zero_le _, Nat.zero_le _, Nat.zero_le _⟩, ⟨h1, h2, h3, h4⟩, ⟨hw _ (by omega), hw _ (by omega), hw _ (by omega), hw _ (by omega)⟩, fun p hp => absurd hp (Nat.not_lt_zero _), fun p hp => absurd hp (Nat.not_lt_zero _), fun p hp => absurd hp (Nat.not_lt_zero _), ⟨0, by omega, hw _ (by omega), fun p hp => absurd hp (Nat.not_lt_zero _), fun m _ _ => by rw [Nat.zero_div]⟩, fun a b ha hb => ⟨h5 _ (by omega), hw _ (by omega), fun r hr => ?_⟩, ⟨fun p _ hp => ⟨hw _ (by omega), hw _ (by omega), hw _ (by omega)⟩, fun r _ hr => hw _ (by omega)⟩⟩
  have hr' : (0 : Nat) = r + 1 := hr
  omega
theorem q_land {R : RdT} {M : MoT} (hR : pRdr R M) (X : XxT) (L1 L3 : LdT) (K : FkT) (Ph : PhT) (Hi : HiT) :
    (∃ r L' R' M', f_X11_land X L1 R L3 K Ph Hi = some (r, X, L', R', K, Ph, Hi, false) ∧ f_X12_land M = some (r, M') ∧ pRdr R' M' ∧ Mo_thrown M' = 0 ∧ M'.2.2.2.2 = M.2.2.2.2) ∨
    (∃ r L' R' K' Ph' Hi' M' D, f_X11_land X L1 R L3 K Ph Hi = some (r, X, L', R', K', Ph', Hi', true) ∧ f_X12_land M = some (r, M') ∧ pRdr R' M' ∧ Mo_thrown M' = 0 ∧ pV D ∧ pLc D L' ∧ pLm D (Mo_now M') ∧ pNn D L' (Mo_name M') ∧ pFc D (pF1 D) K' ∧ pFm D (pF1 D) (Mo_now M') ∧ pFv D (pF1 D) ∧ Ph_ones Ph' = 0 ∧ Ph_parts Ph' = 0 ∧ (∀ j, 516 ≤ j → j < 758 → Mo_now M' j = 0) ∧ Hi_size Hi' = 0 ∧ Hi_first Hi' = Hi_first Hi ∧ Mo_snapMany M' = 0 ∧ M'.2.2.2.2.2.1 = M.2.2.2.2.2.1 ∧ M'.2.2.2.2.2.2.1 = (Mo_snaps M, 0, Mo_aside M, Mo_seed M) ∧ M'.2.2.2.2.2.2.2 = M.2.2.2.2.2.2.2) := by
  obtain ⟨hf, ⟨n, t1, t2, t3, t4⟩, hk⟩ := hR
  obtain ⟨B, R1, M1, b1, b2, b3, b4, b5, b6⟩ := q_begin (most := 900) t1 (by omega) t2 t3 t4 hk
  obtain ⟨w, c1, c2⟩ := pm_land9 443 (k := 0) (fu := zFU) (M := M1) (by omega) (zFU_ge (by omega)) (fun j hj => by omega)
  have b1' : f_X7_begin R 900 = some R1 := b1
  have b2' : f_X12_begin M 900 = some M1 := b2
  have c1' : f_X12_land_L9 zFU M1 0 = f_X12_land_L31 zFU (Mo_s_read M1 w) 0 := c1
  obtain ⟨L2, hL2, hq⟩ : ∃ L2, L2 = Ld_s_between (Ld_s_lines (Ld_s_ports (Ld_s_men (Ld_s_roads (Ld_s_places L1 0) 0) 0) 0) 0) (zr_fill 100 (Ld_between (Ld_s_lines (Ld_s_ports (Ld_s_men (Ld_s_roads (Ld_s_places L1 0) 0) 0) 0) 0)) (-1)) ∧ pLq pD0 L2 w (Mo_readName M1) := by
    refine ⟨_, rfl, pD0_q rfl rfl rfl rfl (fun j hj => ?_) c2⟩
    show zr_fill 100 (Ld_between L1) (-1) j = -1
    unfold zr_fill
    rw [if_pos hj]
  have hG : pG n 900 B R1 (Mo_s_read M1 w) := ⟨b3.1, b3.2.1, b3.2.2.1, b3.2.2.2⟩
  have cl : f_X3_read L1 R = f_X3_read_L42 zFU L2 R1 0 := by
    unfold f_X3_read
    simp only [zl_eq]
    rw [b1', ob_eq, hL2]
  have mo : f_X12_land M = f_X12_land_L31 zFU (Mo_s_read M1 w) 0 := by
    unfold f_X12_land
    rw [b2', ob_eq, c1']
  unfold f_X11_land
  rw [cl, mo]
  have l0 : Ld_lines L2 = zn 0 := by rw [hL2]; rfl
  rcases q_lines n 900 B 39 (i := 0) (f1 := zFU) (f2 := zFU) (R := R1) (M := Mo_s_read M1 w) (L := L2) (D := pD0) (by omega) (by omega) (zFU_ge (by omega)) (zFU_ge (by omega)) hG hq l0 with ⟨L', R', M', D', i', g1, g2, g3, g4, g5, g6, g7⟩ | ⟨L', R', M', g1, g2, ⟨fk, pl, g3, g3'⟩, g4⟩
  · right
    have g1' : f_X3_read_L42 zFU L2 R1 0 = f_X3_read_b83 L' R' := g1
    have g2' : f_X12_land_L31 zFU (Mo_s_read M1 w) 0 = (f_X12_layWays M').bind (fun q => f_X12_land_L71 zFU q (zn i') 0) := g2
    obtain ⟨m, nx, t, w', e1, e2, e3, e4, e5⟩ := q_laid g4
    have hv := g4.v
    obtain ⟨K', k1, k2⟩ := pc_settle hv e4 K
    have d71 := pm_land71 (zn i') 443 (k := 0) (fu := zFU) (M := Mo_s_read M' w') (by omega) (zFU_ge (by omega))
    have d71' : f_X12_land_L71 zFU (Mo_s_read M' w') (zn i') 0 = f_X12_land_L98 zFU (Mo_s_now (Mo_s_read M' w') (pCpy (Mo_now M') w' 0 0 0 443)) (zn i') 0 := d71
    obtain ⟨N, n1, n2⟩ := pm_land98 (zn i') (T := Mo_readName M') 16 (k := 0) (fu := zFU) (M := Mo_s_now (Mo_s_read M' w') (pCpy (Mo_now M') w' 0 0 0 443)) (by omega) (zFU_ge (by omega)) rfl (fun j hj => by omega)
    have n1' : f_X12_land_L98 zFU (Mo_s_now (Mo_s_read M' w') (pCpy (Mo_now M') w' 0 0 0 443)) (zn i') 0 = _ := n1
    obtain ⟨v, s1, s2⟩ := pm_startSo (S := pCpy (Mo_now M') w' 0 0 0 443) (M := Mo_s_name (Mo_s_now (Mo_s_read M' w') (pCpy (Mo_now M') w' 0 0 0 443)) N) rfl
    have hlm : pLm (pLay D') (pCpy (Mo_now M') w' 0 0 0 443) := e5.fr hv fun i hi => by
      have := pCpy_in (Mo_now M') w' (a := 0) (b := 0) (n := 443) hi
      rw [Nat.zero_add] at this; exact this
    obtain ⟨p1, p2, p3⟩ := pF1_m hv hlm s2
    have w5 : M'.1 = M1.1 ∧ M'.2.2.2.2 = M1.2.2.2.2 ∧ Mo_thrown M' = Mo_thrown M1 := g5
    have w6 : M'.2.2.2.2 = M.2.2.2.2 := by rw [w5.2.1, b5]
    have w7 : Mo_taped M' = 0 := by show M'.1.2 = 0; rw [w5.1, b4]
    have rb : f_X3_read_b83 L' R' = some (1, Ld_s_towards (Ld_s_nexts (Ld_s_miles L' m) nx) t, R') := by
      unfold f_X3_read_b83
      rw [if_pos g3.2.2.1, e1, ob_eq, e2, ob_eq]
    refine ⟨zn i', _, Rd_s_length R' 0, K', Ph_s_parts (Ph_s_ones Ph 0) 0, Hi_s_size Hi 0, Mo_s_snapMany (Mo_s_now (Mo_s_name (Mo_s_now (Mo_s_read M' w') (pCpy (Mo_now M') w' 0 0 0 443)) N) v) 0, pLay D', ?_, ?_, ?_, ?_, hv, e4, p2, ?_, k2, p1, pF1_v hv, rfl, rfl, p3, rfl, rfl, rfl, ?_, ?_, ?_⟩
    · rw [g1', rb, ob_eq, zl_eq]
      simp only [if_neg n10]
      rw [k1, ob_eq]
      unfold f_X5_clear f_X2_clear
      simp only [zl_eq, ob_eq]
      rw [show Ld_lines (Ld_s_towards (Ld_s_nexts (Ld_s_miles L' m) nx) t) = zn i' from g6]
    · rw [g2', e3, ob_eq, d71', n1', s1, ob_eq]
    · refine pRdr.end' ?_ w7 g3.1.2.2.2.2.2.2.2.2
      exact g3.2.2.1.trans g3.2.2.2.symm
    · exact w5.2.2.trans b6
    · have hs := g4
      refine ⟨fun p hp => ?_, fun q hq => ?_⟩
      · show pNm (Ld_placeNames L' p) (N p)
        have hp' : p < pD_np D' := hp
        have h10 := g4.1.1
        rw [n2 p (by omega)]; exact g4.ns.2.2.2.2.1 p hp'
      · show pNm (Ld_manNames L' q) (N (10 + q))
        have hq' : q < pD_nm D' := hq
        have h6 := g4.1.2.2.1
        rw [n2 _ (by omega)]; exact g4.ns.2.2.2.2.2 q hq'
    · show M'.2.2.2.2.2.1 = _
      rw [w6]
    · show (Mo_snaps M', (0 : Int32), Mo_aside M', Mo_seed M') = _
      show (M'.2.2.2.2.2.2.1.1, (0 : Int32), M'.2.2.2.2.2.2.1.2.2.1, M'.2.2.2.2.2.2.1.2.2.2) = _
      rw [w6]; rfl
    · show M'.2.2.2.2.2.2.2 = _
      rw [w6]
  · left
    have g1' : f_X3_read_L42 zFU L2 R1 0 = some (0, L', R') := g1
    have g2' : f_X12_land_L31 zFU (Mo_s_read M1 w) 0 = f_X12_land_b52 M' := g2
    have w5 : M'.1 = M1.1 ∧ M'.2.2.2.2 = M1.2.2.2.2 ∧ Mo_thrown M' = Mo_thrown M1 := g4
    rw [g1', g2', ob_eq, zl_eq]
    simp only [if_true]
    unfold f_X12_land_b52
    refine ⟨(-1 : Int32) - zn pl, L', Rd_s_length R' 0, M', ?_, ?_, ?_, w5.2.2.trans b6, by rw [w5.2.1, b5]⟩
    · rw [show Rd_faultAt (Rd_s_length R' 0) = zn pl from g3.2.2.2.2.1]
    · rw [g3'.2]
    · refine pRdr.end' (g3.2.2.2.1.trans g3'.1.symm) ?_ g3.2.2.2.2.2
      show M'.1.2 = 0
      rw [w5.1, b4]
