/-! SENTENCES: reading ONE -/
theorem pSg_inj0 : ∀ i j : Fin 28, pSg i.val = pSg j.val → i = j := by decide +kernel
theorem pSg_inj {i j : Nat} (hi : i < 28) (hj : j < 28) (h : pSg i = pSg j) : i = j := congrArg Fin.val (pSg_inj0 ⟨i, hi⟩ ⟨j, hj⟩ h)
def pEnv (D : pD) (L : LdT) (M : MoT) : Prop := pNs L (pD_np D) (pD_nm D) (Mo_name M) ∧ Mo_now M 0 = zn (pD_np D)
theorem pEnv.fr {D : pD} {L : LdT} {M M' : MoT} (h : pEnv D L M) (e : pBl M' = pBl M) : pEnv D L M' := by
  obtain ⟨e1, e2⟩ := pBl_now e
  unfold pEnv
  rw [e1, e2]; exact h
section
variable {n most : Nat} {B : Nat → Nat} {R : RdT} {M : MoT} {L : LdT} {D : pD}
theorem pm_findW (hT : pTk n most R M) (r1 r2 r3 r4 r5 : MoT → Option (Int32 × MoT)) (x1 : Int32) :
    (∃ j, 14 ≤ j ∧ j < 28 ∧ Rd_key R = zn (pSg j) ∧ Rd_kind R = 2 ∧ Mo_kind M = 2 ∧ f_B_X12_readSaid_L10 r1 r2 r3 r4 r5 zFU M x1 (zn 14) = f_B_X12_readSaid_b30 r1 r2 r3 r4 r5 M x1 (zn j)) ∨
    ((Rd_key R = zm ∨ ∃ j, j < 14 ∧ Rd_key R = zn (pSg j)) ∧ f_B_X12_readSaid_L10 r1 r2 r3 r4 r5 zFU M x1 (zn 14) = f_B_X12_readSaid_b30 r1 r2 r3 r4 r5 M x1 (zn 28)) := by
  have all0 : (∀ j, 14 ≤ j → j < 28 → f_X12_isWord M (zn j) = some 0) → ∀ (d : Nat) {w fu : Nat}, 14 ≤ w → w + d = 28 → d + 1 ≤ fu → f_B_X12_readSaid_L10 r1 r2 r3 r4 r5 fu M x1 (zn w) = f_B_X12_readSaid_b30 r1 r2 r3 r4 r5 M x1 (zn 28) := by
    intro h0 d
    induction d with
    | zero =>
      intro w fu h1 h2 h3
      cases fu with
      | zero => omega
      | succ fu =>
        show f_B_X12_readSaid_H10 r1 r2 r3 r4 r5 M (f_B_X12_readSaid_L10 r1 r2 r3 r4 r5 fu) x1 (zn w) = _
        unfold f_B_X12_readSaid_H10
        rw [if_pos (show (27 : Int32) < zn w by rw [zn_l27, zn_lt (by omega) (by omega)]; omega), show w = 28 by omega]
    | succ d ih =>
      intro w fu h1 h2 h3
      cases fu with
      | zero => omega
      | succ fu =>
        show f_B_X12_readSaid_H10 r1 r2 r3 r4 r5 M (f_B_X12_readSaid_L10 r1 r2 r3 r4 r5 fu) x1 (zn w) = _
        unfold f_B_X12_readSaid_H10
        rw [if_neg (show ¬ (27 : Int32) < zn w by rw [zn_l27, zn_lt (by omega) (by omega)]; omega), h0 w h1 (by omega), ob_eq, if_pos rfl, show zn w + 1 = zn (w + 1) from zn_add w 1]
        exact ih (w := w + 1) (fu := fu) (by omega) (by omega) (by omega)
  rcases tk_key hT with k | ⟨j, j1, j2, j3, j4, j5⟩
  · right
    refine ⟨Or.inl k, all0 (fun j h1 h2 => ?_) 14 (Nat.le_refl _) (by omega) (zFU_ge (by omega))⟩
    rcases tk_word hT h2 with ⟨w1, -⟩ | ⟨-, w2⟩
    · have := pSg_lt h2
      rw [k, zm_eq' (by omega)] at w1
      exact w1.elim
    · exact w2
  · have ne : ∀ i, i < 28 → i ≠ j → f_X12_isWord M (zn i) = some 0 := fun i h1 h2 => by
      rcases tk_word hT h1 with ⟨w1, -⟩ | ⟨-, w2⟩
      · have a1 := pSg_lt h1
        have a2 := pSg_lt j1
        rw [j2, zn_eq (by omega) (by omega)] at w1
        exact absurd (pSg_inj j1 h1 w1).symm h2
      · exact w2
    by_cases z : 14 ≤ j
    · left
      refine ⟨j, z, j1, j2, j3, j4, ?_⟩
      have : ∀ (d : Nat) {w fu : Nat}, 14 ≤ w → w + d = j → d + 1 ≤ fu → f_B_X12_readSaid_L10 r1 r2 r3 r4 r5 fu M x1 (zn w) = f_B_X12_readSaid_b30 r1 r2 r3 r4 r5 M x1 (zn j) := by
        intro d
        induction d with
        | zero =>
          intro w fu h1 h2 h3
          cases fu with
          | zero => omega
          | succ fu =>
            show f_B_X12_readSaid_H10 r1 r2 r3 r4 r5 M (f_B_X12_readSaid_L10 r1 r2 r3 r4 r5 fu) x1 (zn w) = _
            unfold f_B_X12_readSaid_H10
            rw [if_neg (show ¬ (27 : Int32) < zn w by rw [zn_l27, zn_lt (by omega) (by omega)]; omega), show w = j by omega, j5, ob_eq, if_neg n10]
        | succ d ih =>
          intro w fu h1 h2 h3
          cases fu with
          | zero => omega
          | succ fu =>
            show f_B_X12_readSaid_H10 r1 r2 r3 r4 r5 M (f_B_X12_readSaid_L10 r1 r2 r3 r4 r5 fu) x1 (zn w) = _
            unfold f_B_X12_readSaid_H10
            rw [if_neg (show ¬ (27 : Int32) < zn w by rw [zn_l27, zn_lt (by omega) (by omega)]; omega), ne w (by omega) (by omega), ob_eq, if_pos rfl, show zn w + 1 = zn (w + 1) from zn_add w 1]
            exact ih (w := w + 1) (fu := fu) (by omega) (by omega) (by omega)
      exact this (j - 14) (Nat.le_refl _) (by omega) (zFU_ge (by omega))
    · right
      exact ⟨Or.inr ⟨j, by omega, j2⟩, all0 (fun i h1 h2 => ne i h2 (by omega)) 14 (Nat.le_refl _) (by omega) (zFU_ge (by omega))⟩
/-- a place told in a sentence -/
theorem pG.placeN (h : pG n most B R M) (hE : pEnv D L M) :
    (∃ p R' M', p < pD_np D ∧ f_X3_knownPlace L R = some (zn p, R) ∧ f_X7_advance R = some R' ∧ f_X12_readPlaceName M = some (1, M') ∧ pG n most B R' M' ∧ pFb M M' ∧ Mo_told M' = zn p) ∨
    (∃ R' M', f_X3_knownPlace L R = some (-1, R') ∧ f_X12_readPlaceName M = some (0, M') ∧ pW R' M' ∧ pFb M M') := by
  have hG := h
  obtain ⟨hx, ht, hf, hm⟩ := h
  obtain ⟨⟨s1, s2, s3, s4, s5, s6⟩, hw⟩ := hE
  unfold f_X3_knownPlace f_X3_knownPlace_b34 f_X12_readPlaceName
  rcases tk_name ht with ⟨k1, k2, k3, k4, k5⟩ | ⟨k1, k2⟩
  · rw [if_pos k1, if_pos hf, k4, ob_eq, if_neg n10, show Mo_now M (0 : Int32).toNatClampNeg = zn (pD_np D) from hw]
    obtain ⟨i, i1, i2, i3⟩ := q_placeNamed s1 s3 k5 s5
    rw [i2, ob_eq, i3, ob_eq, zl_eq]
    rw [show Mo_told (Mo_s_told M (zo i)) = zo i from rfl]
    simp (disch := omega) only [zo_m1]
    have hG2 : pG n most B R (Mo_s_told M (zo i)) := ⟨hx, ht, hf, hm⟩
    cases i with
    | zero =>
      right
      obtain ⟨R', M', b1, b2, b3, b4⟩ := hG2.bad (k := 3) (by omega) (by omega) (Or.inr (by show ¬ Mo_kind M = 1; rw [k3]; decide))
      have b2' : f_X12_bad (Mo_s_told M (zo 0)) 3 = some (0, M') := b2
      rw [if_pos rfl, if_pos rfl, show f_X7_fail R 3 = some R' from b1, ob_eq, pm_badB b2']
      exact ⟨R', M', rfl, rfl, b3, b4⟩
    | succ p =>
      left
      obtain ⟨R', M', a1, a2, a3, a4, a5⟩ := hG2.adv (by rw [k1]; decide)
      rw [if_neg (by omega), if_neg (by omega), a2, ob_eq]
      exact ⟨p, R', M', by omega, rfl, a1, rfl, a3, a4, a5⟩
  · right
    obtain ⟨R', M', b1, b2, b3, b4⟩ := hG.bad (k := 1) (by omega) (by omega) (Or.inl rfl)
    have b1' : f_X7_fail R 1 = some R' := b1
    have b2' : f_X12_bad M 1 = some (0, M') := b2
    rw [if_neg k1, k2, ob_eq, if_pos rfl, pm_badB b2', b1', ob_eq]
    exact ⟨R', M', rfl, rfl, b3, b4⟩
/-- a sign told: what both have of it -/
theorem tk_cmp (h : pTk n most R M) : (∃ c, (c = 60 ∨ c = 61 ∨ c = 62) ∧ Rd_kind R = zn c ∧ Mo_sign M = zn c ∧ ∀ w, f_X12_readCompare M w = f_X12_readCompare_b33 M w) ∨ (¬ Rd_kind R = 60 ∧ ¬ Rd_kind R = 61 ∧ ¬ Rd_kind R = 62 ∧ ∀ w, f_X12_readCompare M w = (f_X12_bad M 1).bind fun q4 => if zb_bo q4.1 = true then some (q4.1, q4.2) else none) := by
  have sg : ∀ c, pSign c → f_X12_isSign M (zn c) = some 1 → Mo_sign M = zn c := fun c _ h => by
    unfold f_X12_isSign f_X12_isSign_b20 at h
    by_cases q : Mo_kind M = 4
    · rw [if_pos q] at h
      by_cases z : Mo_sign M = zn c
      · exact z
      · rw [if_neg z] at h; exact absurd (Option.some.inj h) (by decide)
    · rw [if_neg q] at h; exact absurd (Option.some.inj h) (by decide)
  rcases tk_sign h (c := 60) (by unfold pSign; omega) with ⟨k1, k2⟩ | ⟨k1, k2⟩
  · left
    refine ⟨60, by omega, k1, sg 60 (by unfold pSign; omega) k2, fun w => ?_⟩
    unfold f_X12_readCompare
    rw [show f_X12_isSign M 60 = some 1 from k2, ob_eq, if_neg n10]
  · rcases tk_sign h (c := 61) (by unfold pSign; omega) with ⟨j1, j2⟩ | ⟨j1, j2⟩
    · left
      refine ⟨61, by omega, j1, sg 61 (by unfold pSign; omega) j2, fun w => ?_⟩
      unfold f_X12_readCompare
      rw [show f_X12_isSign M 60 = some 0 from k2, ob_eq, if_pos rfl, show f_X12_isSign M 61 = some 1 from j2, ob_eq, if_neg n10]
    · rcases tk_sign h (c := 62) (by unfold pSign; omega) with ⟨i1, i2⟩ | ⟨i1, i2⟩
      · left
        refine ⟨62, by omega, i1, sg 62 (by unfold pSign; omega) i2, fun w => ?_⟩
        unfold f_X12_readCompare
        rw [show f_X12_isSign M 60 = some 0 from k2, ob_eq, if_pos rfl, show f_X12_isSign M 61 = some 0 from j2, ob_eq, if_pos rfl, show f_X12_isSign M 62 = some 1 from i2, ob_eq, if_neg n10]
      · right
        refine ⟨k1, j1, i1, fun w => ?_⟩
        unfold f_X12_readCompare
        rw [show f_X12_isSign M 60 = some 0 from k2, ob_eq, if_pos rfl, show f_X12_isSign M 61 = some 0 from j2, ob_eq, if_pos rfl, show f_X12_isSign M 62 = some 0 from i2, ob_eq, if_pos rfl]
end
/-- a reading that both do alike -/
def pRdOk (n most : Nat) (B : Nat → Nat) (D : pD) (L : LdT) (dp : Nat) (fc : PhT → RdT → LdT → Int32 → Option (PhT × RdT)) (fm : MoT → Option (Int32 × MoT)) : Prop :=
  ∀ (R : RdT) (M : MoT) (P : PhT) (ko so vo : Nat → Nat) (p o : Nat), pEnv D L M → pJ n most B R M P ko so vo p o dp → pGood n most B D M ko so vo p o dp (fc P R L (zn (dp + 1))) (fm M) ∨ pBad3 M (fc P R L (zn (dp + 1))) (fm M)
section
variable {n most : Nat} {B : Nat → Nat} {L : LdT} {D : pD} {dp : Nat} {r1 r2 r3 r4 r5 : MoT → Option (Int32 × MoT)} {c1 c2 c3 : PhT → RdT → LdT → Int32 → Option (PhT × RdT)}
/-- out of ONE again -/
theorem pm_out {M' : MoT} {x : Int32} (hx : zb_bo x = true) (hw : Mo_within M' = zn (dp + 1)) : f_B_X12_readSaid_b166 r1 r2 r3 r4 r5 M' x = some (x, Mo_s_within M' (zn dp)) := by
  unfold f_B_X12_readSaid_b166
  rw [hw, show zn (dp + 1) - 1 = zn dp from zn_sub (b := 1) (by omega), zl_eq, if_pos hx]
theorem pBad3.of {M M2 : MoT} {P' : PhT} {R' : RdT} {cl : Option (PhT × RdT)} {mo : Option (Int32 × MoT)} {p' : Nat} (h1 : cl = some (P', R')) (h2 : mo = some (0, M2)) (h3 : pW R' M2) (h4 : Ph_parts P' = zn p') (h5 : p' ≤ 40) (h6 : pBl M2 = pBl M) : pBad3 M cl mo := ⟨P', R', M2, p', h1, h2, h3, h4, h5, h6⟩
/-- the piece is one part: a ONE of the word w -/
theorem pGood_leaf {R : RdT} {M M2 : MoT} {P : PhT} {ko so vo : Nat → Nat} {p o : Nat} (hJ : pJ n most B R M2 P ko so vo p (o + 1) (dp + 1)) (hp : p ≤ 2 * o) (ho : pOnes ko p ≤ o) (hbl : pBl M2 = pBl M) (hnd : ∀ j, j < 4 * p → Mo_node M2 j = Mo_node M j) {w s v v1 v2 : Nat} (w1 : 15 ≤ w) (w2 : w ≤ 27) (hs : s < 128) (hv : v < 1000) (hv1 : w = 22 ∨ w = 23 → v1 = v) (hv2 : 24 ≤ w → v2 = v) :
    ∃ P' M3, f_X5_add P (zn (pKo (50 + w))) (zn s) (zn v) = some P' ∧ f_X12_saysOne M2 (zn (50 + w)) (zn v1) (zn v2) (zn s) = some (zn p, M3) ∧ Mo_within (Mo_s_top M3 (zn p)) = zn (dp + 1) ∧ ∀ {cl : Option (PhT × RdT)} {mo : Option (Int32 × MoT)}, cl = some (P', R) → mo = some (1, Mo_s_within (Mo_s_top M3 (zn p)) (zn dp)) → pGood n most B D M ko so vo p o dp cl mo := by
  obtain ⟨P', nd, a1, a2, a3, b1, b2, b3, b4, b5⟩ := pJ_add hJ (by omega) (c := 50 + w) (s := s) (v := v) ⟨by omega, hv⟩ hs (by omega) (zn (50 + w)) (zn v1) (zn v2) (zn s)
  refine ⟨P', _, a1, a2, by rw [g_within_top]; exact a3.2.2.2.2.2.2, fun e1 e2 => ⟨P', R, _, _, _, _, p + 1, o + 1, fun F m => pLf D F m w s v, p, e1, e2, ⟨(a3.1.s_top _).s_within _, ⟨a3.2.1.1, a3.2.1.2.1, by rw [g_onesMany_within, g_onesMany_top]; exact a3.2.1.2.2⟩, a3.2.2.1, a3.2.2.2.1, a3.2.2.2.2.1, by rw [g_nodes_within, g_nodes_top, g_nodes_nodes], g_within_within _ _⟩, by omega, by omega, by omega, fun i hi => ?_, fun j hj => ?_, ?_, by omega, by rw [g_top_within, g_top_top], ?_, by rw [bl_within, bl_top, bl_nodes, bl_node]; exact hbl⟩⟩
  · rw [upN_ne _ _ (by omega), upN_ne _ _ (by omega), upN_ne _ _ (by omega)]; exact ⟨rfl, rfl, rfl⟩
  · rw [g_node_within, g_node_top, g_node_nodes, g_node_node, b5 j hj, hnd j hj]
  · exact pSgm_leaf w1 (upN_eq _ _ _) (upN_eq _ _ _) (upN_eq _ _ _)
  · have h40 := hJ.2.2.1.2.1
    have h20 := hJ.2.1.2.1
    rw [g_node_within, g_node_top, g_node_nodes, g_node_node]
    exact ⟨by omega, Or.inl ⟨w, s, v, v1, v2, w1, w2, hs, hv, b1, b2, b3, b4, hv1, hv2, fun _ _ => rfl⟩⟩
end
