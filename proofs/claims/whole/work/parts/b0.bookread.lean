/-! BOOKS: reading a line, the pieces -/
/-- what reading a line of a book leaves -/
def pBb (M : MoT) := (M.1, M.2.2.2.1, M.2.2.2.2.1, M.2.2.2.2.2.1, M.2.2.2.2.2.2.1, M.2.2.2.2.2.2.2.1, M.2.2.2.2.2.2.2.2.1, M.2.2.2.2.2.2.2.2.2.1, M.2.2.2.2.2.2.2.2.2.2.1, (Mo_written M, Mo_lineMany M, Mo_hasWritten M), M.2.2.2.2.2.2.2.2.2.2.2.2, Mo_thrown M)
theorem pFb.bb {M M' : MoT} (h : pFb M M') : pBb M' = pBb M := by unfold pBb Mo_written Mo_lineMany Mo_hasWritten; rw [h.1, h.2.1, h.2.2]
theorem pFb.line {M M' : MoT} (h : pFb M M') : Mo_line M' = Mo_line M := congrArg (fun z => z.2.2.2.2.2.2.2.2.1.1) h.2.1
theorem bb_line (M : MoT) (v : Nat → Int32) : pBb (Mo_s_line M v) = pBb M := rfl
theorem bb_told (M : MoT) (v : Int32) : pBb (Mo_s_told M v) = pBb M := rfl
theorem pBb_now {M M' : MoT} (h : pBb M' = pBb M) : Mo_now M' = Mo_now M ∧ Mo_name M' = Mo_name M := ⟨congrArg (fun z => z.2.2.1.1) h, congrArg (fun z => z.2.2.1.2) h⟩
theorem pBb_many {M M' : MoT} (h : pBb M' = pBb M) : Mo_lineMany M' = Mo_lineMany M := congrArg (fun z => z.2.2.2.2.2.2.2.2.2.1.2.1) h
theorem pG.s_line {n most : Nat} {B : Nat → Nat} {R : RdT} {M : MoT} (h : pG n most B R M) (v : Nat → Int32) : pG n most B R (Mo_s_line M v) := h
theorem pG.s_told {n most : Nat} {B : Nat → Nat} {R : RdT} {M : MoT} (h : pG n most B R M) (v : Int32) : pG n most B R (Mo_s_told M v) := h
theorem pW.s_line {R : RdT} {M : MoT} (h : pW R M) (v : Nat → Int32) : pW R (Mo_s_line M v) := h
def pEnB (D : pD) (L : LdT) (M : MoT) : Prop := pNs L (pD_np D) (pD_nm D) (Mo_name M) ∧ pLm D (Mo_now M)
theorem pEnB.fr {D : pD} {L : LdT} {M M' : MoT} (h : pEnB D L M) (e : pBb M' = pBb M) : pEnB D L M' := by
  obtain ⟨e1, e2⟩ := pBb_now e
  unfold pEnB
  rw [e1, e2]; exact h
section
variable {n most : Nat} {B : Nat → Nat} {R : RdT} {M : MoT} {L : LdT} {D : pD}
/-- a man told in a book -/
theorem pG.manN (h : pG n most B R M) (hE : pEnB D L M) :
    (∃ m, m < pD_nm D ∧ f_X3_knownMan L R = some (zn m, R) ∧ f_X12_isName M = some 1 ∧ f_X12_findIn 16 (Mo_name M) 10 (zn (pD_nm D)) (Mo_word M) = some (zn m) ∧ ¬ Rd_kind R = 0 ∧ Mo_kind M = 2) ∨
    (∃ k R' M', ((k = 1 ∧ f_X12_isName M = some 0) ∨ (k = 3 ∧ f_X12_isName M = some 1 ∧ f_X12_findIn 16 (Mo_name M) 10 (zn (pD_nm D)) (Mo_word M) = some (-1))) ∧ f_X3_knownMan L R = some (-1, R') ∧ f_X12_bad M k = some (0, M') ∧ pW R' M' ∧ pFb M M') := by
  have hG := h
  obtain ⟨hx, ht, hf, hm⟩ := h
  obtain ⟨⟨s1, s2, s3, s4, s5, s6⟩, hw⟩ := hE
  unfold f_X3_knownMan f_X3_knownMan_b34
  rcases tk_name ht with ⟨k1, k2, k3, k4, k5⟩ | ⟨k1, k2⟩
  · rw [if_pos k1, if_pos hf]
    obtain ⟨i, i1, i2, i3⟩ := q_manNamed s2 s4 k5 s6
    rw [i2, ob_eq]
    simp (disch := omega) only [zo_m1]
    cases i with
    | zero =>
      right
      obtain ⟨R', M', b1, b2, b3, b4⟩ := hG.bad (k := 3) (by omega) (by omega) (Or.inr (by rw [k3]; decide))
      rw [if_pos rfl, show f_X7_fail R 3 = some R' from b1, ob_eq]
      exact ⟨3, R', M', Or.inr ⟨rfl, k4, i3⟩, rfl, b2, b3, b4⟩
    | succ p =>
      left
      rw [if_neg (by omega)]
      exact ⟨p, by omega, rfl, k4, i3, by rw [k1]; decide, k3⟩
  · right
    obtain ⟨R', M', b1, b2, b3, b4⟩ := hG.bad (k := 1) (by omega) (by omega) (Or.inl rfl)
    have b1' : f_X7_fail R 1 = some R' := b1
    rw [if_neg k1, b1', ob_eq]
    exact ⟨1, R', M', Or.inl ⟨rfl, k2⟩, rfl, b2, b3, b4⟩
/-- a port told in a book -/
theorem pG.portN (hv : pV D) (hc : pLc D L) (h : pG n most B R M) (hE : pEnB D L M) :
    (∃ p R' M', p < pD_np D ∧ pD_pl D p 0 = 2 ∧ f_X3_knownPlace L R = some (zn p, R) ∧ f_X7_advance R = some R' ∧ f_X12_readPort M = some (1, M') ∧ pG n most B R' M' ∧ pFb M M' ∧ Mo_told M' = zn p) ∨
    (∃ R' M', (f_X3_knownPlace L R = some (-1, R') ∨ ∃ p, p < pD_np D ∧ pD_pl D p 0 ≠ 2 ∧ f_X3_knownPlace L R = some (zn p, R) ∧ f_X7_fail R 3 = some R') ∧ f_X12_readPort M = some (0, M') ∧ pW R' M' ∧ pFb M M') := by
  have hG := h
  have hnp := hv.np
  obtain ⟨hx, ht, hf, hm⟩ := h
  obtain ⟨⟨s1, s2, s3, s4, s5, s6⟩, hw⟩ := hE
  unfold f_X3_knownPlace f_X3_knownPlace_b34 f_X12_readPort
  rcases tk_name ht with ⟨k1, k2, k3, k4, k5⟩ | ⟨k1, k2⟩
  · rw [if_pos k1, if_pos hf, k4, ob_eq, if_neg n10, show Mo_now M (0 : Int32).toNatClampNeg = zn (pD_np D) from hw.1.1]
    obtain ⟨i, i1, i2, i3⟩ := q_placeNamed s1 s3 k5 s5
    rw [i2, ob_eq, i3, ob_eq, zl_eq]
    rw [show Mo_told (Mo_s_told M (zo i)) = zo i from rfl]
    simp (disch := omega) only [zo_m1]
    have hG2 : pG n most B R (Mo_s_told M (zo i)) := ⟨hx, ht, hf, hm⟩
    obtain ⟨R', M', b1, b2, b3, b4⟩ := hG2.bad (k := 3) (by omega) (by omega) (Or.inr (by show ¬ Mo_kind M = 1; rw [k3]; decide))
    have b2' : f_X12_bad (Mo_s_told M (zo i)) 3 = some (0, M') := b2
    have b1' : f_X7_fail R 3 = some R' := b1
    have b4' : pFb M M' := b4
    cases i with
    | zero =>
      right
      rw [if_pos rfl, if_pos rfl, b1', ob_eq, pm_badB b2']
      exact ⟨R', M', Or.inl rfl, rfl, b3, b4'⟩
    | succ p =>
      have hp : p < pD_np D := by omega
      have hpl := hv.pl hp
      rw [if_neg (by omega), if_neg (by omega), show (4 : Int32) + zo (p + 1) = zn (4 + p) from zn_add 4 p, zb_zn (show 4 + p < 758 by omega) (by omega), if_pos rfl, zn_nat (by omega), show Mo_now (Mo_s_told M (zo (p + 1))) (4 + p) = zn (pD_pl D p 0) from (hw.2.1 p hp).1]
      by_cases z : pD_pl D p 0 = 2
      · left
        obtain ⟨R2, M2, a1, a2, a3, a4, a5⟩ := hG2.adv (by rw [k1]; decide)
        rw [if_pos (show zn (pD_pl D p 0) = (2 : Int32) by rw [z]; rfl), a2, ob_eq]
        exact ⟨p, R2, M2, hp, z, rfl, a1, rfl, a3, a4, a5⟩
      · right
        rw [if_neg (show ¬ zn (pD_pl D p 0) = (2 : Int32) by rw [zn_l2, zn_eq (by omega) (by omega)]; exact z), pm_badB b2']
        exact ⟨R', M', Or.inr ⟨p, hp, z, rfl, b1'⟩, rfl, b3, b4'⟩
  · right
    obtain ⟨R', M', b1, b2, b3, b4⟩ := hG.bad (k := 1) (by omega) (by omega) (Or.inl rfl)
    have b1' : f_X7_fail R 1 = some R' := b1
    have b2' : f_X12_bad M 1 = some (0, M') := b2
    rw [if_neg k1, k2, ob_eq, if_pos rfl, pm_badB b2', b1', ob_eq]
    exact ⟨R', M', Or.inl rfl, rfl, b3, b4⟩
/-- which act is told -/
theorem pm_findA (hT : pTk n most R M) (x1 : Int32) :
    (∃ j, 6 ≤ j ∧ j ≤ 10 ∧ Rd_key R = zn (j + 1) ∧ Rd_kind R = 2 ∧ Mo_kind M = 2 ∧ f_X12_readManDoes M x1 = f_X12_readManDoes_b23 M x1 (zn j)) ∨
    ((Rd_key R < (7 : Int32) ∨ (11 : Int32) < Rd_key R) ∧ f_X12_readManDoes M x1 = f_X12_readManDoes_b23 M x1 (zn 11)) := by
  have all0 : (∀ j, 6 ≤ j → j < 11 → f_X12_isWord M (zn j) = some 0) → ∀ (d : Nat) {w fu : Nat}, 6 ≤ w → w + d = 11 → d + 1 ≤ fu → f_X12_readManDoes_L3 fu M x1 (zn w) = f_X12_readManDoes_b23 M x1 (zn 11) := by
    intro h0 d
    induction d with
    | zero =>
      intro w fu h1 h2 h3
      cases fu with
      | zero => omega
      | succ fu =>
        show f_X12_readManDoes_H3 M (f_X12_readManDoes_L3 fu) x1 (zn w) = _
        unfold f_X12_readManDoes_H3
        rw [if_pos (show (10 : Int32) < zn w by rw [zn_l10, zn_lt (by omega) (by omega)]; omega), show w = 11 by omega]
    | succ d ih =>
      intro w fu h1 h2 h3
      cases fu with
      | zero => omega
      | succ fu =>
        show f_X12_readManDoes_H3 M (f_X12_readManDoes_L3 fu) x1 (zn w) = _
        unfold f_X12_readManDoes_H3
        rw [if_neg (show ¬ (10 : Int32) < zn w by rw [zn_l10, zn_lt (by omega) (by omega)]; omega), h0 w h1 (by omega), ob_eq, if_pos rfl, show zn w + 1 = zn (w + 1) from zn_add w 1]
        exact ih (w := w + 1) (fu := fu) (by omega) (by omega) (by omega)
  rcases tk_key hT with k | ⟨j, j1, j2, j3, j4, j5⟩
  · right
    refine ⟨Or.inl (by rw [k]; decide), all0 (fun j h1 h2 => ?_) 5 (w := 6) (Nat.le_refl _) (by omega) (zFU_ge (by omega))⟩
    rcases tk_word hT (j := j) (by omega) with ⟨w1, -⟩ | ⟨-, w2⟩
    · have := pSg_lt (j := j) (by omega)
      rw [k, zm_eq' (by omega)] at w1
      exact w1.elim
    · exact w2
  · have ne : ∀ i, i < 28 → i ≠ j → f_X12_isWord M (zn i) = some 0 := fun i h1 h2 => by
      rcases tk_word hT h1 with ⟨w1, -⟩ | ⟨-, w2⟩
      · have a1 := pSg_lt h1
        have a2 := pSg_lt j1
        rw [j2, zn_eq (by omega) (by omega)] at w1
        exact absurd (pSg_inj j1 h1 w1).symm h2
      · exact w2
    have hs : ∀ i : Fin 28, (6 ≤ i.val ∧ i.val ≤ 10 → pSg i.val = i.val + 1) ∧ (i.val < 6 ∨ 10 < i.val → pSg i.val < 7 ∨ 11 < pSg i.val) := by decide +kernel
    obtain ⟨hs1, hs2⟩ := hs ⟨j, j1⟩
    simp only at hs1 hs2
    have hlt := pSg_lt j1
    by_cases z : 6 ≤ j ∧ j ≤ 10
    · left
      refine ⟨j, z.1, z.2, by rw [j2, hs1 z], j3, j4, ?_⟩
      have : ∀ (d : Nat) {w fu : Nat}, 6 ≤ w → w + d = j → d + 1 ≤ fu → f_X12_readManDoes_L3 fu M x1 (zn w) = f_X12_readManDoes_b23 M x1 (zn j) := by
        intro d
        induction d with
        | zero =>
          intro w fu h1 h2 h3
          cases fu with
          | zero => omega
          | succ fu =>
            show f_X12_readManDoes_H3 M (f_X12_readManDoes_L3 fu) x1 (zn w) = _
            unfold f_X12_readManDoes_H3
            rw [if_neg (show ¬ (10 : Int32) < zn w by rw [zn_l10, zn_lt (by omega) (by omega)]; omega), show w = j by omega, j5, ob_eq, if_neg n10]
        | succ d ih =>
          intro w fu h1 h2 h3
          cases fu with
          | zero => omega
          | succ fu =>
            show f_X12_readManDoes_H3 M (f_X12_readManDoes_L3 fu) x1 (zn w) = _
            unfold f_X12_readManDoes_H3
            rw [if_neg (show ¬ (10 : Int32) < zn w by rw [zn_l10, zn_lt (by omega) (by omega)]; omega), ne w (by omega) (by omega), ob_eq, if_pos rfl, show zn w + 1 = zn (w + 1) from zn_add w 1]
            exact ih (w := w + 1) (fu := fu) (by omega) (by omega) (by omega)
      exact this (j - 6) (w := 6) (Nat.le_refl _) (by omega) (zFU_ge (by omega))
    · right
      refine ⟨?_, all0 (fun i h1 h2 => ne i (by omega) (by omega)) 5 (w := 6) (Nat.le_refl _) (by omega) (zFU_ge (by omega))⟩
      rw [j2]
      rcases hs2 (by omega) with q | q
      · left; rw [show (7 : Int32) = zn 7 from rfl, zn_lt (by omega) (by omega)]; exact q
      · right; rw [show (11 : Int32) = zn 11 from rfl, zn_lt (by omega) (by omega)]; exact q
end
