section
variable {n most : Nat} {B : Nat → Nat} {R : RdT} {M : MoT} {L : LdT} {D : pD}
theorem pLine.wrap {sz : Nat} {ln : Int32} {cl : Option (LdT × RdT)} {mo : Option (Int32 × MoT)} (h : pLine n most B M sz ln cl mo) : pLine n most B M sz ln (cl.bind fun q => some (q.1, q.2)) (mo.bind fun q => if zb_bo q.1 = true then some (q.1, q.2) else none) := by
  rcases h with ⟨L', R', M', D', h1, h2, h3⟩ | ⟨L', R', M', h1, h2, h3⟩
  · left; exact ⟨L', R', M', D', by rw [h1, ob_eq], by rw [h2, ob_eq]; rfl, h3⟩
  · right; exact ⟨L', R', M', by rw [h1, ob_eq], by rw [h2, ob_eq]; rfl, h3⟩
theorem q_readLine (h : pG n most B R M) (hk0 : ¬ Rd_kind R = 0) (hD : pLq D L (Mo_read M) (Mo_readName M)) : pLine n most B M (pSz D) (Ld_lines L) (f_X3_readLine L R) (f_X12_readLine M) := by
  have ht := h.2.1
  unfold f_X3_readLine f_X12_readLine f_X3_readLine_b23
  rcases tk_word ht (j := 0) (by omega) with ⟨a1, a2, a3, a4⟩ | ⟨a1, a2⟩
  · rw [show f_X12_isWord M 0 = some 1 from a4, ob_eq, if_neg n10, if_pos (show Rd_key R = 0 from a1)]
    exact (q_placeLine h hk0 a3 (s := 0) (by omega) a1 hD).wrap
  rw [show f_X12_isWord M 0 = some 0 from a2, ob_eq, if_pos rfl, if_neg (show ¬ Rd_key R = 0 from a1)]
  rcases tk_word ht (j := 1) (by omega) with ⟨b1, b2, b3, b4⟩ | ⟨b1, b2⟩
  · rw [show f_X12_isWord M 1 = some 1 from b4, ob_eq, if_neg n10, if_pos (show Rd_key R = 1 from b1)]
    exact (q_placeLine h hk0 b3 (s := 1) (by omega) b1 hD).wrap
  rw [show f_X12_isWord M 1 = some 0 from b2, ob_eq, if_pos rfl, if_neg (show ¬ Rd_key R = 1 from b1)]
  rcases tk_word ht (j := 2) (by omega) with ⟨c1, c2, c3, c4⟩ | ⟨c1, c2⟩
  · rw [show f_X12_isWord M 2 = some 1 from c4, ob_eq, if_neg n10, if_pos (show Rd_key R = 2 from c1)]
    exact (q_placeLine h hk0 c3 (s := 2) (by omega) c1 hD).wrap
  rw [show f_X12_isWord M 2 = some 0 from c2, ob_eq, if_pos rfl, if_neg (show ¬ Rd_key R = 2 from c1)]
  rcases tk_word ht (j := 3) (by omega) with ⟨d1, d2, d3, d4⟩ | ⟨d1, d2⟩
  · rw [show f_X12_isWord M 3 = some 1 from d4, ob_eq, if_neg n10, if_pos (show Rd_key R = 3 from d1)]
    exact (q_roadLine h hk0 d3 hD).wrap
  rw [show f_X12_isWord M 3 = some 0 from d2, ob_eq, if_pos rfl, if_neg (show ¬ Rd_key R = 3 from d1)]
  rcases tk_word ht (j := 5) (by omega) with ⟨e1, e2, e3, e4⟩ | ⟨e1, e2⟩
  · rw [show f_X12_isWord M 5 = some 1 from e4, ob_eq, if_neg n10, if_pos (show Rd_key R = 5 from e1)]
    exact (q_manLine h hk0 e3 hD).wrap
  rw [show f_X12_isWord M 5 = some 0 from e2, ob_eq, if_pos rfl, if_neg (show ¬ Rd_key R = 5 from e1)]
  rcases tk_word ht (j := 21) (by omega) with ⟨g1, g2, g3, g4⟩ | ⟨g1, g2⟩
  · rw [show f_X12_isWord M 21 = some 1 from g4, ob_eq, if_neg n10, if_pos (show Rd_key R = 6 from g1)]
    exact (q_kinLine h hk0 hD).wrap
  rw [show f_X12_isWord M 21 = some 0 from g2, ob_eq, if_pos rfl, if_neg (show ¬ Rd_key R = 6 from g1)]
  right
  obtain ⟨R', M', z1, z2, z3, z4⟩ := h.bad (k := 1) (by omega) (by omega) (Or.inl rfl)
  rw [pm_badB (k := 1) z2, show f_X7_fail R 1 = some R' from z1, ob_eq]
  exact ⟨_, R', M', rfl, rfl, z3, z4.l⟩
/-- a text that is too long, behind its last whole token: the reference -/
theorem pm_lineLong (h : pG n most B R M) (hk : Mo_kind M = 1) : ∃ R' M', f_X7_fail R 1 = some R' ∧ f_X12_readLine M = some (0, M') ∧ pW R' M' ∧ pFl M M' := by
  obtain ⟨R', M', z1, z2, z3, z4⟩ := h.bad (k := 1) (by omega) (by omega) (Or.inl rfl)
  have nw : ∀ j, f_X12_isWord M j = some 0 := fun j => pm_isWordN (by rw [hk]; decide) j
  refine ⟨R', M', z1, ?_, z3, z4.l⟩
  unfold f_X12_readLine
  simp only [nw, ob_eq, if_true]
  exact pm_badB (k := 1) z2
theorem zlt900 {i : Nat} (h : i < 900) : zn i < (900 : Int32) := by
  show zn i < zn 900
  rw [zn_lt (by omega) (by omega)]; exact h
/-- the lines of a land, behind a fault -/
theorem pc_linesW {fk pl i f1 : Nat} {R : RdT} {L : LdT} (h : pWc R fk pl) (hi : i < 900) (hf : 1 ≤ f1) : f_X3_read_L42 f1 L R (zn i) = some (0, L, R) := by
  obtain ⟨g, rfl⟩ : ∃ g, f1 = g + 1 := ⟨f1 - 1, by omega⟩
  show f_X3_read_H42 L R (f_X3_read_L42 g) (zn i) = _
  unfold f_X3_read_H42 f_X3_read_b83
  rw [if_pos (zlt900 hi), h.more, ob_eq, if_pos rfl, if_neg h.ne]
/-- the lines of a land -/
theorem q_lines (n most : Nat) (B : Nat → Nat) : ∀ (d : Nat) {i f1 f2 : Nat} {R : RdT} {M : MoT} {L : LdT} {D : pD}, 38 < d + pSz D → i ≤ pSz D → d + 1 ≤ f1 → d + 1 ≤ f2 → pG n most B R M → pLq D L (Mo_read M) (Mo_readName M) → Ld_lines L = zn i →
    (∃ L' R' M' D' i', f_X3_read_L42 f1 L R (zn i) = f_X3_read_b83 L' R' ∧ f_X12_land_L31 f2 M (zn i) = (f_X12_layWays M').bind (fun q => f_X12_land_L71 zFU q (zn i') 0) ∧ pG n most B R' M' ∧ pLq D' L' (Mo_read M') (Mo_readName M') ∧ pFl M M' ∧ Ld_lines L' = zn i' ∧ i' ≤ 38) ∨
    (∃ L' R' M', f_X3_read_L42 f1 L R (zn i) = some (0, L', R') ∧ f_X12_land_L31 f2 M (zn i) = f_X12_land_b52 M' ∧ pW R' M' ∧ pFl M M')
  | 0, i, f1, f2, R, M, L, D, a1, a2, a3, a4, h, hD, hl => by have := hD.sz; omega
  | d + 1, i, 0, f2, R, M, L, D, a1, a2, a3, a4, h, hD, hl => by omega
  | d + 1, i, f1 + 1, 0, R, M, L, D, a1, a2, a3, a4, h, hD, hl => by omega
  | d + 1, i, f1 + 1, f2 + 1, R, M, L, D, a1, a2, a3, a4, h, hD, hl => by
    have hs := hD.sz
    have c0 : f_X3_read_L42 (f1 + 1) L R (zn i) = f_X3_read_H42 L R (f_X3_read_L42 f1) (zn i) := rfl
    have m0 : f_X12_land_L31 (f2 + 1) M (zn i) = f_X12_land_H31 M (f_X12_land_L31 f2) (zn i) := rfl
    rw [c0, m0]
    unfold f_X3_read_H42 f_X12_land_H31
    rw [if_pos (zlt900 (by omega))]
    rcases h.more with ⟨k1, k2, k3⟩ | ⟨k1, k2⟩ | ⟨R', k1, k2, k3, k4⟩
    · rw [k1, ob_eq, if_neg n10, if_neg k2]
      rcases q_readLine h k3 hD with ⟨L1, R1, M1, D1, b1, b2, b3, b4, b5, b6, b7⟩ | ⟨L1, R1, M1, b1, b2, b3, b5⟩
      · rw [b1, b2, ob_eq, ob_eq]
        simp only [if_neg n10]
        rcases b3.semi with ⟨R2, M2, e1, e2, e3, e4⟩ | ⟨R2, M2, e1, e2, e3, e4⟩
        · rw [e1, e2, ob_eq, ob_eq, zl_eq, if_neg n10, show Ld_lines L1 + 1 = zn (i + 1) from by rw [b6, hl]; exact zn_add i 1, show zn i + 1 = zn (i + 1) from zn_add i 1]
          have hD2 : pLq D1 (Ld_s_lines L1 (zn (i + 1))) (Mo_read M2) (Mo_readName M2) := by rw [e4.rd, e4.rn]; exact b4
          have fin := q_lines n most B d (i := i + 1) (f1 := f1) (f2 := f2) (by omega) (by omega) (by omega) (by omega) e3 hD2 rfl
          have w2 : pFl M M2 := b5.tr e4.l
          rcases fin with ⟨L', R', M', D', i', g1, g2, g3, g4, g5, g6⟩ | ⟨L', R', M', g1, g2, g3, g4⟩
          · left; exact ⟨L', R', M', D', i', g1, g2, g3, g4, w2.tr g5, g6⟩
          · right; exact ⟨L', R', M', g1, g2, g3, w2.tr g4⟩
        · right
          obtain ⟨fk, pl, e3, e3'⟩ := e3
          rw [e1, e2, ob_eq, ob_eq, zl_eq, if_pos rfl, show zn i + 1 = zn (i + 1) from zn_add i 1, pc_linesW e3 (by omega) (by omega)]
          exact ⟨_, R2, M2, rfl, rfl, ⟨fk, pl, e3, e3'⟩, b5.tr e4.l⟩
      · right
        obtain ⟨fk, pl, b3, b3'⟩ := b3
        rw [b1, b2, ob_eq, ob_eq]
        simp only [if_true]
        rw [b3.expect, ob_eq, zl_eq, show zn i + 1 = zn (i + 1) from zn_add i 1, pc_linesW b3 (by omega) (by omega)]
        exact ⟨_, R1, M1, rfl, rfl, ⟨fk, pl, b3, b3'⟩, b5⟩
    · left
      rw [k1, ob_eq, if_pos rfl, if_pos k2]
      exact ⟨L, R, M, D, i, rfl, rfl, h, hD, ⟨rfl, rfl, rfl⟩, hl, by omega⟩
    · right
      obtain ⟨R2, M2, z1, z2, z3, z4⟩ := pm_lineLong h k2
      rw [k3] at z1
      obtain rfl := Option.some.inj z1
      rw [k1, ob_eq, if_pos rfl, if_neg (by rw [k2]; decide), z2, ob_eq]
      simp only [if_true]
      refine ⟨L, R', M2, ?_, rfl, z3, z4⟩
      obtain ⟨fk, pl, z3, z3'⟩ := z3
      unfold f_X3_read_b83
      rw [if_neg z3.ne]
end
