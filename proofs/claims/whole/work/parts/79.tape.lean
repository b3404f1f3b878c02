/-! the tape -/
def pByt (c : Nat) : Int32 := zi (if c < 128 then (c : Int) else (c : Int) - 256)
def pTape (R : RdT) (t : Nat → Int32) (n : Int32) : Prop := ∃ k, k ≤ 940 ∧ Rd_length R = zn k ∧ n = zn k ∧ ∀ i, i < k → ∃ c, c < 256 ∧ t i = zn c ∧ Rd_tape R i = pByt c
theorem pByte (y : Int32) : ∃ c, c < 256 ∧ y &&& 255 = zn c ∧ vp_nar .byte y.toInt8.toInt32 = pByt c := by
  refine ⟨y.toBitVec.toNat % 256, Nat.mod_lt _ (by omega), ?_, ?_⟩
  · apply Int32.toBitVec_inj.mp
    apply BitVec.eq_of_toNat_eq
    have h1 : (y &&& 255).toBitVec.toNat = y.toBitVec.toNat &&& 255 := by
      rw [Int32.toBitVec_and, BitVec.toNat_and]; rfl
    have h2 : (zn (y.toBitVec.toNat % 256)).toBitVec.toNat = y.toBitVec.toNat % 256 := by
      show (BitVec.ofNat 32 (y.toBitVec.toNat % 256)).toNat = _
      rw [BitVec.toNat_ofNat]; omega
    rw [h1, h2]
    exact Nat.and_two_pow_sub_one_eq_mod _ 8
  · have e : vp_nar .byte y.toInt8.toInt32 = y.toInt8.toInt32 := by
      show y.toInt8.toInt32.toInt8.toInt32 = _
      rw [Int8.toInt8_toInt32]
    have hlt := y.toBitVec.isLt
    rw [e, pByt, ← Int32.toInt_inj, zi_toInt (by omega) (by omega), Int8.toInt_toInt32, Int32.toInt_toInt8]
    have h3 : y.toInt = if 2 * y.toBitVec.toNat < 2 ^ 32 then (y.toBitVec.toNat : Int) else (y.toBitVec.toNat : Int) - (2 ^ 32 : Nat) := by
      rw [← Int32.toInt_toBitVec]; exact BitVec.toInt_eq_toNat_cond _
    rw [h3]
    simp only [Int.bmod]
    split <;> split <;> split <;> omega
theorem pc_take_step (fu : Nat) (R : RdT) (x sh : Int32) {k : Nat} (hs : ¬ sh < 0) (hk : Rd_length R = zn k) (h : k < 940) : f_X7_take_L3 (fu + 1) R x sh = f_X7_take_L3 fu (Rd_s_length (Rd_s_tape R (upd (Rd_tape R) k (vp_nar .byte ((zr_ushr x sh).toInt8.toInt32)))) (zn (k + 1))) x (sh + (-8 : Int32)) := by
  show f_X7_take_H3 R (f_X7_take_L3 fu) x sh = _
  unfold f_X7_take_H3 f_X7_take_b40
  rw [if_neg hs, hk, if_pos (show zn k < (940 : Int32) by rw [zn_l940, zn_lt (by omega) (by omega)]; omega)]
  simp (disch := omega) only [zl_eq, zb_zn, zn_nat, if_true]
  rw [show Rd_length (Rd_s_tape R (upd (Rd_tape R) k (vp_nar .byte ((zr_ushr x sh).toInt8.toInt32)))) = zn k from hk, show zn k + 1 = zn (k + 1) from zn_add k 1]
theorem pm_come_step (fu : Nat) (M : MoT) (x sh : Int32) {k : Nat} (hs : ¬ sh < 0) (hk : Mo_taped M = zn k) (h : k < 940) : f_X12_come_L3 (fu + 1) M x sh = f_X12_come_L3 fu (Mo_s_taped (Mo_s_tape M (upd (Mo_tape M) k ((zr_ushr x sh) &&& (255 : Int32)))) (zn (k + 1))) x (sh + (-8 : Int32)) := by
  show f_X12_come_H3 M (f_X12_come_L3 fu) x sh = _
  unfold f_X12_come_H3
  rw [if_neg hs, hk]
  simp (disch := omega) only [zl_eq, zb_zn, zn_nat, if_true]
  rw [show Mo_taped (Mo_s_tape M (upd (Mo_tape M) k ((zr_ushr x sh) &&& (255 : Int32)))) = zn k from hk, show zn k + 1 = zn (k + 1) from zn_add k 1]
theorem pTape_put {R : RdT} {t : Nat → Int32} {k : Nat} (y : Int32) (hk : k < 940) (h : ∀ i, i < k → ∃ c, c < 256 ∧ t i = zn c ∧ Rd_tape R i = pByt c) : ∀ i, i < k + 1 → ∃ c, c < 256 ∧ upd t k (y &&& (255 : Int32)) i = zn c ∧ upd (Rd_tape R) k (vp_nar .byte y.toInt8.toInt32) i = pByt c := by
  intro i hi
  unfold upd
  by_cases q : i = k
  · obtain ⟨c, c1, c2, c3⟩ := pByte y
    rw [if_pos q, if_pos q]; exact ⟨c, c1, c2, c3⟩
  · rw [if_neg q, if_neg q]; exact h i (by omega)
theorem q_take {R : RdT} {M : MoT} {k : Nat} (x : Int32) (hk : k + 4 ≤ 940) (h1 : Rd_length R = zn k) (h2 : Mo_taped M = zn k) (h : ∀ i, i < k → ∃ c, c < 256 ∧ Mo_tape M i = zn c ∧ Rd_tape R i = pByt c) :
    ∃ T t, f_X7_take R x = some (Rd_s_length (Rd_s_tape R T) (zn (k + 4))) ∧ f_X12_come M x = some (Mo_s_taped (Mo_s_tape M t) (zn (k + 4))) ∧ ∀ i, i < k + 4 → ∃ c, c < 256 ∧ t i = zn c ∧ T i = pByt c := by
  have p1 := pTape_put (zr_ushr x 24) (R := R) (by omega) h
  have p2 := pTape_put (zr_ushr x 16) (R := Rd_s_length (Rd_s_tape R (upd (Rd_tape R) k (vp_nar .byte ((zr_ushr x 24).toInt8.toInt32)))) (zn (k + 1))) (by omega) p1
  have p3 := pTape_put (zr_ushr x 8) (R := Rd_s_length (Rd_s_tape R (upd (upd (Rd_tape R) k (vp_nar .byte ((zr_ushr x 24).toInt8.toInt32))) (k + 1) (vp_nar .byte ((zr_ushr x 16).toInt8.toInt32)))) (zn (k + 2))) (by omega) p2
  have p4 := pTape_put (zr_ushr x 0) (R := Rd_s_length (Rd_s_tape R (upd (upd (upd (Rd_tape R) k (vp_nar .byte ((zr_ushr x 24).toInt8.toInt32))) (k + 1) (vp_nar .byte ((zr_ushr x 16).toInt8.toInt32))) (k + 2) (vp_nar .byte ((zr_ushr x 8).toInt8.toInt32)))) (zn (k + 3))) (by omega) p3
  have s1 : (24 : Int32) + (-8) = 16 := by decide
  have s2 : (16 : Int32) + (-8) = 8 := by decide
  have s3 : (8 : Int32) + (-8) = 0 := by decide
  have s4 : (0 : Int32) + (-8) < 0 := by decide
  have eF : zFU = 69995 + 1 + 1 + 1 + 1 + 1 := rfl
  refine ⟨_, _, ?_, ?_, p4⟩
  · unfold f_X7_take
    rw [eF, pc_take_step _ R x 24 (by decide) h1 (by omega), s1, pc_take_step _ _ x 16 (k := k + 1) (by decide) rfl (by omega), s2, pc_take_step _ _ x 8 (k := k + 2) (by decide) rfl (by omega), s3, pc_take_step _ _ x 0 (k := k + 3) (by decide) rfl (by omega)]
    generalize 69995 = z
    show f_X7_take_H3 _ (f_X7_take_L3 z) x _ = _
    unfold f_X7_take_H3
    rw [if_pos s4]; rfl
  · unfold f_X12_come
    rw [eF, pm_come_step _ M x 24 (by decide) h2 (by omega), s1, pm_come_step _ _ x 16 (k := k + 1) (by decide) rfl (by omega), s2, pm_come_step _ _ x 8 (k := k + 2) (by decide) rfl (by omega), s3, pm_come_step _ _ x 0 (k := k + 3) (by decide) rfl (by omega)]
    generalize 69995 = z
    show f_X12_come_H3 _ (f_X12_come_L3 z) x _ = _
    unfold f_X12_come_H3
    rw [if_pos s4]; rfl
theorem q_feed {R : RdT} {M : MoT} (h : pTape R (Mo_tape M) (Mo_taped M)) (X : XxT) (x1 x2 x3 x4 x5 : Int32) : ∃ r T t n, f_X11_feed X R x1 x2 x3 x4 x5 = some (r, Rd_s_length (Rd_s_tape R T) n) ∧ f_X12_feed M x1 x2 x3 x4 x5 = some (r, Mo_s_taped (Mo_s_tape (Mo_s_thrown M 0) t) n) ∧ pTape (Rd_s_length (Rd_s_tape R T) n) t n := by
  obtain ⟨k, hk, e1, e2, hb⟩ := h
  unfold f_X11_feed f_X12_feed f_X7_hasRoom
  rw [zl_eq, e1, show Mo_taped (Mo_s_thrown M 0) = zn k from e2, show zn k + (20 : Int32) = zn (k + 20) from zn_add k 20]
  by_cases q : 940 < k + 20
  · have c : (940 : Int32) < zn (k + 20) := by rw [zn_l940, zn_lt (by omega) (by omega)]; exact q
    rw [if_pos c, if_pos c, ob_eq, if_pos rfl]
    refine ⟨-1, Rd_tape R, Mo_tape M, zn k, ?_, ?_, k, hk, rfl, rfl, hb⟩
    · rw [← e1]; rfl
    · rw [← e2]; rfl
  · have c : ¬ (940 : Int32) < zn (k + 20) := by rw [zn_l940, zn_lt (by omega) (by omega)]; exact q
    rw [if_neg c, if_neg c, ob_eq, if_neg n10]
    obtain ⟨T1, t1, a1, b1, c1⟩ := q_take (R := R) (M := Mo_s_thrown M 0) x1 (by omega) e1 e2 hb
    obtain ⟨T2, t2, a2, b2, c2⟩ := q_take (R := Rd_s_length (Rd_s_tape R T1) (zn (k + 4))) (M := Mo_s_taped (Mo_s_tape (Mo_s_thrown M 0) t1) (zn (k + 4))) (k := k + 4) x2 (by omega) rfl rfl c1
    obtain ⟨T3, t3, a3, b3, c3⟩ := q_take (R := Rd_s_length (Rd_s_tape R T2) (zn (k + 8))) (M := Mo_s_taped (Mo_s_tape (Mo_s_thrown M 0) t2) (zn (k + 8))) (k := k + 8) x3 (by omega) rfl rfl c2
    obtain ⟨T4, t4, a4, b4, c4⟩ := q_take (R := Rd_s_length (Rd_s_tape R T3) (zn (k + 12))) (M := Mo_s_taped (Mo_s_tape (Mo_s_thrown M 0) t3) (zn (k + 12))) (k := k + 12) x4 (by omega) rfl rfl c3
    obtain ⟨T5, t5, a5, b5, c5⟩ := q_take (R := Rd_s_length (Rd_s_tape R T4) (zn (k + 16))) (M := Mo_s_taped (Mo_s_tape (Mo_s_thrown M 0) t4) (zn (k + 16))) (k := k + 16) x5 (by omega) rfl rfl c4
    rw [a1, ob_eq, b1, ob_eq]
    rw [show f_X7_take (Rd_s_length (Rd_s_tape R T1) (zn (k + 4))) x2 = _ from a2, ob_eq, show f_X12_come (Mo_s_taped (Mo_s_tape (Mo_s_thrown M 0) t1) (zn (k + 4))) x2 = _ from b2, ob_eq]
    rw [show f_X7_take (Rd_s_length (Rd_s_tape (Rd_s_length (Rd_s_tape R T1) (zn (k + 4))) T2) (zn (k + 4 + 4))) x3 = _ from a3, ob_eq, show f_X12_come (Mo_s_taped (Mo_s_tape (Mo_s_taped (Mo_s_tape (Mo_s_thrown M 0) t1) (zn (k + 4))) t2) (zn (k + 4 + 4))) x3 = _ from b3, ob_eq]
    rw [show f_X7_take (Rd_s_length (Rd_s_tape (Rd_s_length (Rd_s_tape R T2) (zn (k + 8))) T3) (zn (k + 8 + 4))) x4 = _ from a4, ob_eq, show f_X12_come (Mo_s_taped (Mo_s_tape (Mo_s_taped (Mo_s_tape (Mo_s_thrown M 0) t2) (zn (k + 8))) t3) (zn (k + 8 + 4))) x4 = _ from b4, ob_eq]
    rw [show f_X7_take (Rd_s_length (Rd_s_tape (Rd_s_length (Rd_s_tape R T3) (zn (k + 12))) T4) (zn (k + 12 + 4))) x5 = _ from a5, ob_eq, show f_X12_come (Mo_s_taped (Mo_s_tape (Mo_s_taped (Mo_s_tape (Mo_s_thrown M 0) t3) (zn (k + 12))) t4) (zn (k + 12 + 4))) x5 = _ from b5, ob_eq]
    exact ⟨zn (k + 20), T5, t5, zn (k + 20), rfl, rfl, k + 20, by omega, rfl, rfl, c5⟩
theorem q_end {R : RdT} {M : MoT} (h : pTape R (Mo_tape M) (Mo_taped M)) (X : XxT) (x1 : Int32) : ∃ r n, f_X11_end X R x1 = some (r, Rd_s_length R n) ∧ f_X12_end M x1 = some (r, Mo_s_taped (Mo_s_thrown M 0) n) ∧ pTape (Rd_s_length R n) (Mo_tape M) n := by
  obtain ⟨k, hk, e1, e2, hb⟩ := h
  unfold f_X11_end f_X12_end
  simp only [zl_eq]
  rw [e1, show Mo_taped (Mo_s_thrown M 0) = zn k from e2]
  rcases zn_get x1 with h1 | ⟨n, rfl, h1⟩
  · rw [if_pos h1, if_pos h1]
    exact ⟨0, zn k, by rw [← e1]; rfl, by rw [← e2]; rfl, k, hk, rfl, rfl, hb⟩
  · rw [if_neg (zn_ge0 h1), if_neg (zn_ge0 h1)]
    by_cases q : zn k < zn n
    · rw [if_pos q, if_pos q]
      exact ⟨0, zn k, by rw [← e1]; rfl, by rw [← e2]; rfl, k, hk, rfl, rfl, hb⟩
    · rw [if_neg q, if_neg q]
      rw [zn_lt (by omega) (by omega)] at q
      exact ⟨1, zn n, rfl, rfl, n, by omega, rfl, rfl, fun i hi => hb i (by omega)⟩
theorem q_count {D : pD} {L : LdT} {R : RdT} {M : MoT} (hc : pLc D L) (hm : pLm D (Mo_now M)) (h : pTape R (Mo_tape M) (Mo_taped M)) (X : XxT) (x1 : Int32) : ∃ r, f_X11_count X L R x1 = some r ∧ f_X12_count M x1 = some (r, Mo_s_thrown M 0) := by
  obtain ⟨k, hk, e1, e2, hb⟩ := h
  unfold f_X11_count f_X12_count
  rw [zl_eq, hc.1.1, hc.1.2.1, hc.1.2.2.1, hc.1.2.2.2, e1]
  rw [show Mo_now (Mo_s_thrown M 0) (0 : Int32).toNatClampNeg = zn (pD_np D) from hm.1.1, show Mo_now (Mo_s_thrown M 0) (1 : Int32).toNatClampNeg = zn (pD_nr D) from hm.1.2.1, show Mo_now (Mo_s_thrown M 0) (2 : Int32).toNatClampNeg = zn (pD_nm D) from hm.1.2.2.1, show Mo_now (Mo_s_thrown M 0) (3 : Int32).toNatClampNeg = zn (pD_no D) from hm.1.2.2.2, show Mo_taped (Mo_s_thrown M 0) = zn k from e2]
  split
  · exact ⟨_, rfl, rfl⟩
  split
  · exact ⟨_, rfl, rfl⟩
  split
  · exact ⟨_, rfl, rfl⟩
  split
  · exact ⟨_, rfl, rfl⟩
  split
  · exact ⟨_, rfl, rfl⟩
  · exact ⟨_, rfl, rfl⟩
/-! what was told last -/
def pPlan (P : PlT) (M : MoT) : Prop := ∃ n, n ≤ 12 ∧ Mo_planLong M = zn n ∧ ∀ i, i < 12 → Pl_chosen P i = if i < n then Mo_planned M i else zm
def pSent (S : SnT) (M : MoT) : Prop := (Mo_hasSent M = 0 ∧ ∀ i, i < 6 → Sn_ports S i = zm) ∨ (Mo_hasSent M = 1 ∧ ∀ i, i < 6 → Sn_ports S i = Mo_given M i)
def pText (S : ScT) (M : MoT) : Prop := ∃ n, n ≤ 32 ∧ Sc_length S = zn n ∧ Mo_texts M = zn n ∧ ∀ i, i < n → Sc_text S i = Mo_text M i
def pTold (G : LgT) (M : MoT) : Prop := (Mo_hasWritten M = 0 ∧ ∀ i, i < 4 → Lg_verdict G i = zm) ∨ (Mo_hasWritten M = 1 ∧ ∀ i, i < 4 → Lg_verdict G i = Mo_written M i)
theorem q_planAt (X : XxT) {P : PlT} {M : MoT} (h : pPlan P M) (x1 : Int32) : ∃ r, f_X11_planAt X P x1 = some r ∧ f_X12_planAt M x1 = some (r, Mo_s_thrown M 0) := by
  obtain ⟨n, hn, e1, e2⟩ := h
  unfold f_X11_planAt f_X12_planAt f_X6_milesOn f_X6_milesOn_b10
  rw [zl_eq, show Mo_planLong (Mo_s_thrown M 0) = zn n from e1]
  rcases zn_lim x1 12 (by omega) with h | ⟨k, rfl, h⟩
  · have hn2 : x1 < 0 ∨ ¬ x1 < zn n := by
      rcases h with h | h
      · exact Or.inl h
      · rcases zn_get x1 with g | ⟨j, rfl, g⟩
        · exact Or.inl g
        · right; rw [zn_lt g (by omega)] at h ⊢; omega
    rw [pm_bound (by omega), if_pos hn2, ob_eq, if_pos rfl]
    refine ⟨-1, ?_, rfl⟩
    rcases h with h | h
    · rw [if_pos h, ob_eq]
    · rw [if_neg (show ¬ x1 < (12 : Int32) from h), ite_self, ob_eq]
  · rw [if_neg (zn_ge0 (by omega)), if_pos (show zn k < (12 : Int32) by rw [zn_l12, zn_lt (by omega) (by omega)]; exact h)]
    simp (disch := omega) only [zb_zn, zn_nat, if_true, ob_eq]
    rw [e2 k h]
    by_cases q : k < n
    · rw [if_pos q, pm_bound1 (by omega) q, ob_eq, if_neg n10]
      exact ⟨_, rfl, rfl⟩
    · rw [if_neg q, pm_bound (by omega), if_pos (Or.inr (by rw [zn_lt (by omega) (by omega)]; exact q)), ob_eq, if_pos rfl]
      exact ⟨_, rfl, rfl⟩
theorem q_sentTo (X : XxT) {S : SnT} {M : MoT} (h : pSent S M) (x1 : Int32) : ∃ r, f_X11_sentTo X S x1 = some r ∧ f_X12_sentTo M x1 = some (r, Mo_s_thrown M 0) := by
  unfold f_X11_sentTo f_X12_sentTo f_X9_portOf f_X9_portOf_b10 f_X12_sentTo_b30
  rw [zl_eq, show Mo_hasSent (Mo_s_thrown M 0) = Mo_hasSent M from rfl]
  rcases zn_rng x1 0 5 (by omega) (by omega) with h1 | ⟨k, rfl, -, h1⟩
  · rw [pm_isIn0 (show x1 < (0 : Int32) ∨ (5 : Int32) < x1 from h1), ob_eq, if_pos rfl, ite_self]
    refine ⟨-1, ?_, rfl⟩
    rcases h1 with h1 | h1
    · rw [if_pos (show x1 < (0 : Int32) from h1), ob_eq]
    · have : ¬ x1 < (6 : Int32) := by
        rcases zn_get x1 with g | ⟨j, rfl, g⟩
        · intro _
          obtain ⟨a, rfl, a1, a2⟩ := zi_get x1
          rw [zn_l0, ← zi_zn, zi_lt a1 a2 (by omega) (by omega)] at g
          rw [← zi_zn, zi_lt (by omega) (by omega) a1 a2] at h1
          omega
        · rw [zn_lt (by omega) g] at h1
          rw [zn_l6, zn_lt g (by omega)]; omega
      rw [if_neg this, ite_self, ob_eq]
  · rw [if_neg (zn_ge0 (by omega)), if_pos (show zn k < (6 : Int32) by rw [zn_l6, zn_lt (by omega) (by omega)]; omega), show f_X12_isIn (zn k) 0 5 = some 1 from pm_isIn1 (lo := 0) (hi := 5) (by omega) h1 (by omega), ob_eq, if_neg n10]
    simp (disch := omega) only [zb_zn, zn_nat, if_true, ob_eq]
    rcases h with ⟨h, h2⟩ | ⟨h, h2⟩
    · rw [h, if_pos rfl, h2 k (by omega)]; exact ⟨_, rfl, rfl⟩
    · rw [h, if_neg n10, h2 k (by omega)]; exact ⟨_, rfl, rfl⟩
theorem q_byteAt (X : XxT) {S : ScT} {M : MoT} (h : pText S M) (x1 : Int32) : ∃ r, f_X11_byteAt X S x1 = some r ∧ f_X12_byteAt M x1 = some (r, Mo_s_thrown M 0) := by
  obtain ⟨n, hn, e1, e2, e3⟩ := h
  unfold f_X11_byteAt f_X12_byteAt f_X11_byteAt_b15
  rw [zl_eq, show Mo_texts (Mo_s_thrown M 0) = zn n from e2, e1]
  rcases zn_lim x1 n (by omega) with h | ⟨k, rfl, h⟩
  · rw [pm_bound (by omega), if_pos h, ob_eq, if_pos rfl]
    refine ⟨-1, ?_, rfl⟩
    rcases h with h | h
    · rw [if_pos h]
    · rw [if_neg h, ite_self]
  · rw [pm_bound1 (by omega) h, ob_eq, if_neg n10, if_neg (zn_ge0 (by omega)), if_pos (by rw [zn_lt (by omega) (by omega)]; exact h)]
    simp (disch := omega) only [zb_zn, zn_nat, if_true]
    exact ⟨_, rfl, by rw [e3 k h]; rfl⟩
theorem q_told (X : XxT) {G : LgT} {M : MoT} (h : pTold G M) (x1 : Int32) : ∃ r, f_X11_told X G x1 = some r ∧ f_X12_told M x1 = some (r, Mo_s_thrown M 0) := by
  unfold f_X11_told f_X12_told f_X11_told_b9 f_X12_told_b30
  rw [zl_eq, show Mo_hasWritten (Mo_s_thrown M 0) = Mo_hasWritten M from rfl]
  rcases zn_rng x1 0 3 (by omega) (by omega) with h1 | ⟨k, rfl, -, h1⟩
  · rw [pm_isIn0 (show x1 < (0 : Int32) ∨ (3 : Int32) < x1 from h1), ob_eq, if_pos rfl, ite_self]
    refine ⟨-1, ?_, rfl⟩
    rcases h1 with h1 | h1
    · rw [if_pos (show x1 < (0 : Int32) from h1)]
    · rw [if_pos (show (3 : Int32) < x1 from h1), ite_self]
  · rw [if_neg (zn_ge0 (by omega)), if_neg (show ¬ (3 : Int32) < zn k by rw [zn_l3, zn_lt (by omega) (by omega)]; omega), show f_X12_isIn (zn k) 0 3 = some 1 from pm_isIn1 (lo := 0) (hi := 3) (by omega) h1 (by omega), ob_eq, if_neg n10]
    simp (disch := omega) only [zb_zn, zn_nat, if_true]
    rcases h with ⟨h, h2⟩ | ⟨h, h2⟩
    · rw [h, if_pos rfl, h2 k (by omega)]; exact ⟨_, rfl, rfl⟩
    · rw [h, if_neg n10, h2 k (by omega)]; exact ⟨_, rfl, rfl⟩
