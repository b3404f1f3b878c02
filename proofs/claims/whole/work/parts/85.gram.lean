section
variable {n most : Nat} {B : Nat → Nat} {R : RdT} {M : MoT}
/-- all well so far -/
def pG (n most : Nat) (B : Nat → Nat) (R : RdT) (M : MoT) : Prop := pTx n most B R M ∧ pTk n most R M ∧ Rd_fault R = 0 ∧ Mo_fault M = 0
/-- the class has found a fault -/
def pWc (R : RdT) (fk pl : Nat) : Prop := 1 ≤ fk ∧ fk ≤ 4 ∧ pl ≤ 940 ∧ Rd_fault R = zn fk ∧ Rd_faultAt R = zn pl ∧ ∀ k, k < 28 → Rd_keys R k = zq (pKy k)
/-- both have, the same -/
def pW (R : RdT) (M : MoT) : Prop := ∃ fk pl, pWc R fk pl ∧ Mo_fault M = zn fk ∧ Mo_place M = zn pl
/-- the reference: all but what reading changes is as it was -/
def pFb (M M' : MoT) : Prop := M'.1 = M.1 ∧ M'.2.2.2 = M.2.2.2 ∧ Mo_thrown M' = Mo_thrown M
theorem pFb.rf (M : MoT) : pFb M M := ⟨rfl, rfl, rfl⟩
theorem pFb.tr {M1 M2 M3 : MoT} (h : pFb M1 M2) (h' : pFb M2 M3) : pFb M1 M3 := ⟨h'.1.trans h.1, h'.2.1.trans h.2.1, h'.2.2.trans h.2.2⟩
theorem pWc.fail {fk pl : Nat} (h : pWc R fk pl) (x : Int32) : f_X7_fail R x = some R := by
  unfold f_X7_fail
  rw [h.2.2.2.1, if_neg (by rw [zn_eq0 (by have := h.2.1; omega)]; have := h.1; omega)]
theorem pWc.number {fk pl : Nat} (h : pWc R fk pl) (x y : Int32) : f_X7_number R x y = some (x, R) := by
  unfold f_X7_number
  rw [h.2.2.2.1, if_neg (by rw [zn_eq0 (by have := h.2.1; omega)]; have := h.1; omega)]
theorem pWc.expect {fk pl : Nat} (h : pWc R fk pl) (x : Int32) : f_X7_expect R x = some R := by
  unfold f_X7_expect
  rw [h.2.2.2.1, if_neg (by rw [zn_eq0 (by have := h.2.1; omega)]; have := h.1; omega)]
theorem pWc.more {fk pl : Nat} (h : pWc R fk pl) : f_X7_more R = some (0, R) := by
  have b19 : f_X7_more_b19 R = some (0, R) := by
    unfold f_X7_more_b19 f_X7_more_b37
    rw [h.2.2.2.1, if_neg (by rw [zn_eq0 (by have := h.2.1; omega)]; have := h.1; omega)]
  unfold f_X7_more
  rw [h.fail, ob_eq, b19, ite_self, ite_self]
theorem pWc.ne {fk pl : Nat} (h : pWc R fk pl) : ¬ Rd_fault R = 0 := by
  rw [h.2.2.2.1, zn_eq0 (by have := h.2.1; omega)]; have := h.1; omega
/-- the place of a token -/
theorem pTk.start (h : pTk n most R M) (hx : pTx n most B R M) : ∃ s, s ≤ 940 ∧ Rd_start R = zn s ∧ Mo_from M = zn s := by
  have := hx.1
  rcases h with ⟨-, -, h1, h2, -⟩ | ⟨s, t, h1, h2, h3, h4, h5, -⟩
  · exact ⟨_, by omega, h1, h2⟩
  · exact ⟨s, by omega, h4, h5⟩
theorem pG.bad (h : pG n most B R M) {k : Nat} (h1 : 1 ≤ k) (h4 : k ≤ 4) (hk : k = 1 ∨ Mo_kind M ≠ 1) : ∃ R' M', f_X7_fail R (zn k) = some R' ∧ f_X12_bad M (zn k) = some (0, M') ∧ pW R' M' ∧ pFb M M' := by
  obtain ⟨hx, ht, hf, hm⟩ := h
  obtain ⟨s, s1, s2, s3⟩ := ht.start hx
  refine ⟨Rd_s_faultAt (Rd_s_fault R (zn k)) (Rd_start R), Mo_s_place (Mo_s_fault M (zn k)) (Mo_from M), ?_, ?_, ⟨k, s, ⟨h1, h4, s1, rfl, s2, hx.2.2.2.2.2.2.2.2⟩, rfl, s3⟩, rfl, rfl, rfl⟩
  · unfold f_X7_fail
    rw [if_pos hf]; rfl
  · unfold f_X12_bad f_X12_bad_b14
    rcases hk with rfl | hk
    · rw [show (1 : Int32) = zn 1 from rfl, ite_self]; rfl
    · rw [if_neg hk]; rfl
theorem pG.adv (h : pG n most B R M) (hk : ¬ Rd_kind R = 0) : ∃ R' M', f_X7_advance R = some R' ∧ f_X12_go M = some M' ∧ pG n most B R' M' ∧ pFb M M' ∧ Mo_told M' = Mo_told M := by
  obtain ⟨hx, ht, hf, hm⟩ := h
  rcases ht with ⟨h1, -⟩ | ⟨s, t, h1, h2, h3, h4, h5, h6, h7, -⟩
  · exact absurd h1 hk
  · obtain ⟨a', k', s', e', v', m', t', f', mk', nu', si', wo', i1, i2, i3⟩ := q_next hx h3 h6 h7
    exact ⟨_, _, i1, i2, ⟨hx, i3, hf, hm⟩, ⟨rfl, rfl, rfl⟩, rfl⟩
/-! what a token is -/
theorem tk_num (h : pTk n most R M) : (Rd_kind R = 4 ∧ Mo_kind M = 3 ∧ ∃ y, y < 1000 ∧ Rd_value R = zn y ∧ Mo_number M = zn y) ∨ (¬ Rd_kind R = 4 ∧ ¬ Mo_kind M = 3) := by
  rcases h with ⟨h1, -, -, -, h5⟩ | ⟨s, t, -, -, -, -, -, -, -, h⟩
  · right; rw [h1, h5]; refine ⟨by decide, ?_⟩; split <;> decide
  · rcases h with ⟨h1, -, h3⟩ | ⟨c, hc, h1, -, h3, -⟩ | ⟨x, -, -, h3, -, h⟩ | ⟨y, hy, h1, -, h3, h4, h5⟩
    · right; rw [h1, h3]; exact ⟨by decide, by decide⟩
    · right; rw [h1, h3]; refine ⟨?_, by decide⟩
      rw [show (4 : Int32) = zn 4 from rfl, zn_eq (by unfold pSign at hc; omega) (by omega)]; unfold pSign at hc; omega
    · right; rw [h3]; refine ⟨?_, by decide⟩
      rcases h with ⟨-, h, -⟩ | ⟨-, h, -⟩ <;> rw [h] <;> decide
    · left; exact ⟨h1, h4, y, hy, h3, h5⟩
theorem tk_name (h : pTk n most R M) : (Rd_kind R = 3 ∧ Rd_key R = zm ∧ Mo_kind M = 2 ∧ f_X12_isName M = some 1 ∧ pNm (Rd_name R) (Mo_word M)) ∨ (¬ Rd_kind R = 3 ∧ f_X12_isName M = some 0) := by
  rcases h with ⟨h1, -, -, -, h5⟩ | ⟨s, t, -, -, -, -, -, -, -, h⟩
  · right; rw [h1]; refine ⟨by decide, pm_isNameN ?_⟩; rw [h5]; split <;> decide
  · rcases h with ⟨h1, -, h3⟩ | ⟨c, hc, h1, -, h3, -⟩ | ⟨x, hx, hn, h3, hw, h⟩ | ⟨y, hy, h1, -, h3, h4, h5⟩
    · right; rw [h1]; exact ⟨by decide, pm_isNameN (by rw [h3]; decide)⟩
    · right; rw [h1]; refine ⟨?_, pm_isNameN (by rw [h3]; decide)⟩
      rw [show (3 : Int32) = zn 3 from rfl, zn_eq (by unfold pSign at hc; omega) (by omega)]; unfold pSign at hc; omega
    · have e := pm_isName hx.1 h3 hw
      rcases h with ⟨q, h1, h2⟩ | ⟨q, h1, h2⟩
      · left; rw [if_pos q] at e; exact ⟨h1, h2, h3, e, x, hx, hn, hw⟩
      · right; rw [if_neg (by omega)] at e; exact ⟨by rw [h1]; decide, e⟩
    · right; rw [h1]; exact ⟨by decide, pm_isNameN (by rw [h4]; decide)⟩
theorem tk_sign (h : pTk n most R M) {c : Nat} (hc : pSign c) : (Rd_kind R = zn c ∧ f_X12_isSign M (zn c) = some 1) ∨ (¬ Rd_kind R = zn c ∧ f_X12_isSign M (zn c) = some 0) := by
  unfold f_X12_isSign f_X12_isSign_b20
  have hc2 : 40 ≤ c ∧ c ≤ 62 := by unfold pSign at hc; omega
  have ne : ∀ k, k < 5 → ¬ (zn k = zn c) := fun k hk => by rw [zn_eq (by omega) (by omega)]; omega
  rcases h with ⟨h1, -, -, -, h5⟩ | ⟨s, t, -, -, -, -, -, -, -, h⟩
  · right
    have e : ¬ Mo_kind M = 4 := by rw [h5]; split <;> decide
    rw [h1, if_neg e]; exact ⟨ne 0 (by omega), rfl⟩
  · rcases h with ⟨h1, -, h3⟩ | ⟨d, hd, h1, -, h3, h4⟩ | ⟨x, hx, hn, h3, hw, h⟩ | ⟨y, hy, h1, -, h3, h4, h5⟩
    · right
      have e : ¬ Mo_kind M = 4 := by rw [h3]; decide
      rw [h1, if_neg e]; exact ⟨ne 1 (by omega), rfl⟩
    · rw [if_pos h3, h1, h4]
      by_cases q : zn d = zn c
      · left; rw [if_pos q]; exact ⟨q, rfl⟩
      · right; rw [if_neg q]; exact ⟨q, rfl⟩
    · right
      have e : ¬ Mo_kind M = 4 := by rw [h3]; decide
      rw [if_neg e]
      refine ⟨?_, rfl⟩
      rcases h with ⟨-, h, -⟩ | ⟨-, h, -⟩ <;> rw [h]
      · exact ne 3 (by omega)
      · exact ne 2 (by omega)
    · right
      have e : ¬ Mo_kind M = 4 := by rw [h4]; decide
      rw [h1, if_neg e]; exact ⟨ne 4 (by omega), rfl⟩
theorem tk_word (h : pTk n most R M) {j : Nat} (hj : j < 28) : (Rd_key R = zn (pSg j) ∧ Rd_kind R = 2 ∧ Mo_kind M = 2 ∧ f_X12_isWord M (zn j) = some 1) ∨ (¬ Rd_key R = zn (pSg j) ∧ f_X12_isWord M (zn j) = some 0) := by
  have hs := pSg_lt hj
  have nz : ¬ zm = zn (pSg j) := by rw [zm_eq' (by omega)]; exact id
  rcases h with ⟨-, h2, -, -, h5⟩ | ⟨s, t, -, -, -, -, -, -, -, h⟩
  · right; rw [h2]; refine ⟨nz, pm_isWordN (by rw [h5]; split <;> decide) _⟩
  · rcases h with ⟨h1, h2, h3⟩ | ⟨d, hd, h1, h2, h3, h4⟩ | ⟨x, hx, hn, h3, hw, h⟩ | ⟨y, hy, h1, h2, h3, h4, h5⟩
    · right; rw [h2]; exact ⟨nz, pm_isWordN (by rw [h3]; decide) _⟩
    · right; rw [h2]; exact ⟨nz, pm_isWordN (by rw [h3]; decide) _⟩
    · have e := pm_isWord hx.1 h3 hw hj
      rcases h with ⟨q, h1, h2⟩ | ⟨q, h1, h2⟩
      · right; rw [if_neg (by omega)] at e; rw [h2]; exact ⟨nz, e⟩
      · by_cases z : pIdx 28 x = pSg j
        · left; rw [if_pos z] at e; rw [h2, z]; exact ⟨rfl, h1, h3, e⟩
        · right; rw [if_neg z] at e; rw [h2]
          refine ⟨?_, e⟩
          generalize pIdx 28 x = y at q z
          rw [zn_eq (by omega) (by omega)]; exact z
    · right; rw [h2]; exact ⟨nz, pm_isWordN (by rw [h4]; decide) _⟩
theorem tk_key (h : pTk n most R M) : Rd_key R = zm ∨ ∃ j, j < 28 ∧ Rd_key R = zn (pSg j) ∧ Rd_kind R = 2 ∧ Mo_kind M = 2 ∧ f_X12_isWord M (zn j) = some 1 := by
  have h' := h
  rcases h with ⟨-, h2, -, -, h5⟩ | ⟨s, t, -, -, -, -, -, -, -, h⟩
  · exact Or.inl h2
  · rcases h with ⟨h1, h2, h3⟩ | ⟨d, hd, h1, h2, h3, h4⟩ | ⟨x, hx, hn, h3, hw, h⟩ | ⟨y, hy, h1, h2, h3, h4, h5⟩
    · exact Or.inl h2
    · exact Or.inl h2
    · rcases h with ⟨q, h1, h2⟩ | ⟨q, h1, h2⟩
      · exact Or.inl h2
      · right
        generalize pIdx 28 x = y at q h2
        obtain ⟨j, hj⟩ := pSg_sur ⟨y, q⟩
        have hj' : pSg j.val = y := hj
        rcases tk_word h' j.isLt with ⟨w1, w2, w3, w4⟩ | ⟨w1, -⟩
        · exact ⟨j.val, j.isLt, w1, w2, w3, w4⟩
        · rw [h2, hj'] at w1; exact absurd rfl w1
    · exact Or.inl h2
/-- more of it, or the end -/
theorem pG.more (h : pG n most B R M) : (f_X7_more R = some (1, R) ∧ ¬ Mo_kind M = 0 ∧ ¬ Rd_kind R = 0) ∨ (f_X7_more R = some (0, R) ∧ Mo_kind M = 0) ∨ (∃ R', f_X7_more R = some (0, R') ∧ Mo_kind M = 1 ∧ f_X7_fail R 1 = some R' ∧ Rd_kind R = 0) := by
  have hG := h
  obtain ⟨hx, ht, hf, hm⟩ := h
  unfold f_X7_more f_X7_more_b19 f_X7_more_b37
  by_cases k0 : Rd_kind R = 0
  · rcases ht with ⟨h1, h2, h3, h4, h5⟩ | ⟨s, t, -, -, -, -, -, -, -, h⟩
    · rw [if_pos k0, hx.2.2.2.2.2.1]
      by_cases q : most < n
      · right; right
        rw [if_pos q] at h5 ⊢
        obtain ⟨R', M', b1, b2, ⟨fk, pl, b3, -⟩, -⟩ := pG.bad hG (k := 1) (by omega) (by omega) (Or.inl rfl)
        rw [show (1 : Int32) = zn 1 from rfl] at h5 ⊢
        rw [if_neg (show ¬ zn 1 = (0 : Int32) by decide), b1, ob_eq, if_neg b3.ne]
        exact ⟨R', rfl, h5, rfl, h1⟩
      · right; left
        rw [if_neg q] at h5 ⊢
        rw [if_pos rfl, if_pos hf, if_pos k0]
        exact ⟨rfl, h5⟩
    · exfalso
      rcases h with ⟨h1, -⟩ | ⟨d, hd, h1, -⟩ | ⟨x, hx, hn, h3, hw, h⟩ | ⟨y, hy, h1, -⟩
      · rw [h1] at k0; exact absurd k0 (by decide)
      · rw [h1, zn_eq0 (by unfold pSign at hd; omega)] at k0; unfold pSign at hd; omega
      · rcases h with ⟨-, h, -⟩ | ⟨-, h, -⟩ <;> rw [h] at k0 <;> exact absurd k0 (by decide)
      · rw [h1] at k0; exact absurd k0 (by decide)
  · left
    rw [if_neg k0, if_pos hf]
    refine ⟨by rw [if_neg k0], ?_, k0⟩
    rcases ht with ⟨h1, -⟩ | ⟨s, t, -, -, -, -, -, -, -, h⟩
    · exact absurd h1 k0
    · rcases h with ⟨-, -, h1⟩ | ⟨d, hd, -, -, h1, -⟩ | ⟨x, hx, hn, h1, hw, h⟩ | ⟨y, hy, -, -, -, h1, -⟩ <;> rw [h1] <;> decide
theorem pG.number (h : pG n most B R M) {lo hi : Nat} (hi1 : hi < 1000) (hlo : lo ≤ hi) :
    (∃ R' M' y, f_X7_number R (zn lo) (zn hi) = some (zn y, R') ∧ f_X12_readNumber M (zn lo) (zn hi) = some (1, M') ∧ pG n most B R' M' ∧ pFb M M' ∧ lo ≤ y ∧ y ≤ hi ∧ Mo_told M' = zn y) ∨
    (∃ R' M', f_X7_number R (zn lo) (zn hi) = some (zn lo, R') ∧ f_X12_readNumber M (zn lo) (zn hi) = some (0, M') ∧ pW R' M' ∧ pFb M M') := by
  have hG := h
  obtain ⟨hx, ht, hf, hm⟩ := h
  unfold f_X7_number f_X12_readNumber f_X7_number_b40
  rw [if_pos hf]
  rcases tk_num ht with ⟨k1, k2, y, hy, k3, k4⟩ | ⟨k1, k2⟩
  · rw [if_pos k1, if_pos k2, k3, k4, pm_isIn, ob_eq]
    simp (disch := omega) only [zn_lt]
    by_cases q : y < lo ∨ hi < y
    · right
      obtain ⟨R', M', b1, b2, b3, b4⟩ := hG.bad (k := 2) (by omega) (by omega) (Or.inr (by rw [k2]; decide))
      refine ⟨R', M', ?_, ?_, b3, b4⟩
      · rw [show f_X7_fail R 2 = some R' from b1, ob_eq]
        by_cases q1 : y < lo
        · rw [if_pos q1]
        · rw [if_neg q1, if_pos (by omega)]
      · rw [if_pos q, if_pos rfl, show f_X12_bad M 2 = some (0, M') from b2, ob_eq]; rfl
    · left
      have hG2 : pG n most B R (Mo_s_told M (zn y)) := ⟨hx, ht, hf, hm⟩
      obtain ⟨R', M', a1, a2, a3, a4, a5⟩ := hG2.adv (by rw [k1]; decide)
      refine ⟨R', M', y, ?_, ?_, a3, ⟨a4.1, a4.2.1, a4.2.2⟩, by omega, by omega, a5⟩
      · rw [if_neg (by omega), if_neg (by omega), a1, ob_eq]
      · rw [if_neg q, if_neg n10, zl_eq, a2, ob_eq]
  · right
    rw [if_neg k1, if_neg k2]
    obtain ⟨R', M', b1, b2, b3, b4⟩ := hG.bad (k := 1) (by omega) (by omega) (Or.inl rfl)
    refine ⟨R', M', ?_, ?_, b3, b4⟩
    · rw [show f_X7_fail R 1 = some R' from b1, ob_eq]
    · rw [show f_X12_bad M 1 = some (0, M') from b2, ob_eq]; rfl
/-- the line's end -/
theorem pG.semi (h : pG n most B R M) : (∃ R' M', f_X7_expect R 59 = some R' ∧ f_X12_readEnd M = some (1, M') ∧ pG n most B R' M' ∧ pFb M M') ∨
    (∃ R' M', f_X7_expect R 59 = some R' ∧ f_X12_readEnd M = some (0, M') ∧ pW R' M' ∧ pFb M M') := by
  have hG := h
  obtain ⟨hx, ht, hf, hm⟩ := h
  unfold f_X7_expect f_X12_readEnd
  rw [if_pos hf]
  rcases tk_sign ht (c := 59) (by unfold pSign; omega) with ⟨k1, k2⟩ | ⟨k1, k2⟩
  · left
    rw [if_pos (show Rd_kind R = 59 from k1), show f_X12_isSign M 59 = some 1 from k2, ob_eq, if_neg n10]
    obtain ⟨R', M', a1, a2, a3, a4, a5⟩ := hG.adv (by rw [k1]; decide)
    exact ⟨R', M', by rw [a1, ob_eq], by rw [a2, ob_eq], a3, a4⟩
  · right
    rw [if_neg (show ¬ Rd_kind R = 59 from k1), show f_X12_isSign M 59 = some 0 from k2, ob_eq, if_pos rfl]
    obtain ⟨R', M', b1, b2, b3, b4⟩ := hG.bad (k := 1) (by omega) (by omega) (Or.inl rfl)
    refine ⟨R', M', ?_, ?_, b3, b4⟩
    · rw [show f_X7_fail R 1 = some R' from b1, ob_eq]
    · rw [show f_X12_bad M 1 = some (0, M') from b2, ob_eq]; rfl
/-- a text is begun -/
theorem q_begin {k : Nat} (hk : k ≤ 940) (hmost : most ≤ 940) (h1 : Rd_length R = zn k) (h2 : Mo_taped M = zn k) (h3 : ∀ i, i < k → ∃ c, c < 256 ∧ Mo_tape M i = zn c ∧ Rd_tape R i = pByt c) (hkeys : ∀ k, k < 28 → Rd_keys R k = zq (pKy k)) :
    ∃ B R' M', f_X7_begin R (zn most) = some R' ∧ f_X12_begin M (zn most) = some M' ∧ pG k most B R' M' ∧ M'.1 = (Mo_tape M, 0) ∧ M'.2.2.2 = M.2.2.2 ∧ Mo_thrown M' = 0 := by
  obtain ⟨B, hB⟩ : ∃ B : Nat → Nat, ∀ i, i < k → B i < 256 ∧ Mo_tape M i = zn (B i) ∧ Rd_tape R i = pByt (B i) := by
    refine ⟨fun i => if h : i < k then Classical.choose (h3 i h) else 0, fun i hi => ?_⟩
    simp only [dif_pos hi]
    exact Classical.choose_spec (h3 i hi)
  refine ⟨B, ?_⟩
  unfold f_X7_begin f_X7_begin_b24 f_X7_begin_b43 f_X12_begin f_X12_take
  simp only [zl_eq, ob_eq]
  rw [show Mo_taped (Mo_s_thrown M 0) = zn k from h2, show Rd_length (Rd_s_faultAt (Rd_s_fault R 0) 0) = zn k from h1]
  have two : ∀ z : Int32, (if zn most < zn k then z = 1 else z = 0) → ∃ R' M', (if zb_bo z = true then (if Rd_tooLong (Rd_s_tooLong (Rd_s_faultAt (Rd_s_fault R 0) 0) z) = 0 then (f_X7_advance (Rd_s_at (Rd_s_limit (Rd_s_tooLong (Rd_s_faultAt (Rd_s_fault R 0) 0) z) (Rd_length (Rd_s_tooLong (Rd_s_faultAt (Rd_s_fault R 0) 0) z))) 0)).bind (fun q7 => some q7) else (f_X7_advance (Rd_s_at (Rd_s_limit (Rd_s_tooLong (Rd_s_faultAt (Rd_s_fault R 0) 0) z) (zn most)) 0)).bind (fun q7 => some q7)) else none) = some R' ∧ (f_X12_go (Mo_s_to (Mo_s_fault (Mo_s_limit (Mo_s_size (Mo_s_taped (Mo_s_thrown M 0) 0) (zn k)) (zn most)) 0) 0)).bind (fun q7 => some q7) = some M' ∧ pG k most B R' M' ∧ M'.1 = (Mo_tape M, 0) ∧ M'.2.2.2 = M.2.2.2 ∧ Mo_thrown M' = 0 := by
    intro z hz
    have zz : z = (if most < k then 1 else 0) := by
      by_cases q : most < k
      · rw [if_pos (by rw [zn_lt (by omega) (by omega)]; exact q)] at hz
        rw [if_pos q, hz]
      · rw [if_neg (by rw [zn_lt (by omega) (by omega)]; exact q)] at hz
        rw [if_neg q, hz]
    have hb : zb_bo z = true := by rw [zz]; split <;> decide
    rw [if_pos hb]
    have main : ∀ lim : Int32, lim = zn (min k most) → ∃ R' M', (f_X7_advance (Rd_s_at (Rd_s_limit (Rd_s_tooLong (Rd_s_faultAt (Rd_s_fault R 0) 0) z) lim) 0)).bind (fun q7 => some q7) = some R' ∧ (f_X12_go (Mo_s_to (Mo_s_fault (Mo_s_limit (Mo_s_size (Mo_s_taped (Mo_s_thrown M 0) 0) (zn k)) (zn most)) 0) 0)).bind (fun q7 => some q7) = some M' ∧ pG k most B R' M' ∧ M'.1 = (Mo_tape M, 0) ∧ M'.2.2.2 = M.2.2.2 ∧ Mo_thrown M' = 0 := by
      intro lim hl
      have hx : pTx k most B (Rd_s_at (Rd_s_limit (Rd_s_tooLong (Rd_s_faultAt (Rd_s_fault R 0) 0) z) lim) 0) (Mo_s_to (Mo_s_fault (Mo_s_limit (Mo_s_size (Mo_s_taped (Mo_s_thrown M 0) 0) (zn k)) (zn most)) 0) 0) := ⟨hk, hmost, h1, rfl, hl, zz, rfl, hB, hkeys⟩
      obtain ⟨a', k', s', e', v', m', t', f', mk', nu', si', wo', i1, i2, i3⟩ := q_next hx (t := 0) (by omega) rfl rfl
      rw [i1, i2, ob_eq, ob_eq]
      exact ⟨_, _, rfl, rfl, ⟨hx, i3, rfl, rfl⟩, rfl, rfl, rfl⟩
    by_cases q : most < k
    · rw [if_neg (show ¬ Rd_tooLong (Rd_s_tooLong (Rd_s_faultAt (Rd_s_fault R 0) 0) z) = 0 by show ¬ z = 0; rw [zz, if_pos q]; decide)]
      exact main (zn most) (by congr 1; omega)
    · rw [if_pos (show Rd_tooLong (Rd_s_tooLong (Rd_s_faultAt (Rd_s_fault R 0) 0) z) = 0 by show z = 0; rw [zz, if_neg q])]
      exact main _ (by show Rd_length R = _; rw [h1]; congr 1; omega)
  by_cases q : zn most < zn k
  · rw [if_pos q]; exact two 1 (by rw [if_pos q])
  · rw [if_neg q]; exact two 0 (by rw [if_neg q])
end
