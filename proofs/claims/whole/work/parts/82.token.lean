/-! tokens -/
def pRt (R : RdT) (a k s e v : Int32) (m : Int64) : RdT := (R.1, (a, k, s, e, v), (m, R.2.2.2.1, R.2.2.2.2))
def pMg (M : MoT) (t f k nu si : Int32) (wo : Int64) : MoT := (M.1, (M.2.1.1, M.2.1.2.1, t, f, k, nu, si, wo), M.2.2)
section
variable (R : RdT) (a k s e v : Int32) (m : Int64) (M : MoT) (t f nu si : Int32) (wo : Int64)
theorem pRt_at : Rd_at (pRt R a k s e v m) = a := Eq.trans rfl rfl
theorem pRt_s_at (z : Int32) : Rd_s_at (pRt R a k s e v m) z = pRt R z k s e v m := Eq.trans rfl rfl
theorem pRt_kind : Rd_kind (pRt R a k s e v m) = k := Eq.trans rfl rfl
theorem pRt_s_kind (z : Int32) : Rd_s_kind (pRt R a k s e v m) z = pRt R a z s e v m := Eq.trans rfl rfl
theorem pRt_start : Rd_start (pRt R a k s e v m) = s := Eq.trans rfl rfl
theorem pRt_s_start (z : Int32) : Rd_s_start (pRt R a k s e v m) z = pRt R a k z e v m := Eq.trans rfl rfl
theorem pRt_key : Rd_key (pRt R a k s e v m) = e := Eq.trans rfl rfl
theorem pRt_s_key (z : Int32) : Rd_s_key (pRt R a k s e v m) z = pRt R a k s z v m := Eq.trans rfl rfl
theorem pRt_value : Rd_value (pRt R a k s e v m) = v := Eq.trans rfl rfl
theorem pRt_s_value (z : Int32) : Rd_s_value (pRt R a k s e v m) z = pRt R a k s e z m := Eq.trans rfl rfl
theorem pRt_name : Rd_name (pRt R a k s e v m) = m := Eq.trans rfl rfl
theorem pRt_s_name (z : Int64) : Rd_s_name (pRt R a k s e v m) z = pRt R a k s e v z := Eq.trans rfl rfl
theorem pRt_tape : Rd_tape (pRt R a k s e v m) = Rd_tape R := Eq.trans rfl rfl
theorem pRt_length : Rd_length (pRt R a k s e v m) = Rd_length R := Eq.trans rfl rfl
theorem pRt_keys : Rd_keys (pRt R a k s e v m) = Rd_keys R := Eq.trans rfl rfl
theorem pRt_limit : Rd_limit (pRt R a k s e v m) = Rd_limit R := Eq.trans rfl rfl
theorem pRt_tooLong : Rd_tooLong (pRt R a k s e v m) = Rd_tooLong R := Eq.trans rfl rfl
theorem pRt_fault : Rd_fault (pRt R a k s e v m) = Rd_fault R := Eq.trans rfl rfl
theorem pRt_faultAt : Rd_faultAt (pRt R a k s e v m) = Rd_faultAt R := Eq.trans rfl rfl
theorem pMg_to : Mo_to (pMg M t f k nu si wo) = t := Eq.trans rfl rfl
theorem pMg_s_to (z : Int32) : Mo_s_to (pMg M t f k nu si wo) z = pMg M z f k nu si wo := Eq.trans rfl rfl
theorem pMg_from : Mo_from (pMg M t f k nu si wo) = f := Eq.trans rfl rfl
theorem pMg_s_from (z : Int32) : Mo_s_from (pMg M t f k nu si wo) z = pMg M t z k nu si wo := Eq.trans rfl rfl
theorem pMg_kind : Mo_kind (pMg M t f k nu si wo) = k := Eq.trans rfl rfl
theorem pMg_s_kind (z : Int32) : Mo_s_kind (pMg M t f k nu si wo) z = pMg M t f z nu si wo := Eq.trans rfl rfl
theorem pMg_number : Mo_number (pMg M t f k nu si wo) = nu := Eq.trans rfl rfl
theorem pMg_s_number (z : Int32) : Mo_s_number (pMg M t f k nu si wo) z = pMg M t f k z si wo := Eq.trans rfl rfl
theorem pMg_sign : Mo_sign (pMg M t f k nu si wo) = si := Eq.trans rfl rfl
theorem pMg_s_sign (z : Int32) : Mo_s_sign (pMg M t f k nu si wo) z = pMg M t f k nu z wo := Eq.trans rfl rfl
theorem pMg_word : Mo_word (pMg M t f k nu si wo) = wo := Eq.trans rfl rfl
theorem pMg_s_word (z : Int64) : Mo_s_word (pMg M t f k nu si wo) z = pMg M t f k nu si z := Eq.trans rfl rfl
theorem pMg_tape : Mo_tape (pMg M t f k nu si wo) = Mo_tape M := Eq.trans rfl rfl
theorem pMg_size : Mo_size (pMg M t f k nu si wo) = Mo_size M := Eq.trans rfl rfl
theorem pMg_limit : Mo_limit (pMg M t f k nu si wo) = Mo_limit M := Eq.trans rfl rfl
end
/-- a text of n bytes B, read as at most `most` -/
def pTx (n most : Nat) (B : Nat → Nat) (R : RdT) (M : MoT) : Prop :=
  n ≤ 940 ∧ most ≤ 940 ∧ Rd_length R = zn n ∧ Mo_size M = zn n ∧ Rd_limit R = zn (min n most) ∧ Rd_tooLong R = (if most < n then 1 else 0) ∧ Mo_limit M = zn most ∧
  (∀ i, i < n → B i < 256 ∧ Mo_tape M i = zn (B i) ∧ Rd_tape R i = pByt (B i)) ∧ (∀ k, k < 28 → Rd_keys R k = zq (pKy k))
def pSign (c : Nat) : Prop := c = 59 ∨ c = 60 ∨ c = 61 ∨ c = 62 ∨ c = 40 ∨ c = 41
/-- one token, as both have it -/
def pTk (n most : Nat) (R : RdT) (M : MoT) : Prop :=
  (Rd_kind R = 0 ∧ Rd_key R = zm ∧ Rd_start R = zn (min n most) ∧ Mo_from M = zn (min n most) ∧ Mo_kind M = (if most < n then 1 else 0)) ∨
  ∃ s t, s < min n most ∧ s < t ∧ t ≤ n ∧ Rd_start R = zn s ∧ Mo_from M = zn s ∧ Rd_at R = zn t ∧ Mo_to M = zn t ∧
    ((Rd_kind R = 1 ∧ Rd_key R = zm ∧ Mo_kind M = 1) ∨
     (∃ c, pSign c ∧ Rd_kind R = zn c ∧ Rd_key R = zm ∧ Mo_kind M = 4 ∧ Mo_sign M = zn c) ∨
     (∃ x, (pvl 7 x ∧ x ≠ 0) ∧ Rd_name R = zq x ∧ Mo_kind M = 2 ∧ Mo_word M = zq (pcv 7 x) ∧ ((pIdx 28 x = 28 ∧ Rd_kind R = 3 ∧ Rd_key R = zm) ∨ (pIdx 28 x < 28 ∧ Rd_kind R = 2 ∧ Rd_key R = zn (pIdx 28 x)))) ∨
     (∃ y, y < 1000 ∧ Rd_kind R = 4 ∧ Rd_key R = zm ∧ Rd_value R = zn y ∧ Mo_kind M = 3 ∧ Mo_number M = zn y))
theorem pByt_eq {c d : Nat} (h : c < 256) (h2 : d < 128) : (pByt c = zn d) = (c = d) := by
  unfold pByt
  rw [← zi_zn, zi_eq (by omega) (by omega) (by omega) (by omega), eq_iff_iff]
  split <;> omega
theorem pByt_lt {c d : Nat} (h : c < 256) (h2 : d < 128) : (pByt c < zn d) = (c < d ∨ 128 ≤ c) := by
  unfold pByt
  rw [← zi_zn, zi_lt (by omega) (by omega) (by omega) (by omega), eq_iff_iff]
  split <;> omega
theorem pByt_gt {c d : Nat} (h : c < 256) (h2 : d < 128) : (zn d < pByt c) = (d < c ∧ c < 128) := by
  unfold pByt
  rw [← zi_zn, zi_lt (by omega) (by omega) (by omega) (by omega), eq_iff_iff]
  split <;> omega
def pLet (c : Nat) : Prop := 97 ≤ c ∧ c ≤ 122
def pDig (c : Nat) : Prop := 48 ≤ c ∧ c ≤ 57
theorem pm_isLetter {c : Nat} (h : c < 256) : f_X12_isLetter (zn c) = some (if 97 ≤ c ∧ c ≤ 122 then 1 else 0) := by
  unfold f_X12_isLetter f_X12_isLetter_b16
  simp (disch := omega) only [zn_l97, zn_l122, zn_lt]
  by_cases q : c < 97
  · rw [if_pos q, if_neg (by omega)]
  · rw [if_neg q]
    by_cases q2 : 122 < c
    · rw [if_pos q2, if_neg (by omega)]
    · rw [if_neg q2, if_pos (by omega)]
theorem pm_isDigit {c : Nat} (h : c < 256) : f_X12_isDigit (zn c) = some (if 48 ≤ c ∧ c ≤ 57 then 1 else 0) := by
  unfold f_X12_isDigit f_X12_isDigit_b16
  simp (disch := omega) only [zn_l48, zn_l57, zn_lt]
  by_cases q : c < 48
  · rw [if_pos q, if_neg (by omega)]
  · rw [if_neg q]
    by_cases q2 : 57 < c
    · rw [if_pos q2, if_neg (by omega)]
    · rw [if_neg q2, if_pos (by omega)]
/-- a run of letters and digits: what is so at its t-th byte -/
def pRun (lt : Bool) (s t l g : Nat) (v nu good : Int32) (m wo : Int64) : Prop :=
  l + g = t - s ∧
  (lt = true → (s < t → 1 ≤ l) ∧ good = (if g = 0 then 1 else 0) ∧ (g = 0 → l ≤ 7 → ∃ x, pvl l x ∧ m = zq x ∧ wo = zq (pcv l x) ∧ (l ≠ 0 → x ≠ 0))) ∧
  (lt = false → (s < t → 1 ≤ g) ∧ good = (if l = 0 then 1 else 0) ∧ (l = 0 → g ≤ 3 → ∃ y, y < 10 ^ g ∧ v = zn y ∧ nu = zn y))
theorem pByt_zn {c : Nat} (h : c < 128) : pByt c = zn c := by
  unfold pByt; rw [if_pos h, zi_zn]
theorem zw_sub96 {W c : Nat} (h1 : 97 ≤ c) : zq W + zq c - zq 96 = zq (W + (c - 96)) := by
  rw [zq_add, zq_sub (by omega)]; congr 1; omega
theorem pm_run_step {n most : Nat} {B : Nat → Nat} {R : RdT} {M : MoT} (h : pTx n most B R M) {s t : Nat} (ht : t < n) (hst : s ≤ t) (hc : pLet (B t) ∨ pDig (B t)) (f2 : Nat) (lt : Bool) (mk nu si good : Int32) (wo : Int64) :
    f_X12_go_L215 (f2 + 1) (pMg M (zn t) (zn s) mk nu si wo) (if lt then 1 else 0) good = f_X12_go_L215 f2 (pMg M (zn (t + 1)) (zn s) mk (if t - s < 3 then (10 : Int32) * nu + zn (B t) - 48 else nu) si (if t - s < 7 then (27 : Int64) * wo + zq (B t) - 96 else wo)) (if lt then 1 else 0) (if good = 0 then 0 else if (if 97 ≤ B t ∧ B t ≤ 122 then (1 : Int32) else 0) = (if lt then 1 else 0) then 1 else 0) := by
  obtain ⟨x1, x2, x3, x4, x5, x6, x7, x8, x9⟩ := h
  obtain ⟨y1, y2, y3⟩ := x8 t ht
  have hl := pm_isLetter y1
  have hd := pm_isDigit y1
  have hta : f_X12_tapeAt (pMg M (zn t) (zn s) mk nu si wo) (zn t) = some (zn (B t)) := by
    unfold f_X12_tapeAt
    simp (disch := omega) only [pMg_to, pMg_from, pMg_kind, pMg_number, pMg_sign, pMg_word, pMg_tape, pMg_size, pMg_limit, pMg_s_to, pMg_s_from, pMg_s_kind, pMg_s_number, pMg_s_sign, pMg_s_word, x4, zn_lt, zb_zn, zn_nat, if_true, y2]
    rw [if_pos ht]
  have e48 : ((10 : Int32) * nu + zn (B t)) - 48 = (10 : Int32) * nu + zn (B t) - 48 := rfl
  -- from b272 on
  have tail : ∀ z0 : Int32, f_X12_go_b272 (pMg M (zn t) (zn s) mk nu si wo) (f_X12_go_L215 f2) (if lt then 1 else 0) (zn (B t)) z0 = f_X12_go_L215 f2 (pMg M (zn (t + 1)) (zn s) mk (if t - s < 3 then (10 : Int32) * nu + zn (B t) - 48 else nu) si (if t - s < 7 then (27 : Int64) * wo + zq (B t) - 96 else wo)) (if lt then 1 else 0) z0 := by
    intro z0
    unfold f_X12_go_b272 f_X12_go_b307 f_X12_go_b337
    have lt7 : (zn (t - s) < (7 : Int32)) = (t - s < 7) := zn_lt (b := 7) (by omega) (by omega)
    have lt3 : (zn (t - s) < (3 : Int32)) = (t - s < 3) := zn_lt (b := 3) (by omega) (by omega)
    simp (disch := omega) only [zl_eq, pMg_to, pMg_from, pMg_kind, pMg_number, pMg_sign, pMg_word, pMg_tape, pMg_size, pMg_limit, pMg_s_to, pMg_s_from, pMg_s_kind, pMg_s_number, pMg_s_sign, pMg_s_word, zn_sub, lt7, lt3, zn_toL]
    rw [show zn t + 1 = zn (t + 1) from zn_add t 1]
    by_cases q7 : t - s < 7
    · by_cases q3 : t - s < 3
      · simp only [if_pos q7, if_pos q3]
      · simp only [if_pos q7, if_neg q3]
    · have q3 : ¬ t - s < 3 := by omega
      simp only [if_neg q7, if_neg q3]
  show f_X12_go_H215 (pMg M (zn t) (zn s) mk nu si wo) (f_X12_go_L215 f2) (if lt then 1 else 0) good = _
  unfold f_X12_go_H215 f_X12_go_b243 f_X12_go_b271
  rw [pMg_to, hta, ob_eq, hl, ob_eq, ob_eq, hd, ob_eq, zb_zn (by omega) (by omega), if_pos rfl, pMg_tape, zn_nat (by omega), y2, hl, ob_eq]
  have fin : (if good = 0 then f_X12_go_b272 (pMg M (zn t) (zn s) mk nu si wo) (f_X12_go_L215 f2) (if lt then 1 else 0) (zn (B t)) 0 else if (if 97 ≤ B t ∧ B t ≤ 122 then (1 : Int32) else 0) = (if lt then 1 else 0) then f_X12_go_b272 (pMg M (zn t) (zn s) mk nu si wo) (f_X12_go_L215 f2) (if lt then 1 else 0) (zn (B t)) 1 else f_X12_go_b272 (pMg M (zn t) (zn s) mk nu si wo) (f_X12_go_L215 f2) (if lt then 1 else 0) (zn (B t)) 0) = f_X12_go_L215 f2 (pMg M (zn (t + 1)) (zn s) mk (if t - s < 3 then (10 : Int32) * nu + zn (B t) - 48 else nu) si (if t - s < 7 then (27 : Int64) * wo + zq (B t) - 96 else wo)) (if lt then 1 else 0) (if good = 0 then 0 else if (if 97 ≤ B t ∧ B t ≤ 122 then (1 : Int32) else 0) = (if lt then 1 else 0) then 1 else 0) := by
    by_cases g0 : good = 0
    · rw [if_pos g0, if_pos g0, tail]
    · rw [if_neg g0, if_neg g0]
      by_cases g1 : (if 97 ≤ B t ∧ B t ≤ 122 then (1 : Int32) else 0) = (if lt then 1 else 0)
      · rw [if_pos g1, if_pos g1, tail]
      · rw [if_neg g1, if_neg g1, tail]
  by_cases ql : 97 ≤ B t ∧ B t ≤ 122
  · rw [show (if 97 ≤ B t ∧ B t ≤ 122 then (1 : Int32) else 0) = 1 from if_pos ql, if_neg n10]
    rw [show (if 97 ≤ B t ∧ B t ≤ 122 then (1 : Int32) else 0) = 1 from if_pos ql] at fin
    exact fin
  · have qd : 48 ≤ B t ∧ B t ≤ 57 := by
      rcases hc with hc | hc
      · exact absurd hc ql
      · exact hc
    rw [show (if 97 ≤ B t ∧ B t ≤ 122 then (1 : Int32) else 0) = 0 from if_neg ql, if_pos rfl, show (if 48 ≤ B t ∧ B t ≤ 57 then (1 : Int32) else 0) = 1 from if_pos qd, if_neg n10]
    rw [show (if 97 ≤ B t ∧ B t ≤ 122 then (1 : Int32) else 0) = 0 from if_neg ql] at fin
    exact fin
theorem q_run {n most : Nat} {B : Nat → Nat} {R : RdT} {M : MoT} (h : pTx n most B R M) {s : Nat} (hs : s < min n most) (lt : Bool) (k0 mk si : Int32) : ∀ (d : Nat) {t l g f1 f2 : Nat} (v nu good : Int32) (m wo : Int64), t + d = n → s ≤ t → d + 1 ≤ f1 → d + 1 ≤ f2 → pRun lt s t l g v nu good m wo → (t = s → t < n ∧ (if lt then pLet (B t) else pDig (B t))) →
    ∃ a' k' e' v' m' t' mk' nu' wo', f_X7_readRun_L14 f1 (pRt R (zn t) k0 (zn s) zm v m) (zn l) (zn g) = some (pRt R a' k' (zn s) e' v' m') ∧ f_X12_go_L215 f2 (pMg M (zn t) (zn s) mk nu si wo) (if lt then 1 else 0) good = some (pMg M t' (zn s) mk' nu' si wo') ∧ pTk n most (pRt R a' k' (zn s) e' v' m') (pMg M t' (zn s) mk' nu' si wo')
  | d, t, l, g, 0, f2, v, nu, good, m, wo, h1, h2, h3, h4, h5, h6 => by omega
  | d, t, l, g, f1 + 1, 0, v, nu, good, m, wo, h1, h2, h3, h4, h5, h6 => by omega
  | d, t, l, g, f1 + 1, f2 + 1, v, nu, good, m, wo, h1, h2, h3, h4, h5, h6 => by
    have hh := h
    obtain ⟨x1, x2, x3, x4, x5, x6, x7, x8, x9⟩ := h
    have h5' := h5
    obtain ⟨r1, r2, r3⟩ := h5
    -- where the run ends
    have fin : s < t → ∃ a' k' e' v' m' t' mk' nu' wo', f_X7_readRun_b117 (pRt R (zn t) k0 (zn s) zm v m) (zn l) (zn g) = some (pRt R a' k' (zn s) e' v' m') ∧ (if good = 0 then f_X12_go_b377 (pMg M (zn t) (zn s) mk nu si wo) else if (if lt then (1 : Int32) else 0) = 0 then f_X12_go_b374 (pMg M (zn t) (zn s) mk nu si wo) (if lt then 1 else 0) 3 (Mo_to (pMg M (zn t) (zn s) mk nu si wo) - Mo_from (pMg M (zn t) (zn s) mk nu si wo)) else f_X12_go_b374 (pMg M (zn t) (zn s) mk nu si wo) (if lt then 1 else 0) 7 (Mo_to (pMg M (zn t) (zn s) mk nu si wo) - Mo_from (pMg M (zn t) (zn s) mk nu si wo))) = some (pMg M t' (zn s) mk' nu' si wo') ∧ pTk n most (pRt R a' k' (zn s) e' v' m') (pMg M t' (zn s) mk' nu' si wo') := by
      intro hst
      unfold f_X7_readRun_b117 f_X7_readRun_b186 f_X12_go_b377 f_X12_go_b374
      simp (disch := omega) only [zl_eq, pRt_at, pRt_kind, pRt_start, pRt_key, pRt_value, pRt_name, pRt_tape, pRt_length, pRt_keys, pRt_limit, pRt_tooLong, pRt_fault, pRt_faultAt, pRt_s_at, pRt_s_kind, pRt_s_start, pRt_s_key, pRt_s_value, pRt_s_name, pMg_to, pMg_from, pMg_kind, pMg_number, pMg_sign, pMg_word, pMg_tape, pMg_size, pMg_limit, pMg_s_to, pMg_s_from, pMg_s_kind, pMg_s_number, pMg_s_sign, pMg_s_word, zn_sub, zn_eq0, zn_l7, zn_l3, zn_lt]
      have bad : ∀ (v' : Int32) (m' : Int64) (nu' : Int32) (wo' : Int64), pTk n most (pRt R (zn t) 1 (zn s) zm v' m') (pMg M (zn t) (zn s) 1 nu' si wo') := fun v' m' nu' wo' => Or.inr ⟨s, t, hs, hst, by omega, rfl, rfl, rfl, rfl, Or.inl ⟨rfl, rfl, rfl⟩⟩
      cases lt with
      | true =>
        obtain ⟨r0, r4, r5⟩ := r2 rfl
        have l1 := r0 hst
        simp only [if_true, if_neg n10]
        by_cases g0 : g = 0
        · rw [if_pos g0]
          rw [g0, if_pos rfl] at r4
          rw [r4, if_neg n10]
          by_cases l7 : 7 < l
          · rw [if_pos l7, if_neg (by omega), if_pos (by omega)]
            exact ⟨_, _, _, _, _, _, _, _, _, rfl, rfl, bad _ _ _ _⟩
          · rw [if_neg l7, if_neg (by omega)]
            obtain ⟨x, y1, y2, y3, y4⟩ := r5 g0 (by omega)
            obtain ⟨z1, z2⟩ := pvl_up (m := 7) (by omega) y1
            have hk := pc_key_loop (R := pRt R (zn t) (zn 3) (zn s) zm v m) z1 y2 x9 28 (j := 0) (fu := zFU) (by omega) (zFU_ge (by omega)) rfl rfl
            rw [show (0 : Int32) = zn 0 from rfl, hk]
            by_cases q : pIdx 28 x = 28
            · rw [if_pos q]
              exact ⟨_, _, _, _, _, _, _, _, _, rfl, rfl, Or.inr ⟨s, t, hs, hst, by omega, rfl, rfl, rfl, rfl, Or.inr (Or.inr (Or.inl ⟨x, ⟨z1, y4 (by omega)⟩, y2, rfl, by rw [z2]; exact y3, Or.inl ⟨q, rfl, rfl⟩⟩))⟩⟩
            · rw [if_neg q]
              have := pIdx_lt 28 x q
              exact ⟨_, _, _, _, _, _, _, _, _, rfl, rfl, Or.inr ⟨s, t, hs, hst, by omega, rfl, rfl, rfl, rfl, Or.inr (Or.inr (Or.inl ⟨x, ⟨z1, y4 (by omega)⟩, y2, rfl, by rw [z2]; exact y3, Or.inr ⟨this.1, rfl, rfl⟩⟩))⟩⟩
        · rw [if_neg g0]
          rw [if_neg g0] at r4
          rw [r4, if_pos rfl, if_neg (by omega)]
          exact ⟨_, _, _, _, _, _, _, _, _, rfl, rfl, bad _ _ _ _⟩
      | false =>
        obtain ⟨r0, r4, r5⟩ := r3 rfl
        have g1 := r0 hst
        rw [if_neg (show ¬ g = 0 by omega)]
        simp only [if_true, Bool.false_eq_true, if_false]
        by_cases l0 : l = 0
        · rw [if_pos l0]
          rw [if_pos l0] at r4
          rw [r4, if_neg n10]
          by_cases g3 : 3 < g
          · rw [if_pos g3, if_pos (by omega)]
            exact ⟨_, _, _, _, _, _, _, _, _, rfl, rfl, bad _ _ _ _⟩
          · rw [if_neg g3, if_neg (by omega)]
            obtain ⟨y, y1, y2, y3⟩ := r5 l0 (by omega)
            have : 10 ^ g ≤ 10 ^ 3 := Nat.pow_le_pow_right (by omega) (by omega)
            have e3 : 10 ^ 3 = 1000 := by decide
            exact ⟨_, _, _, _, _, _, _, _, _, rfl, rfl, Or.inr ⟨s, t, hs, hst, by omega, rfl, rfl, rfl, rfl, Or.inr (Or.inr (Or.inr ⟨y, by omega, rfl, rfl, y2, rfl, y3⟩))⟩⟩
        · rw [if_neg l0]
          rw [if_neg l0] at r4
          rw [r4, if_pos rfl]
          exact ⟨_, _, _, _, _, _, _, _, _, rfl, rfl, bad _ _ _ _⟩
    by_cases htn : t < n
    · obtain ⟨y1, y2, y3⟩ := x8 t htn
      by_cases hc : pLet (B t) ∨ pDig (B t)
      · -- one more
        rw [pm_run_step hh htn h2 hc]
        show ∃ a' k' e' v' m' t' mk' nu' wo', f_X7_readRun_H14 (pRt R (zn t) k0 (zn s) zm v m) (f_X7_readRun_L14 f1) (zn l) (zn g) = _ ∧ _
        unfold f_X7_readRun_H14 f_X7_readRun_b73 f_X7_readRun_b104
        obtain ⟨d', rfl⟩ : ∃ d', d = d' + 1 := ⟨d - 1, by omega⟩
        have c128 : B t < 128 := by
          rcases hc with hc | hc
          · exact Nat.lt_of_le_of_lt hc.2 (by omega)
          · exact Nat.lt_of_le_of_lt hc.2 (by omega)
        simp (disch := omega) only [zl_eq, pRt_at, pRt_kind, pRt_start, pRt_key, pRt_value, pRt_name, pRt_tape, pRt_length, pRt_keys, pRt_limit, pRt_tooLong, pRt_fault, pRt_faultAt, pRt_s_at, pRt_s_kind, pRt_s_start, pRt_s_key, pRt_s_value, pRt_s_name, x3, zb_zn, zn_nat, if_true, y3, pByt_zn, zn_l97, zn_l122, zn_l48, zn_l57, zn_lt, zn_sub]
        rw [if_pos htn, show zn t + 1 = zn (t + 1) from zn_add t 1]
        by_cases ql : 97 ≤ B t ∧ B t ≤ 122
        · rw [if_neg (by omega), if_neg (by omega), show (if 97 ≤ B t ∧ B t ≤ 122 then (1 : Int32) else 0) = 1 from if_pos ql]
          rw [show zn l + 1 = zn (l + 1) from zn_add l 1, show zn (B t - 97) + 1 = zn (B t - 96) by rw [zn_l1, zn_add]; congr 1; omega, zn_toL (by omega)]
          refine q_run hh hs lt k0 mk si d' (t := t + 1) (l := l + 1) (g := g) _ _ _ _ _ (by omega) (by omega) (by omega) (by omega) ⟨by omega, ?_, ?_⟩ (by omega)
          · intro hlt
            obtain ⟨r0, r4, r5⟩ := r2 hlt
            refine ⟨fun _ => by omega, ?_, fun g0 l7 => ?_⟩
            · rw [r4, hlt]
              by_cases g0 : g = 0
              · rw [if_pos g0]; rfl
              · rw [if_neg g0]; rfl
            · obtain ⟨x, z1, z2, z3, -⟩ := r5 g0 (by omega)
              obtain ⟨w1, w2⟩ := pvl_more z1 (d := B t - 96) (by omega) (by omega)
              refine ⟨x * 32 + (B t - 96), w1, ?_, ?_, fun _ => by omega⟩
              · rw [z2, zq_l32, zq_mul, zq_add]
              · rw [if_pos (by omega), z3, zq_l27, zq_l96, zq_mul, zw_sub96 (by omega), w2, Nat.mul_comm]
          · intro hlt
            obtain ⟨r0, r4, r5⟩ := r3 hlt
            refine ⟨fun hst => ?_, ?_, fun l0 => by omega⟩
            · by_cases z : s < t
              · exact r0 z
              · have := h6 (by omega)
                rw [hlt] at this
                have h57 : pDig (B t) := this.2
                have := h57.2
                omega
            · rw [hlt, if_neg (show ¬ l + 1 = 0 by omega)]
              split
              · rfl
              · rfl
        · have qd : 48 ≤ B t ∧ B t ≤ 57 := by
            rcases hc with hc | hc
            · exact absurd hc ql
            · exact hc
          rw [if_pos (by omega), if_neg (by omega), if_neg (by omega), show (if 97 ≤ B t ∧ B t ≤ 122 then (1 : Int32) else 0) = 0 from if_neg ql]
          rw [show zn g + 1 = zn (g + 1) from zn_add g 1]
          refine q_run hh hs lt k0 mk si d' (t := t + 1) (l := l) (g := g + 1) _ _ _ _ _ (by omega) (by omega) (by omega) (by omega) ⟨by omega, ?_, ?_⟩ (by omega)
          · intro hlt
            obtain ⟨r0, r4, r5⟩ := r2 hlt
            refine ⟨fun hst => ?_, ?_, fun g0 => by omega⟩
            · by_cases z : s < t
              · exact r0 z
              · have := h6 (by omega)
                rw [hlt] at this
                have h57 : pLet (B t) := this.2
                have := h57.1
                omega
            · rw [hlt, if_neg (show ¬ g + 1 = 0 by omega)]
              split
              · rfl
              · rfl
          · intro hlt
            obtain ⟨r0, r4, r5⟩ := r3 hlt
            refine ⟨fun _ => by omega, ?_, fun l0 g3 => ?_⟩
            · rw [r4, hlt]
              by_cases l0 : l = 0
              · rw [if_pos l0]; rfl
              · rw [if_neg l0]; rfl
            · obtain ⟨y, z1, z2, z3⟩ := r5 l0 (by omega)
              refine ⟨y * 10 + (B t - 48), by rw [Nat.pow_succ]; omega, ?_, ?_⟩
              · rw [z2, zn_l10, zn_mul, zn_add]
              · rw [if_pos (by omega), z3, zn_l10, zn_mul, zn_add, zn_sub (by omega)]; congr 1; omega
      · -- another byte
        have hst : s < t := by
          by_cases z : s < t
          · exact z
          · exfalso
            have := (h6 (by omega)).2
            cases lt with
            | true => exact hc (Or.inl this)
            | false => exact hc (Or.inr this)
        have nl : ¬ (97 ≤ B t ∧ B t ≤ 122) := fun z => hc (Or.inl z)
        have nd : ¬ (48 ≤ B t ∧ B t ≤ 57) := fun z => hc (Or.inr z)
        have hta : f_X12_tapeAt (pMg M (zn t) (zn s) mk nu si wo) (zn t) = some (zn (B t)) := by
          unfold f_X12_tapeAt
          simp (disch := omega) only [pMg_to, pMg_from, pMg_kind, pMg_number, pMg_sign, pMg_word, pMg_tape, pMg_size, pMg_limit, pMg_s_to, pMg_s_from, pMg_s_kind, pMg_s_number, pMg_s_sign, pMg_s_word, x4, zn_lt, zb_zn, zn_nat, if_true, y2]
          rw [if_pos htn]
        obtain ⟨a', k', e', v', m', t', mk', nu', wo', i1, i2, i3⟩ := fin hst
        refine ⟨a', k', e', v', m', t', mk', nu', wo', ?_, ?_, i3⟩
        · show f_X7_readRun_H14 (pRt R (zn t) k0 (zn s) zm v m) (f_X7_readRun_L14 f1) (zn l) (zn g) = _
          unfold f_X7_readRun_H14 f_X7_readRun_b73
          simp (disch := omega) only [pRt_at, pRt_kind, pRt_start, pRt_key, pRt_value, pRt_name, pRt_tape, pRt_length, pRt_keys, pRt_limit, pRt_tooLong, pRt_fault, pRt_faultAt, pRt_s_at, pRt_s_kind, pRt_s_start, pRt_s_key, pRt_s_value, pRt_s_name, x3, zb_zn, zn_nat, if_true, y3, zn_l97, zn_l122, zn_l48, zn_l57, pByt_lt, pByt_gt, zn_lt]
          rw [if_pos htn]
          by_cases a1 : B t < 97 ∨ 128 ≤ B t
          · rw [if_pos a1]
            by_cases a2 : B t < 48 ∨ 128 ≤ B t
            · rw [if_pos a2]; exact i1
            · rw [if_neg a2, if_pos (by omega)]; exact i1
          · rw [if_neg a1, if_pos (by omega), if_neg (by omega), if_pos (by omega)]; exact i1
        · rw [← i2]
          show f_X12_go_H215 (pMg M (zn t) (zn s) mk nu si wo) (f_X12_go_L215 f2) _ good = _
          unfold f_X12_go_H215
          rw [pMg_to, hta, ob_eq, pm_isLetter y1, ob_eq, ob_eq, pm_isDigit y1, ob_eq, if_neg nl, if_neg nd, if_pos rfl, if_pos rfl]
    · -- the end
      have e : t = n := by omega
      have hst : s < t := by omega
      obtain ⟨a', k', e', v', m', t', mk', nu', wo', i1, i2, i3⟩ := fin hst
      refine ⟨a', k', e', v', m', t', mk', nu', wo', ?_, ?_, i3⟩
      · show f_X7_readRun_H14 (pRt R (zn t) k0 (zn s) zm v m) (f_X7_readRun_L14 f1) (zn l) (zn g) = _
        unfold f_X7_readRun_H14
        rw [pRt_at, pRt_length, x3, if_neg (by rw [zn_lt (by omega) (by omega)]; omega)]; exact i1
      · rw [← i2]
        have hta : f_X12_tapeAt (pMg M (zn t) (zn s) mk nu si wo) (zn t) = some 0 := by
          unfold f_X12_tapeAt
          rw [pMg_size, x4, if_neg (by rw [zn_lt (by omega) (by omega)]; omega)]
        show f_X12_go_H215 (pMg M (zn t) (zn s) mk nu si wo) (f_X12_go_L215 f2) _ good = _
        unfold f_X12_go_H215
        rw [pMg_to, hta, ob_eq, show f_X12_isLetter 0 = some 0 from rfl, ob_eq, ob_eq, show f_X12_isDigit 0 = some 0 from rfl, ob_eq, if_pos rfl, if_pos rfl]
