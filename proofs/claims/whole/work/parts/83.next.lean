theorem pRt_eta (R : RdT) : pRt R (Rd_at R) (Rd_kind R) (Rd_start R) (Rd_key R) (Rd_value R) (Rd_name R) = R := rfl
theorem pMg_eta (M : MoT) : pMg M (Mo_to M) (Mo_from M) (Mo_kind M) (Mo_number M) (Mo_sign M) (Mo_word M) = M := rfl
theorem pIdx_zero : pIdx 28 0 = 28 := by decide
section
variable {n most : Nat} {B : Nat → Nat} {R : RdT} {M : MoT}
/-- a byte that begins no run: the class -/
theorem pc_run_none (h : pTx n most B R M) {p : Nat} (hp : p < n) (hl : ¬ pLet (B p)) (hd : ¬ pDig (B p)) (k v : Int32) (m : Int64) : f_X7_readRun (pRt R (zn p) k (zn p) zm v m) = some (pRt R (zn p) 3 (zn p) zm 0 0) := by
  obtain ⟨x1, x2, x3, x4, x5, x6, x7, x8, x9⟩ := h
  obtain ⟨y1, y2, y3⟩ := x8 p hp
  have b117 : f_X7_readRun_b117 (pRt R (zn p) k (zn p) zm 0 0) 0 0 = some (pRt R (zn p) 3 (zn p) zm 0 0) := by
    unfold f_X7_readRun_b117
    simp only [zl_eq, pRt_at, pRt_kind, pRt_start, pRt_key, pRt_value, pRt_name, pRt_tape, pRt_length, pRt_keys, pRt_limit, pRt_tooLong, pRt_fault, pRt_faultAt, pRt_s_at, pRt_s_kind, pRt_s_start, pRt_s_key, pRt_s_value, pRt_s_name]
    rw [if_pos trivial, if_neg (by decide)]
    have hk := pc_key_loop (R := pRt R (zn p) 3 (zn p) zm 0 0) (x := 0) (pvl_zero 7) rfl x9 28 (j := 0) (fu := zFU) (by omega) (zFU_ge (by omega)) rfl rfl
    rw [show (0 : Int32) = zn 0 from rfl] at hk ⊢
    rw [hk, if_pos pIdx_zero]
  unfold f_X7_readRun
  simp only [zl_eq, pRt_at, pRt_kind, pRt_start, pRt_key, pRt_value, pRt_name, pRt_tape, pRt_length, pRt_keys, pRt_limit, pRt_tooLong, pRt_fault, pRt_faultAt, pRt_s_at, pRt_s_kind, pRt_s_start, pRt_s_key, pRt_s_value, pRt_s_name]
  have eF : zFU = 69999 + 1 := rfl
  rw [eF]
  generalize 69999 = z
  show f_X7_readRun_H14 (pRt R (zn p) k (zn p) zm 0 0) (f_X7_readRun_L14 z) 0 0 = _
  unfold f_X7_readRun_H14 f_X7_readRun_b73
  simp (disch := omega) only [pRt_at, pRt_kind, pRt_start, pRt_key, pRt_value, pRt_name, pRt_tape, pRt_length, pRt_keys, pRt_limit, pRt_tooLong, pRt_fault, pRt_faultAt, pRt_s_at, pRt_s_kind, pRt_s_start, pRt_s_key, pRt_s_value, pRt_s_name, x3, zb_zn, zn_nat, if_true, y3, zn_l97, zn_l122, zn_l48, zn_l57, pByt_lt, pByt_gt, zn_lt]
  rw [if_pos hp]
  have nl : ¬ (97 ≤ B p ∧ B p ≤ 122) := hl
  have nd : ¬ (48 ≤ B p ∧ B p ≤ 57) := hd
  by_cases a1 : B p < 97 ∨ 128 ≤ B p
  · rw [if_pos a1]
    by_cases a2 : B p < 48 ∨ 128 ≤ B p
    · rw [if_pos a2]; exact b117
    · rw [if_neg a2, if_pos (by omega)]; exact b117
  · rw [if_neg a1, if_pos (by omega), if_neg (by omega), if_pos (by omega)]; exact b117
/-- a token that begins at p -/
theorem q_token (h : pTx n most B R M) {p : Nat} (hp : p < min n most) (k s e v f kd nu si : Int32) (m wo : Int64) :
    ∃ a' k' s' e' v' m' t' f' kd' nu' si' wo', f_X7_advance_b52 (pRt R (zn p) k s e v m) = some (pRt R a' k' s' e' v' m') ∧ f_X12_go_b52 (pMg M (zn p) f kd nu si wo) = some (pMg M t' f' kd' nu' si' wo') ∧ pTk n most (pRt R a' k' s' e' v' m') (pMg M t' f' kd' nu' si' wo') := by
  have hh := h
  obtain ⟨x1, x2, x3, x4, x5, x6, x7, x8, x9⟩ := h
  have hpn : p < n := by omega
  obtain ⟨y1, y2, y3⟩ := x8 p hpn
  -- the reference comes to b96
  have mb : f_X12_go_b52 (pMg M (zn p) f kd nu si wo) = f_X12_go_b96 (pMg M (zn p) (zn p) kd nu si wo) := by
    unfold f_X12_go_b52
    simp (disch := omega) only [zl_eq, pMg_to, pMg_from, pMg_kind, pMg_number, pMg_sign, pMg_word, pMg_tape, pMg_size, pMg_limit, pMg_s_to, pMg_s_from, pMg_s_kind, pMg_s_number, pMg_s_sign, pMg_s_word, x4, x7, zn_lt]
    by_cases q : most < n
    · rw [if_pos q, if_pos (by omega)]
    · rw [if_neg q]
  have cb : ∀ Z, (if zn p < Rd_limit R then Z else (some (pRt R (zn p) 0 (Rd_limit R) zm v m) : Option RdT)) = Z := fun Z => by
    rw [x5, if_pos (by rw [zn_lt (by omega) (by omega)]; exact hp)]
  rw [mb]
  unfold f_X7_advance_b52 f_X12_go_b96
  simp only [zl_eq, pRt_at, pRt_kind, pRt_start, pRt_key, pRt_value, pRt_name, pRt_tape, pRt_length, pRt_keys, pRt_limit, pRt_tooLong, pRt_fault, pRt_faultAt, pRt_s_at, pRt_s_kind, pRt_s_start, pRt_s_key, pRt_s_value, pRt_s_name, pMg_to, pMg_from, pMg_kind, pMg_number, pMg_sign, pMg_word, pMg_tape, pMg_size, pMg_limit, pMg_s_to, pMg_s_from, pMg_s_kind, pMg_s_number, pMg_s_sign, pMg_s_word, show (-1 : Int32) = zm from rfl]
  rw [cb, zb_zn (by omega) (by omega), if_pos rfl, zn_nat (by omega), y3, x4, if_pos (show zn p < zn n by rw [zn_lt (by omega) (by omega)]; exact hpn), if_pos rfl, y2, pm_isLetter y1, ob_eq, pm_isDigit y1, ob_eq]
  by_cases sg : pSign (B p)
  · rcases sg with g | g | g | g | g | g
    · rw [g]
      rw [if_pos (show pByt 59 = 59 by decide), if_pos (show (if 97 ≤ 59 ∧ 59 ≤ 122 then (1 : Int32) else 0) = 0 by decide), if_pos (show (if 48 ≤ 59 ∧ 59 ≤ 57 then (1 : Int32) else 0) = 0 by decide), if_pos (show zn 59 = (59 : Int32) from rfl)]
      unfold f_X7_advance_b136 f_X12_go_b174 f_X12_go_b179
      simp only [zl_eq, pRt_at, pRt_kind, pRt_start, pRt_key, pRt_value, pRt_name, pRt_tape, pRt_length, pRt_keys, pRt_limit, pRt_tooLong, pRt_fault, pRt_faultAt, pRt_s_at, pRt_s_kind, pRt_s_start, pRt_s_key, pRt_s_value, pRt_s_name, pMg_to, pMg_from, pMg_kind, pMg_number, pMg_sign, pMg_word, pMg_tape, pMg_size, pMg_limit, pMg_s_to, pMg_s_from, pMg_s_kind, pMg_s_number, pMg_s_sign, pMg_s_word]
      rw [show zn p + 1 = zn (p + 1) from zn_add p 1]
      exact ⟨_, _, _, _, _, _, _, _, _, _, _, _, rfl, rfl, Or.inr ⟨p, p + 1, hp, by omega, by omega, rfl, rfl, rfl, rfl, Or.inr (Or.inl ⟨59, by unfold pSign; omega, rfl, rfl, rfl, rfl⟩)⟩⟩
    · rw [g]
      rw [if_neg (show ¬ pByt 60 = 59 by decide), if_pos (show pByt 60 = 60 by decide), if_pos (show (if 97 ≤ 60 ∧ 60 ≤ 122 then (1 : Int32) else 0) = 0 by decide), if_pos (show (if 48 ≤ 60 ∧ 60 ≤ 57 then (1 : Int32) else 0) = 0 by decide), if_neg (show ¬ zn 60 = (59 : Int32) by decide), if_pos (show zn 60 = (60 : Int32) from rfl)]
      unfold f_X7_advance_b136 f_X12_go_b174 f_X12_go_b179
      simp only [zl_eq, pRt_at, pRt_kind, pRt_start, pRt_key, pRt_value, pRt_name, pRt_tape, pRt_length, pRt_keys, pRt_limit, pRt_tooLong, pRt_fault, pRt_faultAt, pRt_s_at, pRt_s_kind, pRt_s_start, pRt_s_key, pRt_s_value, pRt_s_name, pMg_to, pMg_from, pMg_kind, pMg_number, pMg_sign, pMg_word, pMg_tape, pMg_size, pMg_limit, pMg_s_to, pMg_s_from, pMg_s_kind, pMg_s_number, pMg_s_sign, pMg_s_word]
      rw [show zn p + 1 = zn (p + 1) from zn_add p 1]
      exact ⟨_, _, _, _, _, _, _, _, _, _, _, _, rfl, rfl, Or.inr ⟨p, p + 1, hp, by omega, by omega, rfl, rfl, rfl, rfl, Or.inr (Or.inl ⟨60, by unfold pSign; omega, rfl, rfl, rfl, rfl⟩)⟩⟩
    · rw [g]
      rw [if_neg (show ¬ pByt 61 = 59 by decide), if_neg (show ¬ pByt 61 = 60 by decide), if_pos (show pByt 61 = 61 by decide), if_pos (show (if 97 ≤ 61 ∧ 61 ≤ 122 then (1 : Int32) else 0) = 0 by decide), if_pos (show (if 48 ≤ 61 ∧ 61 ≤ 57 then (1 : Int32) else 0) = 0 by decide), if_neg (show ¬ zn 61 = (59 : Int32) by decide), if_neg (show ¬ zn 61 = (60 : Int32) by decide), if_pos (show zn 61 = (61 : Int32) from rfl)]
      unfold f_X7_advance_b136 f_X12_go_b174 f_X12_go_b179
      simp only [zl_eq, pRt_at, pRt_kind, pRt_start, pRt_key, pRt_value, pRt_name, pRt_tape, pRt_length, pRt_keys, pRt_limit, pRt_tooLong, pRt_fault, pRt_faultAt, pRt_s_at, pRt_s_kind, pRt_s_start, pRt_s_key, pRt_s_value, pRt_s_name, pMg_to, pMg_from, pMg_kind, pMg_number, pMg_sign, pMg_word, pMg_tape, pMg_size, pMg_limit, pMg_s_to, pMg_s_from, pMg_s_kind, pMg_s_number, pMg_s_sign, pMg_s_word]
      rw [show zn p + 1 = zn (p + 1) from zn_add p 1]
      exact ⟨_, _, _, _, _, _, _, _, _, _, _, _, rfl, rfl, Or.inr ⟨p, p + 1, hp, by omega, by omega, rfl, rfl, rfl, rfl, Or.inr (Or.inl ⟨61, by unfold pSign; omega, rfl, rfl, rfl, rfl⟩)⟩⟩
    · rw [g]
      rw [if_neg (show ¬ pByt 62 = 59 by decide), if_neg (show ¬ pByt 62 = 60 by decide), if_neg (show ¬ pByt 62 = 61 by decide), if_pos (show pByt 62 = 62 by decide), if_pos (show (if 97 ≤ 62 ∧ 62 ≤ 122 then (1 : Int32) else 0) = 0 by decide), if_pos (show (if 48 ≤ 62 ∧ 62 ≤ 57 then (1 : Int32) else 0) = 0 by decide), if_neg (show ¬ zn 62 = (59 : Int32) by decide), if_neg (show ¬ zn 62 = (60 : Int32) by decide), if_neg (show ¬ zn 62 = (61 : Int32) by decide), if_pos (show zn 62 = (62 : Int32) from rfl)]
      unfold f_X7_advance_b136 f_X12_go_b174 f_X12_go_b179
      simp only [zl_eq, pRt_at, pRt_kind, pRt_start, pRt_key, pRt_value, pRt_name, pRt_tape, pRt_length, pRt_keys, pRt_limit, pRt_tooLong, pRt_fault, pRt_faultAt, pRt_s_at, pRt_s_kind, pRt_s_start, pRt_s_key, pRt_s_value, pRt_s_name, pMg_to, pMg_from, pMg_kind, pMg_number, pMg_sign, pMg_word, pMg_tape, pMg_size, pMg_limit, pMg_s_to, pMg_s_from, pMg_s_kind, pMg_s_number, pMg_s_sign, pMg_s_word]
      rw [show zn p + 1 = zn (p + 1) from zn_add p 1]
      exact ⟨_, _, _, _, _, _, _, _, _, _, _, _, rfl, rfl, Or.inr ⟨p, p + 1, hp, by omega, by omega, rfl, rfl, rfl, rfl, Or.inr (Or.inl ⟨62, by unfold pSign; omega, rfl, rfl, rfl, rfl⟩)⟩⟩
    · rw [g]
      rw [if_neg (show ¬ pByt 40 = 59 by decide), if_neg (show ¬ pByt 40 = 60 by decide), if_neg (show ¬ pByt 40 = 61 by decide), if_neg (show ¬ pByt 40 = 62 by decide), if_pos (show pByt 40 = 40 by decide), if_pos (show (if 97 ≤ 40 ∧ 40 ≤ 122 then (1 : Int32) else 0) = 0 by decide), if_pos (show (if 48 ≤ 40 ∧ 40 ≤ 57 then (1 : Int32) else 0) = 0 by decide), if_neg (show ¬ zn 40 = (59 : Int32) by decide), if_neg (show ¬ zn 40 = (60 : Int32) by decide), if_neg (show ¬ zn 40 = (61 : Int32) by decide), if_neg (show ¬ zn 40 = (62 : Int32) by decide), if_pos (show zn 40 = (40 : Int32) from rfl)]
      unfold f_X7_advance_b136 f_X12_go_b174 f_X12_go_b179
      simp only [zl_eq, pRt_at, pRt_kind, pRt_start, pRt_key, pRt_value, pRt_name, pRt_tape, pRt_length, pRt_keys, pRt_limit, pRt_tooLong, pRt_fault, pRt_faultAt, pRt_s_at, pRt_s_kind, pRt_s_start, pRt_s_key, pRt_s_value, pRt_s_name, pMg_to, pMg_from, pMg_kind, pMg_number, pMg_sign, pMg_word, pMg_tape, pMg_size, pMg_limit, pMg_s_to, pMg_s_from, pMg_s_kind, pMg_s_number, pMg_s_sign, pMg_s_word]
      rw [show zn p + 1 = zn (p + 1) from zn_add p 1]
      exact ⟨_, _, _, _, _, _, _, _, _, _, _, _, rfl, rfl, Or.inr ⟨p, p + 1, hp, by omega, by omega, rfl, rfl, rfl, rfl, Or.inr (Or.inl ⟨40, by unfold pSign; omega, rfl, rfl, rfl, rfl⟩)⟩⟩
    · rw [g]
      rw [if_neg (show ¬ pByt 41 = 59 by decide), if_neg (show ¬ pByt 41 = 60 by decide), if_neg (show ¬ pByt 41 = 61 by decide), if_neg (show ¬ pByt 41 = 62 by decide), if_neg (show ¬ pByt 41 = 40 by decide), if_pos (show pByt 41 = 41 by decide), if_pos (show (if 97 ≤ 41 ∧ 41 ≤ 122 then (1 : Int32) else 0) = 0 by decide), if_pos (show (if 48 ≤ 41 ∧ 41 ≤ 57 then (1 : Int32) else 0) = 0 by decide), if_neg (show ¬ zn 41 = (59 : Int32) by decide), if_neg (show ¬ zn 41 = (60 : Int32) by decide), if_neg (show ¬ zn 41 = (61 : Int32) by decide), if_neg (show ¬ zn 41 = (62 : Int32) by decide), if_neg (show ¬ zn 41 = (40 : Int32) by decide), if_pos (show zn 41 = (41 : Int32) from rfl)]
      unfold f_X7_advance_b136 f_X12_go_b174 f_X12_go_b179
      simp only [zl_eq, pRt_at, pRt_kind, pRt_start, pRt_key, pRt_value, pRt_name, pRt_tape, pRt_length, pRt_keys, pRt_limit, pRt_tooLong, pRt_fault, pRt_faultAt, pRt_s_at, pRt_s_kind, pRt_s_start, pRt_s_key, pRt_s_value, pRt_s_name, pMg_to, pMg_from, pMg_kind, pMg_number, pMg_sign, pMg_word, pMg_tape, pMg_size, pMg_limit, pMg_s_to, pMg_s_from, pMg_s_kind, pMg_s_number, pMg_s_sign, pMg_s_word]
      rw [show zn p + 1 = zn (p + 1) from zn_add p 1]
      exact ⟨_, _, _, _, _, _, _, _, _, _, _, _, rfl, rfl, Or.inr ⟨p, p + 1, hp, by omega, by omega, rfl, rfl, rfl, rfl, Or.inr (Or.inl ⟨41, by unfold pSign; omega, rfl, rfl, rfl, rfl⟩)⟩⟩
  · rw [if_neg (show ¬ pByt (B p) = (59 : Int32) by rw [zn_l59, pByt_eq y1 (by omega)]; exact fun z => sg (by unfold pSign; omega)), if_neg (show ¬ pByt (B p) = (60 : Int32) by rw [zn_l60, pByt_eq y1 (by omega)]; exact fun z => sg (by unfold pSign; omega)), if_neg (show ¬ pByt (B p) = (61 : Int32) by rw [zn_l61, pByt_eq y1 (by omega)]; exact fun z => sg (by unfold pSign; omega)), if_neg (show ¬ pByt (B p) = (62 : Int32) by rw [zn_l62, pByt_eq y1 (by omega)]; exact fun z => sg (by unfold pSign; omega)), if_neg (show ¬ pByt (B p) = (40 : Int32) by rw [zn_l40, pByt_eq y1 (by omega)]; exact fun z => sg (by unfold pSign; omega)), if_neg (show ¬ pByt (B p) = (41 : Int32) by rw [zn_l41, pByt_eq y1 (by omega)]; exact fun z => sg (by unfold pSign; omega))]
    by_cases al : pLet (B p) ∨ pDig (B p)
    · -- a word or a number
      obtain ⟨lt, hlt⟩ : ∃ lt : Bool, (if lt then pLet (B p) else pDig (B p)) ∧ (if 97 ≤ B p ∧ B p ≤ 122 then (1 : Int32) else 0) = (if lt then 1 else 0) := by
        by_cases q : 97 ≤ B p ∧ B p ≤ 122
        · exact ⟨true, q, by rw [if_pos q]; rfl⟩
        · refine ⟨false, al.elim (fun z => absurd z q) id, by rw [if_neg q]; rfl⟩
      have hb : f_X12_go_b198 (pMg M (zn p) (zn p) kd nu si wo) (zn (B p)) = f_X12_go_L215 zFU (pMg M (zn p) (zn p) kd 0 si 0) (if lt then 1 else 0) 1 := by
        unfold f_X12_go_b198
        rw [pm_isLetter y1, ob_eq, hlt.2]
        simp only [zl_eq, pMg_to, pMg_from, pMg_kind, pMg_number, pMg_sign, pMg_word, pMg_tape, pMg_size, pMg_limit, pMg_s_to, pMg_s_from, pMg_s_kind, pMg_s_number, pMg_s_sign, pMg_s_word]
      obtain ⟨a', k', e', v', m', t', kd', nu', wo', i1, i2, i3⟩ := q_run hh hp lt k kd si (n - p) (t := p) (l := 0) (g := 0) (f1 := zFU) (f2 := zFU) 0 0 1 0 0 (by omega) (by omega) (zFU_ge (by omega)) (zFU_ge (by omega)) ⟨by omega, fun _ => ⟨fun z => by omega, rfl, fun _ _ => ⟨0, rfl, rfl, rfl, fun z => absurd rfl z⟩⟩, fun _ => ⟨fun z => by omega, rfl, fun _ _ => ⟨0, by decide, rfl, rfl⟩⟩⟩ (fun _ => ⟨hpn, hlt.1⟩)
      have hr : f_X7_readRun (pRt R (zn p) k (zn p) zm v m) = some (pRt R a' k' (zn p) e' v' m') := by
        unfold f_X7_readRun
        simp only [zl_eq, pRt_at, pRt_kind, pRt_start, pRt_key, pRt_value, pRt_name, pRt_tape, pRt_length, pRt_keys, pRt_limit, pRt_tooLong, pRt_fault, pRt_faultAt, pRt_s_at, pRt_s_kind, pRt_s_start, pRt_s_key, pRt_s_value, pRt_s_name]
        exact i1
      have hne : ¬ a' = zn p := by
        rcases i3 with ⟨-, -, z, -, -⟩ | ⟨s2, t2, w1, w2, w3, w4, -, w5, -⟩
        · have z' : zn p = zn (min n most) := z
          rw [zn_eq (by omega) (by omega)] at z'; omega
        · have z4 : zn p = zn s2 := w4
          have z5 : a' = zn t2 := w5
          rw [zn_eq (by omega) (by omega)] at z4
          rw [z5, zn_eq (by omega) (by omega)]; omega
      rw [hr, ob_eq]
      simp only [pRt_at, pRt_kind, pRt_start, pRt_key, pRt_value, pRt_name, pRt_tape, pRt_length, pRt_keys, pRt_limit, pRt_tooLong, pRt_fault, pRt_faultAt, pRt_s_at, pRt_s_kind, pRt_s_start, pRt_s_key, pRt_s_value, pRt_s_name]
      rw [if_neg hne, hb]
      refine ⟨a', k', zn p, e', v', m', t', zn p, kd', nu', si, wo', rfl, ?_, i3⟩
      rw [← i2]
      by_cases q : 97 ≤ B p ∧ B p ≤ 122
      · rw [if_pos q, if_neg n10]
      · rw [if_neg q, if_pos rfl, if_pos (show 48 ≤ B p ∧ B p ≤ 57 from al.elim (fun z => absurd z q) id), if_neg n10]
    · have nl : ¬ pLet (B p) := fun z => al (Or.inl z)
      have nd : ¬ pDig (B p) := fun z => al (Or.inr z)
      rw [pc_run_none hh hpn nl nd, ob_eq]
      simp only [pRt_at, pRt_kind, pRt_start, pRt_key, pRt_value, pRt_name, pRt_tape, pRt_length, pRt_keys, pRt_limit, pRt_tooLong, pRt_fault, pRt_faultAt, pRt_s_at, pRt_s_kind, pRt_s_start, pRt_s_key, pRt_s_value, pRt_s_name]
      rw [if_pos trivial, if_neg (show ¬ (97 ≤ B p ∧ B p ≤ 122) from nl), if_pos rfl, if_neg (show ¬ (48 ≤ B p ∧ B p ≤ 57) from nd), if_pos rfl, if_neg (show ¬ zn (B p) = (59 : Int32) by rw [zn_l59, zn_eq (by omega) (by omega)]; exact fun z => sg (by unfold pSign; omega)), if_neg (show ¬ zn (B p) = (60 : Int32) by rw [zn_l60, zn_eq (by omega) (by omega)]; exact fun z => sg (by unfold pSign; omega)), if_neg (show ¬ zn (B p) = (61 : Int32) by rw [zn_l61, zn_eq (by omega) (by omega)]; exact fun z => sg (by unfold pSign; omega)), if_neg (show ¬ zn (B p) = (62 : Int32) by rw [zn_l62, zn_eq (by omega) (by omega)]; exact fun z => sg (by unfold pSign; omega)), if_neg (show ¬ zn (B p) = (40 : Int32) by rw [zn_l40, zn_eq (by omega) (by omega)]; exact fun z => sg (by unfold pSign; omega)), if_neg (show ¬ zn (B p) = (41 : Int32) by rw [zn_l41, zn_eq (by omega) (by omega)]; exact fun z => sg (by unfold pSign; omega))]
      unfold f_X12_go_b179
      simp only [zl_eq, pRt_at, pRt_kind, pRt_start, pRt_key, pRt_value, pRt_name, pRt_tape, pRt_length, pRt_keys, pRt_limit, pRt_tooLong, pRt_fault, pRt_faultAt, pRt_s_at, pRt_s_kind, pRt_s_start, pRt_s_key, pRt_s_value, pRt_s_name, pMg_to, pMg_from, pMg_kind, pMg_number, pMg_sign, pMg_word, pMg_tape, pMg_size, pMg_limit, pMg_s_to, pMg_s_from, pMg_s_kind, pMg_s_number, pMg_s_sign, pMg_s_word]
      rw [show zn p + 1 = zn (p + 1) from zn_add p 1]
      exact ⟨_, _, _, _, _, _, _, _, _, _, _, _, rfl, rfl, Or.inr ⟨p, p + 1, hp, by omega, by omega, rfl, rfl, rfl, rfl, Or.inl ⟨rfl, rfl, rfl⟩⟩⟩
/-- behind the text's end: the reference -/
theorem pm_end_loop (h : pTx n most B R M) : ∀ (d : Nat) {t fu : Nat} (f kd nu si : Int32) (wo : Int64), t + d = n → min n most ≤ t → d + 1 ≤ fu → ∃ t', f_X12_go_L0 fu (pMg M (zn t) f kd nu si wo) = some (pMg M t' (zn (min n most)) (if most < n then 1 else 0) nu si wo)
  | d, t, 0, f, kd, nu, si, wo, h1, h2, h3 => by omega
  | d, t, fu + 1, f, kd, nu, si, wo, h1, h2, h3 => by
    have hh := h
    obtain ⟨x1, x2, x3, x4, x5, x6, x7, x8, x9⟩ := h
    show ∃ t', f_X12_go_H0 (pMg M (zn t) f kd nu si wo) (f_X12_go_L0 fu) = _
    unfold f_X12_go_H0 f_X12_go_b39
    have b52 : ∃ t', f_X12_go_b52 (pMg M (zn t) f kd nu si wo) = some (pMg M t' (zn (min n most)) (if most < n then 1 else 0) nu si wo) := by
      unfold f_X12_go_b52
      simp only [zl_eq, pMg_to, pMg_from, pMg_kind, pMg_number, pMg_sign, pMg_word, pMg_tape, pMg_size, pMg_limit, pMg_s_to, pMg_s_from, pMg_s_kind, pMg_s_number, pMg_s_sign, pMg_s_word]
      rw [x4, x7]
      by_cases q : most < n
      · rw [if_pos (show zn most < zn n by rw [zn_lt (by omega) (by omega)]; exact q), if_neg (show ¬ zn t < zn most by rw [zn_lt (by omega) (by omega)]; omega), if_pos q]
        have e : min n most = most := by omega
        rw [e]
        exact ⟨_, rfl⟩
      · have e : min n most = t := by omega
        rw [if_neg (show ¬ zn most < zn n by rw [zn_lt (by omega) (by omega)]; exact q), if_neg q, e]
        unfold f_X12_go_b96
        simp only [zl_eq, pMg_to, pMg_from, pMg_kind, pMg_number, pMg_sign, pMg_word, pMg_tape, pMg_size, pMg_limit, pMg_s_to, pMg_s_from, pMg_s_kind, pMg_s_number, pMg_s_sign, pMg_s_word]
        rw [x4, if_neg (show ¬ zn t < zn n by rw [zn_lt (by omega) (by omega)]; omega)]
        exact ⟨_, rfl⟩
    by_cases htn : t < n
    · obtain ⟨y1, y2, y3⟩ := x8 t htn
      obtain ⟨d', rfl⟩ : ∃ d', d = d' + 1 := ⟨d - 1, by omega⟩
      simp (disch := omega) only [pMg_to, pMg_from, pMg_kind, pMg_number, pMg_sign, pMg_word, pMg_tape, pMg_size, pMg_limit, pMg_s_to, pMg_s_from, pMg_s_kind, pMg_s_number, pMg_s_sign, pMg_s_word, x4, zb_zn, zn_nat, if_true, y2, zn_lt, zl_eq]
      rw [if_pos htn, show zn t + 1 = zn (t + 1) from zn_add t 1]
      have ih := pm_end_loop hh d' (t := t + 1) (fu := fu) f kd nu si wo (by omega) (by omega) (by omega)
      split
      · exact ih
      · split
        · exact ih
        · exact b52
    · rw [pMg_to, pMg_size, x4, if_neg (by rw [zn_lt (by omega) (by omega)]; exact htn)]
      exact b52
/-- the next token -/
theorem q_next_loop (h : pTx n most B R M) : ∀ (d : Nat) {t f1 f2 : Nat} (k s e v f kd nu si : Int32) (m wo : Int64), t + d = n → d + 1 ≤ f1 → d + 1 ≤ f2 →
    ∃ a' k' s' e' v' m' t' f' kd' nu' si' wo', f_X7_advance_L0 f1 (pRt R (zn t) k s e v m) = some (pRt R a' k' s' e' v' m') ∧ f_X12_go_L0 f2 (pMg M (zn t) f kd nu si wo) = some (pMg M t' f' kd' nu' si' wo') ∧ pTk n most (pRt R a' k' s' e' v' m') (pMg M t' f' kd' nu' si' wo')
  | d, t, 0, f2, k, s, e, v, f, kd, nu, si, m, wo, h1, h2, h3 => by omega
  | d, t, f1 + 1, 0, k, s, e, v, f, kd, nu, si, m, wo, h1, h2, h3 => by omega
  | d, t, f1 + 1, f2 + 1, k, s, e, v, f, kd, nu, si, m, wo, h1, h2, h3 => by
    have hh := h
    obtain ⟨x1, x2, x3, x4, x5, x6, x7, x8, x9⟩ := h
    by_cases htl : t < min n most
    · have htn : t < n := by omega
      obtain ⟨y1, y2, y3⟩ := x8 t htn
      obtain ⟨d', rfl⟩ : ∃ d', d = d' + 1 := ⟨d - 1, by omega⟩
      have ih := q_next_loop hh d' (t := t + 1) (f1 := f1) (f2 := f2) k s e v f kd nu si m wo (by omega) (by omega) (by omega)
      have tk := q_token hh htl k s e v f kd nu si m wo
      show ∃ a' k' s' e' v' m' t' f' kd' nu' si' wo', f_X7_advance_H0 (pRt R (zn t) k s e v m) (f_X7_advance_L0 f1) = _ ∧ f_X12_go_H0 (pMg M (zn t) f kd nu si wo) (f_X12_go_L0 f2) = _ ∧ _
      unfold f_X7_advance_H0 f_X7_advance_b39 f_X12_go_H0 f_X12_go_b39
      simp (disch := omega) only [pRt_at, pRt_kind, pRt_start, pRt_key, pRt_value, pRt_name, pRt_tape, pRt_length, pRt_keys, pRt_limit, pRt_tooLong, pRt_fault, pRt_faultAt, pRt_s_at, pRt_s_kind, pRt_s_start, pRt_s_key, pRt_s_value, pRt_s_name, pMg_to, pMg_from, pMg_kind, pMg_number, pMg_sign, pMg_word, pMg_tape, pMg_size, pMg_limit, pMg_s_to, pMg_s_from, pMg_s_kind, pMg_s_number, pMg_s_sign, pMg_s_word, x4, x5, zb_zn, zn_nat, if_true, y2, y3, zn_lt, zl_eq, zn_l32, zn_l10, pByt_eq, zn_eq]
      rw [if_pos htl, if_pos htn, show zn t + 1 = zn (t + 1) from zn_add t 1]
      by_cases q1 : B t = 32
      · rw [if_pos q1, if_pos q1]; exact ih
      · rw [if_neg q1, if_neg q1]
        by_cases q2 : B t = 10
        · rw [if_pos q2, if_pos q2]; exact ih
        · rw [if_neg q2, if_neg q2]; exact tk
    · obtain ⟨t', i1⟩ := pm_end_loop hh d (t := t) (fu := f2 + 1) f kd nu si wo h1 (by omega) (by omega)
      refine ⟨zn t, 0, zn (min n most), zm, v, m, t', zn (min n most), (if most < n then 1 else 0), nu, si, wo, ?_, i1, Or.inl ⟨rfl, rfl, rfl, rfl, rfl⟩⟩
      · show f_X7_advance_H0 (pRt R (zn t) k s e v m) (f_X7_advance_L0 f1) = _
        unfold f_X7_advance_H0 f_X7_advance_b52
        rw [pRt_at, pRt_limit, x5, if_neg (by rw [zn_lt (by omega) (by omega)]; exact htl)]
        simp only [zl_eq, pRt_at, pRt_kind, pRt_start, pRt_key, pRt_value, pRt_name, pRt_tape, pRt_length, pRt_keys, pRt_limit, pRt_tooLong, pRt_fault, pRt_faultAt, pRt_s_at, pRt_s_kind, pRt_s_start, pRt_s_key, pRt_s_value, pRt_s_name]
        rw [x5, if_neg (by rw [zn_lt (by omega) (by omega)]; exact htl)]
        rfl
theorem q_next (h : pTx n most B R M) {t : Nat} (ht : t ≤ n) (h1 : Rd_at R = zn t) (h2 : Mo_to M = zn t) : ∃ a' k' s' e' v' m' t' f' kd' nu' si' wo', f_X7_advance R = some (pRt R a' k' s' e' v' m') ∧ f_X12_go M = some (pMg M t' f' kd' nu' si' wo') ∧ pTk n most (pRt R a' k' s' e' v' m') (pMg M t' f' kd' nu' si' wo') := by
  have := q_next_loop h (n - t) (t := t) (f1 := zFU) (f2 := zFU) (Rd_kind R) (Rd_start R) (Rd_key R) (Rd_value R) (Mo_from M) (Mo_kind M) (Mo_number M) (Mo_sign M) (Rd_name R) (Mo_word M) (by omega) (zFU_ge (by have := h.1; omega)) (zFU_ge (by have := h.1; omega))
  rw [← h1, pRt_eta, h1, ← h2, pMg_eta] at this
  exact this
end
