/-! words: x is the number of a word, five bits a letter; the reference tells it with base 27 -/
def pcv : Nat → Nat → Nat
  | 0, _ => 0
  | n + 1, x => if x = 0 then 0 else pcv n (x / 32) * 27 + x % 32
def pvl : Nat → Nat → Prop
  | 0, x => x = 0
  | n + 1, x => x = 0 ∨ (1 ≤ x % 32 ∧ x % 32 ≤ 26 ∧ pvl n (x / 32))
theorem pvl_zero (n : Nat) : pvl n 0 := by
  cases n with
  | zero => rfl
  | succ n => exact Or.inl rfl
theorem pcv_zero (n : Nat) : pcv n 0 = 0 := by
  cases n with
  | zero => rfl
  | succ n => rfl
theorem pvl_lt : ∀ (n x : Nat), pvl n x → x < 32 ^ n
  | 0, x, h => by rw [show x = 0 from h]; decide
  | n + 1, x, h => by
    rcases h with h | ⟨h1, h2, h3⟩
    · rw [h]; exact Nat.pow_pos (by omega)
    · have := pvl_lt n _ h3
      rw [Nat.pow_succ]; omega
theorem pcv_lt : ∀ (n x : Nat), pvl n x → pcv n x < 27 ^ n
  | 0, x, h => by simp [pcv]
  | n + 1, x, h => by
    unfold pcv
    rcases h with h | ⟨h1, h2, h3⟩
    · rw [if_pos h]; exact Nat.pow_pos (by omega)
    · have := pcv_lt n _ h3
      rw [if_neg (by omega), Nat.pow_succ]; omega
theorem pcv_inj : ∀ (n x y : Nat), pvl n x → pvl n y → pcv n x = pcv n y → x = y
  | 0, x, y, h1, h2, _ => by rw [show x = 0 from h1, show y = 0 from h2]
  | n + 1, x, y, h1, h2, h => by
    unfold pcv at h
    rcases h1 with h1 | ⟨a1, a2, a3⟩
    · rcases h2 with h2 | ⟨b1, b2, b3⟩
      · rw [h1, h2]
      · rw [if_pos h1, if_neg (by omega)] at h; omega
    · rcases h2 with h2 | ⟨b1, b2, b3⟩
      · rw [if_pos h2, if_neg (by omega)] at h; omega
      · rw [if_neg (by omega), if_neg (by omega)] at h
        have := pcv_inj n _ _ a3 b3 (by omega)
        omega
theorem pvl_succ : ∀ (n x : Nat), pvl n x → pvl (n + 1) x ∧ pcv (n + 1) x = pcv n x
  | 0, x, h => by
    rw [show x = 0 from h]
    exact ⟨Or.inl rfl, rfl⟩
  | n + 1, x, h => by
    rcases h with h | ⟨h1, h2, h3⟩
    · rw [h]; exact ⟨Or.inl rfl, rfl⟩
    · obtain ⟨i1, i2⟩ := pvl_succ n _ h3
      refine ⟨Or.inr ⟨h1, h2, i1⟩, ?_⟩
      have hx : ¬ x = 0 := by omega
      rw [show pcv (n + 1 + 1) x = if x = 0 then 0 else pcv (n + 1) (x / 32) * 27 + x % 32 from rfl, show pcv (n + 1) x = if x = 0 then 0 else pcv n (x / 32) * 27 + x % 32 from rfl, if_neg hx, if_neg hx, i2]
theorem pvl_more {n x d : Nat} (h : pvl n x) (h1 : 1 ≤ d) (h2 : d ≤ 26) : pvl (n + 1) (x * 32 + d) ∧ pcv (n + 1) (x * 32 + d) = pcv n x * 27 + d := by
  have e1 : (x * 32 + d) / 32 = x := by omega
  have e2 : (x * 32 + d) % 32 = d := by omega
  constructor
  · right; rw [e1, e2]; exact ⟨h1, h2, h⟩
  · rw [show pcv (n + 1) (x * 32 + d) = if x * 32 + d = 0 then 0 else pcv n ((x * 32 + d) / 32) * 27 + (x * 32 + d) % 32 from rfl, e1, e2, if_neg (by omega)]
theorem pvl_up {n m x : Nat} (h : n ≤ m) (hx : pvl n x) : pvl m x ∧ pcv m x = pcv n x := by
  induction h with
  | refl => exact ⟨hx, rfl⟩
  | step _ ih =>
    obtain ⟨j1, j2⟩ := pvl_succ _ _ ih.1
    exact ⟨j1, j2.trans ih.2⟩
/-- two tellings of one word -/
def pNm (N W : Int64) : Prop := ∃ x, (pvl 7 x ∧ x ≠ 0) ∧ N = zq x ∧ W = zq (pcv 7 x)
theorem pNm_eq0 {x y : Nat} (x1 : pvl 7 x) (y1 : pvl 7 y) : zq x = zq y ↔ zq (pcv 7 x) = zq (pcv 7 y) := by
  have a1 := pvl_lt 7 x x1
  have a2 := pvl_lt 7 y y1
  have b1 := pcv_lt 7 x x1
  have b2 := pcv_lt 7 y y1
  have c1 : 32 ^ 7 = 34359738368 := by decide
  have c2 : 27 ^ 7 = 10460353203 := by decide
  rw [zq_eq (by omega) (by omega), zq_eq (by omega) (by omega)]
  exact ⟨fun e => by rw [e], pcv_inj 7 x y x1 y1⟩
theorem pNm_eq {N W N' W' : Int64} (h : pNm N W) (h' : pNm N' W') : N = N' ↔ W = W' := by
  obtain ⟨x, ⟨x1, -⟩, rfl, rfl⟩ := h
  obtain ⟨y, ⟨y1, -⟩, rfl, rfl⟩ := h'
  exact pNm_eq0 x1 y1
/-! the words told: the class's by its own numbers -/
def pKs : List Nat := [109758568, 9678, 540244, 605220, 212548, 13358, 11566, 661816915, 522327635, 20325907, 183113299, 235155, 4153, 498, 1476, 14836, 623813, 24162675, 24159891, 638890148, 526004279, 20317486, 655, 52, 113966, 132915, 13938867, 492210354]
def pKy (k : Nat) : Nat := pKs.getD k 0
/-- the class's number of the reference's j-th word -/
def pSg (j : Nat) : Nat := [0, 1, 2, 3, 4, 5, 7, 8, 9, 10, 11, 12, 13, 14, 15, 16, 17, 18, 19, 20, 21, 6, 22, 23, 24, 25, 26, 27].getD j 0
/-- which of the first n words x is, or 28 -/
def pIdx : Nat → Nat → Nat
  | 0, _ => 28
  | n + 1, x => if pIdx n x ≠ 28 then pIdx n x else if pKy n = x then n else 28
def pvb : Nat → Nat → Bool
  | 0, x => x == 0
  | n + 1, x => x == 0 || (Nat.ble 1 (x % 32) && (Nat.ble (x % 32) 26 && pvb n (x / 32)))
theorem pvb_of : ∀ (n x : Nat), pvb n x = true → pvl n x
  | 0, x, h => by
    have e : x = 0 := by simpa [pvb] using h
    exact e
  | n + 1, x, h => by
    simp only [pvb, Bool.or_eq_true, beq_iff_eq, Bool.and_eq_true] at h
    rcases h with h | ⟨h1, h2, h3⟩
    · exact Or.inl h
    · exact Or.inr ⟨Nat.le_of_ble_eq_true h1, Nat.le_of_ble_eq_true h2, pvb_of n _ h3⟩
theorem pKy_ok : ∀ k : Fin 28, pvb 7 (pKy k.val) = true ∧ pKy k.val ≠ 0 := by decide +kernel
theorem pKy_v {k : Nat} (h : k < 28) : pvl 7 (pKy k) ∧ pKy k ≠ 0 := ⟨pvb_of _ _ (pKy_ok ⟨k, h⟩).1, (pKy_ok ⟨k, h⟩).2⟩
theorem pKy_inj0 : ∀ j k : Fin 28, pKy j.val = pKy k.val → j = k := by decide +kernel
theorem pKy_inj {j k : Nat} (hj : j < 28) (hk : k < 28) (h : pKy j = pKy k) : j = k := congrArg Fin.val (pKy_inj0 ⟨j, hj⟩ ⟨k, hk⟩ h)
theorem pIdx_succ (n x : Nat) : pIdx (n + 1) x = if pIdx n x ≠ 28 then pIdx n x else if pKy n = x then n else 28 := rfl
theorem pIdx_lt : ∀ (n x : Nat), pIdx n x ≠ 28 → pIdx n x < n ∧ pKy (pIdx n x) = x
  | 0, x, h => absurd rfl h
  | n + 1, x, h => by
    rw [pIdx_succ] at h ⊢
    by_cases q : pIdx n x ≠ 28
    · rw [if_pos q]
      have := pIdx_lt n x q
      exact ⟨by omega, this.2⟩
    · rw [if_neg q] at h ⊢
      by_cases q2 : pKy n = x
      · rw [if_pos q2]; exact ⟨by omega, q2⟩
      · rw [if_neg q2] at h; exact absurd rfl h
theorem pIdx_of {x k : Nat} (hk : k < 28) (h : pKy k = x) : ∀ n, n ≤ 28 → k < n → pIdx n x = k
  | 0, _, h2 => by omega
  | n + 1, h1, h2 => by
    rw [pIdx_succ]
    by_cases e : k = n
    · have h28 : ¬ pIdx n x ≠ 28 := by
        intro q
        obtain ⟨a1, a2⟩ := pIdx_lt n x q
        have := pKy_inj (by omega) hk (a2.trans h.symm)
        omega
      rw [if_neg h28, ← e, if_pos h]
    · rw [pIdx_of hk h n (by omega) (by omega), if_pos (by omega)]
theorem pIdx_iff {x k : Nat} (hk : k < 28) : pIdx 28 x = k ↔ pKy k = x :=
  ⟨fun e => by have := pIdx_lt 28 x (by omega); rw [e] at this; exact this.2, fun e => pIdx_of hk e 28 (by omega) hk⟩
/-- the reference's words -/
theorem pm_wordOf0 : ∀ j : Fin 28, f_X12_wordOf (zn j.val) = some (zq (pcv 7 (pKy (pSg j.val)))) := by decide +kernel
theorem pSg_lt0 : ∀ j : Fin 28, pSg j.val < 28 := by decide +kernel
theorem pm_wordOf {j : Nat} (h : j < 28) : f_X12_wordOf (zn j) = some (zq (pcv 7 (pKy (pSg j)))) := pm_wordOf0 ⟨j, h⟩
theorem pSg_lt {j : Nat} (h : j < 28) : pSg j < 28 := pSg_lt0 ⟨j, h⟩
theorem pSg_sur : ∀ k : Fin 28, ∃ j : Fin 28, pSg j.val = k.val := by decide +kernel
theorem p32 : 32 ^ 7 = 34359738368 := by decide
theorem pm_word_eq {x j : Nat} (hx : pvl 7 x) (hj : j < 28) : (zq (pcv 7 x) = zq (pcv 7 (pKy (pSg j)))) ↔ pIdx 28 x = pSg j := by
  have hs := pSg_lt hj
  have e := pNm_eq0 hx (pKy_v hs).1
  have a1 := pvl_lt 7 x hx
  have a2 := pvl_lt 7 _ (pKy_v hs).1
  have c1 := p32
  rw [zq_eq (by omega) (by omega)] at e
  rw [← e, pIdx_iff hs]
  exact eq_comm
theorem pm_isWord {M : MoT} {x j : Nat} (hx : pvl 7 x) (hk : Mo_kind M = 2) (hw : Mo_word M = zq (pcv 7 x)) (hj : j < 28) : f_X12_isWord M (zn j) = some (if pIdx 28 x = pSg j then 1 else 0) := by
  unfold f_X12_isWord f_X12_isWord_b24
  have e := pm_word_eq hx hj
  rw [if_pos hk, pm_wordOf hj, ob_eq, hw]
  simp only [lg_eq0]
  by_cases q : pIdx 28 x = pSg j
  · rw [if_pos q, if_pos (e.mpr q)]
  · rw [if_neg q, if_neg (fun z => q (e.mp z))]
theorem pm_isWordN {M : MoT} (hk : Mo_kind M ≠ 2) (j : Int32) : f_X12_isWord M j = some 0 := by
  unfold f_X12_isWord f_X12_isWord_b24
  rw [if_neg hk]
theorem pm_isName_loop {M : MoT} {x : Nat} (hx : pvl 7 x) (hw : Mo_word M = zq (pcv 7 x)) : ∀ (d : Nat) {j fu : Nat}, j + d = 28 → d + 1 ≤ fu → (pIdx 28 x = 28 ∨ ∃ i, j ≤ i ∧ i < 28 ∧ pIdx 28 x = pSg i) → f_X12_isName_L12 M fu (zn j) = some (if pIdx 28 x = 28 then 1 else 0)
  | d, j, 0, h1, h2, h3 => by omega
  | 0, j, fu + 1, h1, h2, h3 => by
    show f_X12_isName_H12 M (f_X12_isName_L12 M fu) (zn j) = _
    unfold f_X12_isName_H12
    rw [if_pos (show (27 : Int32) < zn j by rw [zn_l27, zn_lt (by omega) (by omega)]; omega)]
    rcases h3 with h3 | ⟨i, i1, i2, -⟩
    · rw [if_pos h3]
    · omega
  | d + 1, j, fu + 1, h1, h2, h3 => by
    show f_X12_isName_H12 M (f_X12_isName_L12 M fu) (zn j) = _
    unfold f_X12_isName_H12
    have e := pm_word_eq hx (j := j) (by omega)
    have hs := pSg_lt (j := j) (by omega)
    rw [if_neg (show ¬ (27 : Int32) < zn j by rw [zn_l27, zn_lt (by omega) (by omega)]; omega), pm_wordOf (by omega), ob_eq, hw]
    simp only [lg_eq0]
    by_cases q : pIdx 28 x = pSg j
    · rw [if_pos (e.mpr q), if_neg (by omega)]
    · rw [if_neg (fun z => q (e.mp z)), show zn j + 1 = zn (j + 1) from zn_add j 1]
      refine pm_isName_loop hx hw d (j := j + 1) (by omega) (by omega) ?_
      rcases h3 with h3 | ⟨i, i1, i2, i3⟩
      · exact Or.inl h3
      · right
        by_cases y : i = j
        · rw [y] at i3; exact absurd i3 q
        · exact ⟨i, by omega, i2, i3⟩
theorem pm_isName {M : MoT} {x : Nat} (hx : pvl 7 x) (hk : Mo_kind M = 2) (hw : Mo_word M = zq (pcv 7 x)) : f_X12_isName M = some (if pIdx 28 x = 28 then 1 else 0) := by
  unfold f_X12_isName
  rw [if_pos hk]
  refine pm_isName_loop hx hw 28 (j := 0) (fu := zFU) (by omega) (zFU_ge (by omega)) ?_
  by_cases q : pIdx 28 x = 28
  · exact Or.inl q
  · right
    have hl := (pIdx_lt 28 x q).1
    generalize pIdx 28 x = y at hl
    obtain ⟨j, hj⟩ := pSg_sur ⟨y, hl⟩
    exact ⟨j.val, Nat.zero_le _, j.isLt, hj.symm⟩
theorem pm_isNameN {M : MoT} (hk : Mo_kind M ≠ 2) : f_X12_isName M = some 0 := by
  unfold f_X12_isName
  rw [if_neg hk]
/-- the class's search -/
theorem pc_key_loop {R : RdT} {x : Nat} (hx : pvl 7 x) (hn : Rd_name R = zq x) (hk : ∀ k, k < 28 → Rd_keys R k = zq (pKy k)) : ∀ (d : Nat) {j fu : Nat}, j + d = 28 → d + 1 ≤ fu → pIdx j x = 28 → Rd_kind R = 3 → f_X7_readRun_L139 fu R (zn j) = some (if pIdx 28 x = 28 then R else Rd_s_kind (Rd_s_key R (zn (pIdx 28 x))) 2)
  | d, j, 0, h1, h2, h3, h4 => by omega
  | 0, j, fu + 1, h1, h2, h3, h4 => by
    show f_X7_readRun_H139 R (f_X7_readRun_L139 fu) (zn j) = _
    unfold f_X7_readRun_H139
    have e : j = 28 := by omega
    subst e
    rw [if_neg (show ¬ zn 28 < (28 : Int32) by decide), if_pos h3]
  | d + 1, j, fu + 1, h1, h2, h3, h4 => by
    show f_X7_readRun_H139 R (f_X7_readRun_L139 fu) (zn j) = _
    unfold f_X7_readRun_H139 f_X7_readRun_b177
    have hv := (pKy_v (k := j) (by omega)).1
    have a1 := pvl_lt 7 x hx
    have a2 := pvl_lt 7 _ hv
    have c1 := p32
    rw [if_pos (show zn j < (28 : Int32) by rw [zn_l28, zn_lt (by omega) (by omega)]; omega), if_pos h4]
    simp (disch := omega) only [zb_zn, zn_nat, if_true, hk, hn, zq_cmp0, zl_eq]
    rw [show zn j + 1 = zn (j + 1) from zn_add j 1]
    by_cases q : pKy j = x
    · rw [if_pos q]
      have e := (pIdx_iff (x := x) (k := j) (by omega)).mpr q
      rw [e, if_neg (by omega)]
      cases fu with
      | zero => omega
      | succ fu =>
        show f_X7_readRun_H139 (Rd_s_kind (Rd_s_key R (zn j)) 2) (f_X7_readRun_L139 fu) (zn (j + 1)) = _
        unfold f_X7_readRun_H139
        rw [show Rd_kind (Rd_s_kind (Rd_s_key R (zn j)) 2) = 2 from rfl, if_neg (show ¬ (2 : Int32) = 3 by decide), ite_self]
    · rw [if_neg q]
      refine pc_key_loop hx hn hk d (j := j + 1) (by omega) (by omega) ?_ h4
      rw [pIdx_succ, if_neg (by omega), if_neg q]
