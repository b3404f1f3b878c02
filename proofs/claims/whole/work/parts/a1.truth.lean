/-! SENTENCES: what a ONE says of a man -/
def pCmp (n s v : Nat) : Bool := if s = 60 then decide (zn n < zn v) else if s = 61 then decide (zn n = zn v) else decide (zn v < zn n)
/-- ONE of the word w (the reference's number), its sign, its number or place -/
def pLf (D : pD) (F : pF) (m w s v : Nat) : Bool :=
  if w ≤ 20 then decide (zn (pF_o F m 0) = zn (w - 15)) else if w = 21 then decide (pD_me D m 3 = 1) else if w = 22 then decide (zo (pF_o F m 3) = zn v) else if w = 23 then decide (pF_o F m 0 ≤ 2 ∧ pF_o F m 13 = 0 ∧ zn (pF_o F m 12) = zn v) else if w = 24 then pCmp (pF_o F m 1) s v else if w = 25 then pCmp (if pF_o F m 0 = 1 then pF_o F m 7 else 0) s v else if w = 26 then pCmp (pF_o F m 11) s v else pCmp m s v
/-- one part worked out -/
def pSt3 (t : Bool) (o x : Nat) : Nat := if o = 1 then x / 2 * 2 + (1 - x % 2) else if o = 2 then (if x % 2 = 1 then x / 2 else x / 2 / 2 * 2) else if o = 3 then (if x % 2 = 1 then x / 2 / 2 * 2 + 1 else x / 2) else 2 * x + (if t = true then 1 else 0)
def pRn3 (D : pD) (F : pF) (m : Nat) (ko so vo : Nat → Nat) : Nat → Nat → Nat → Nat
  | 0, _, x => x
  | c + 1, k, x => pRn3 D F m ko so vo c (k + 1) (pSt3 (pLf D F m (ko k - 50) (so k) (vo k)) (ko k) x)
theorem pRn3_add (D : pD) (F : pF) (m : Nat) (ko so vo : Nat → Nat) : ∀ (c d k x : Nat), pRn3 D F m ko so vo (c + d) k x = pRn3 D F m ko so vo d (k + c) (pRn3 D F m ko so vo c k x)
  | 0, d, k, x => by rw [Nat.zero_add]; rfl
  | c + 1, d, k, x => by
    rw [show c + 1 + d = (c + d) + 1 by omega]
    show pRn3 D F m ko so vo (c + d) (k + 1) _ = pRn3 D F m ko so vo d (k + (c + 1)) (pRn3 D F m ko so vo c (k + 1) _)
    rw [pRn3_add D F m ko so vo c d (k + 1), show k + 1 + c = k + (c + 1) by omega]
theorem pRn3_cg (D : pD) (F : pF) (m : Nat) {ko so vo ko' so' vo' : Nat → Nat} : ∀ (c k x : Nat), (∀ i, k ≤ i → i < k + c → ko i = ko' i ∧ so i = so' i ∧ vo i = vo' i) → pRn3 D F m ko so vo c k x = pRn3 D F m ko' so' vo' c k x
  | 0, k, x, h => rfl
  | c + 1, k, x, h => by
    obtain ⟨e1, e2, e3⟩ := h k (Nat.le_refl _) (by omega)
    show pRn3 D F m ko so vo c (k + 1) _ = pRn3 D F m ko' so' vo' c (k + 1) _
    rw [e1, e2, e3]
    exact pRn3_cg D F m c (k + 1) _ (fun i h1 h2 => h i (by omega) (by omega))
/-- the class's number of what a part is -/
def pKo (o : Nat) : Nat := if o = 1 then 15 else if o = 2 then 14 else if o = 3 then 13 else pSg (o - 50)
/-- a part: not, and, or; or a ONE -/
def pOk3 (o v : Nat) : Prop := (o = 1 ∨ o = 2 ∨ o = 3 ∨ (65 ≤ o ∧ o ≤ 77)) ∧ v < 1000
/-- the class's phrase as told by numbers, p parts -/
def pPh (P : PhT) (ko so vo : Nat → Nat) (p : Nat) : Prop := Ph_parts P = zn p ∧ p ≤ 40 ∧ ∀ i, i < p → pOk3 (ko i) (vo i) ∧ so i < 128 ∧ Ph_keys P i = zn (pKo (ko i)) ∧ Ph_signs P i = zn (so i) ∧ Ph_values P i = zn (vo i)
theorem zn_x1 (x : Nat) : zn x ^^^ (1 : Int32) = zn (x / 2 * 2 + (1 - x % 2)) := by
  have e : x ^^^ 1 = x / 2 * 2 + (1 - x % 2) := by
    have h1 := Nat.xor_div_two (a := x) (b := 1)
    have h2 := Nat.xor_mod_two_pow (n := 1) (a := x) (b := 1)
    rw [show (2 : Nat) ^ 1 = 2 from rfl] at h2
    rw [show 1 / 2 = 0 from rfl, Nat.xor_zero] at h1
    have : x % 2 = 0 ∨ x % 2 = 1 := by omega
    rcases this with q | q
    · rw [q, show (0 ^^^ 1 % 2) = 1 from rfl] at h2; omega
    · rw [q, show (1 ^^^ 1 % 2) = 0 from rfl] at h2; omega
  rw [← e]
  apply Int32.toBitVec_inj.mp
  rw [Int32.toBitVec_xor]
  exact (BitVec.ofNat_xor (w := 32) (x := x) (y := 1)).symm
theorem zn_m2 {x : Nat} (h : x < 4294967296) : zn x &&& (-2 : Int32) = zn (x / 2 * 2) := by
  have e : x &&& 4294967294 = x / 2 * 2 := by
    have h1 := Nat.and_div_two (a := x) (b := 4294967294)
    have h2 := Nat.and_mod_two_pow (n := 1) (a := x) (b := 4294967294)
    rw [show (2 : Nat) ^ 1 = 2 from rfl, show 4294967294 % 2 = 0 from rfl, Nat.and_zero] at h2
    rw [show 4294967294 / 2 = 2 ^ 31 - 1 from rfl, Nat.and_two_pow_sub_one_eq_mod] at h1
    omega
  rw [← e, ← zn_and]
  rfl
theorem zn_o1 (x t : Nat) (ht : t ≤ 1) : zn x ||| zn t = zn (if t = 1 then x / 2 * 2 + 1 else x) := by
  have e : x ||| t = (if t = 1 then x / 2 * 2 + 1 else x) := by
    by_cases q : t = 1
    · rw [if_pos q, q]
      have h1 := Nat.or_div_two (a := x) (b := 1)
      have h2 := Nat.or_mod_two_pow (n := 1) (a := x) (b := 1)
      rw [show (2 : Nat) ^ 1 = 2 from rfl] at h2
      rw [show 1 / 2 = 0 from rfl, Nat.or_zero] at h1
      have : x % 2 = 0 ∨ x % 2 = 1 := by omega
      rcases this with q | q
      · rw [q, show (0 ||| 1 % 2) = 1 from rfl] at h2; omega
      · rw [q, show (1 ||| 1 % 2) = 1 from rfl] at h2; omega
    · rw [if_neg q, show t = 0 by omega, Nat.or_zero]
  rw [zn_or, e]
theorem zn_dbl (x : Nat) : zr_shl (zn x) (1 : Int32) = zn (2 * x) := by
  unfold zr_shl
  apply Int32.toBitVec_inj.mp
  apply BitVec.eq_of_toNat_eq
  show ((BitVec.ofNat 32 x) <<< (((1 : Int32) &&& 31).toBitVec.smod 32)).toNat = (BitVec.ofNat 32 (2 * x)).toNat
  rw [show (((1 : Int32) &&& 31).toBitVec.smod 32) = 1#32 from by decide +kernel]
  show ((BitVec.ofNat 32 x) <<< 1).toNat = _
  rw [BitVec.toNat_shiftLeft, BitVec.toNat_ofNat, BitVec.toNat_ofNat, Nat.shiftLeft_eq]
  omega
theorem zn_half {x : Nat} (h : x < 2147483648) : zr_shr (zn x) (1 : Int32) = zn (x / 2) := zn_shr (k := 1) h (by omega)
theorem zn_low (x : Nat) : zn x &&& (1 : Int32) = zn (x % 2) := by rw [zn_l1, zn_and, Nat.and_one_is_mod]
section
variable {D : pD} {L : LdT} {F : pF} {K : FkT}
theorem pc_justAt (hv : pV D) (hK : pFc D F K) (hV : pFv D F) {k p : Nat} (hk : k < pD_nm D) (hp : p < 2147483648) : f_X1_isJustAt K (zn k) (zn p) = some (if pF_o F k 0 ≤ 2 ∧ pF_o F k 13 = 0 ∧ zn (pF_o F k 12) = zn p then 1 else 0) := by
  have hMv := hV.2 k hk
  have h13 : pF_o F k 13 < 2147483648 ∨ pF_o F k 0 > 2 := by
    by_cases q0 : pF_o F k 0 = 0
    · left; rw [(hMv.2.2.2.2.1 q0).2.2.2]; omega
    · by_cases q1 : pF_o F k 0 = 1
      · left; have := ((hMv.mt q1).pos hv).2.2.2.2.1; omega
      · by_cases q2 : pF_o F k 0 = 2
        · left; rw [(hMv.2.2.2.2.2.2 q2).2]; omega
        · right; omega
  rcases h13 with h13 | h13
  · exact pc_isJustAt hv hK hk hMv.1.1 h13
  · unfold f_X1_isJustAt f_X1_isJustAt_b35
    rw [show f_X1_of K (zn k) 0 = some (zn (pF_o F k 0)) from pc_of0 hv hK hk, ob_eq, if_pos (show (2 : Int32) < zn (pF_o F k 0) by have := hMv.1.1; rw [zn_l2, zn_lt (by omega) (by omega)]; omega), if_neg (by omega)]
theorem pc_compares {P : PhT} {ko so vo : Nat → Nat} {p k : Nat} (hP : pPh P ko so vo p) (hk : k < p) (n : Nat) : f_X5_compares P (zn n) (zn k) = some (if pCmp n (so k) (vo k) = true then 1 else 0) := by
  obtain ⟨-, h40, h⟩ := hP
  obtain ⟨⟨-, h1⟩, h2, h3, h4, h5⟩ := h k hk
  unfold f_X5_compares pCmp
  simp only [zb_zn (show k < 40 by omega) (show k < 2147483648 by omega), if_true, zn_nat (show k < 2147483648 by omega), h4, h5, zn_l60, zn_l61, zn_eq (show so k < 2147483648 by omega) (show 60 < 2147483648 by omega), zn_eq (show so k < 2147483648 by omega) (show 61 < 2147483648 by omega)]
  by_cases q : so k = 60
  · rw [if_pos q, if_pos q]
    by_cases z : zn n < zn (vo k) <;> simp [z]
  · rw [if_neg q, if_neg q]
    by_cases q2 : so k = 61
    · rw [if_pos q2, if_pos q2]
      by_cases z : zn n = zn (vo k) <;> simp [z]
    · rw [if_neg q2, if_neg q2]
      by_cases z : zn (vo k) < zn n <;> simp [z]
theorem zb_bo_ite (c : Prop) [Decidable c] : zb_bo (if c then (1 : Int32) else 0) = true := by split <;> decide
theorem pc_isSo (hv : pV D) (hc : pLc D L) (hK : pFc D F K) (hV : pFv D F) {m : Nat} (hm : m < pD_nm D) {P : PhT} {ko so vo : Nat → Nat} {p k : Nat} (hP : pPh P ko so vo p) (hk : k < p) (ho : 65 ≤ ko k) : f_X5_isSo P L K (zn m) (zn k) = some (if pLf D F m (ko k - 50) (so k) (vo k) = true then 1 else 0) := by
  have hcmp := fun n => pc_compares hP hk n
  obtain ⟨-, h40, h⟩ := hP
  obtain ⟨⟨h0, h1⟩, h2, h3, h4, h5⟩ := h k hk
  have hme := (hv.me hm).2.2.2.2.2
  have h05 := (hV.2 m hm).1.1
  have ek : pKo (ko k) = pSg (ko k - 50) := by unfold pKo; rw [if_neg (by omega), if_neg (by omega), if_neg (by omega)]
  have hsg : ko k - 50 = 15 ∨ ko k - 50 = 16 ∨ ko k - 50 = 17 ∨ ko k - 50 = 18 ∨ ko k - 50 = 19 ∨ ko k - 50 = 20 ∨ ko k - 50 = 21 ∨ ko k - 50 = 22 ∨ ko k - 50 = 23 ∨ ko k - 50 = 24 ∨ ko k - 50 = 25 ∨ ko k - 50 = 26 ∨ ko k - 50 = 27 := by omega
  unfold f_X5_isSo
  rw [zb_zn (show k < 40 by omega) (by omega), if_pos rfl, zn_nat (by omega), h3, ek]
  generalize ko k - 50 = w at hsg
  have state : ∀ w, 15 ≤ w → w ≤ 20 → (if zn (w + 1) < (16 : Int32) then f_X5_isSo_b43 P L K (zn m) (zn k) (zn (w + 1)) else if (21 : Int32) < zn (w + 1) then f_X5_isSo_b43 P L K (zn m) (zn k) (zn (w + 1)) else (f_X1_of K (zn m) (0 : Int32)).bind fun q19 => if q19 = zn (w + 1) - (16 : Int32) then some (1 : Int32) else some 0) = some (if pLf D F m w (so k) (vo k) = true then 1 else 0) := by
    intro w w1 w2
    rw [if_neg (by rw [zn_l16, zn_lt (by omega) (by omega)]; omega), if_neg (by rw [zn_l21, zn_lt (by omega) (by omega)]; omega), pc_of0 hv hK hm, ob_eq, show zn (w + 1) - (16 : Int32) = zn (w - 15) from by rw [zn_l16, zn_sub (by omega), show w + 1 - 16 = w - 15 by omega]]
    rw [show pLf D F m w (so k) (vo k) = decide (zn (pF_o F m 0) = zn (w - 15)) from if_pos w2]
    by_cases z : zn (pF_o F m 0) = zn (w - 15) <;> simp [z]
  have other : ∀ c : Nat, c < 16 ∨ 21 < c → c < 100 → (if zn c < (16 : Int32) then f_X5_isSo_b43 P L K (zn m) (zn k) (zn c) else if (21 : Int32) < zn c then f_X5_isSo_b43 P L K (zn m) (zn k) (zn c) else (f_X1_of K (zn m) (0 : Int32)).bind fun q19 => if q19 = zn c - (16 : Int32) then some (1 : Int32) else some 0) = f_X5_isSo_b43 P L K (zn m) (zn k) (zn c) := by
    intro c c1 c2
    by_cases z : c < 16
    · rw [if_pos (by rw [zn_l16, zn_lt (by omega) (by omega)]; exact z)]
    · rw [if_neg (by rw [zn_l16, zn_lt (by omega) (by omega)]; exact z), if_pos (by rw [zn_l21, zn_lt (by omega) (by omega)]; omega)]
  rcases hsg with rfl | rfl | rfl | rfl | rfl | rfl | rfl | rfl | rfl | rfl | rfl | rfl | rfl
  · exact state 15 (by omega) (by omega)
  · exact state 16 (by omega) (by omega)
  · exact state 17 (by omega) (by omega)
  · exact state 18 (by omega) (by omega)
  · exact state 19 (by omega) (by omega)
  · exact state 20 (by omega) (by omega)
  · refine (other 6 (by omega) (by omega)).trans ?_
    unfold f_X5_isSo_b43
    rw [if_pos (show zn 6 = (6 : Int32) from rfl), show f_X3_ofMan L (zn m) (3 : Int32) = some (zn (pD_me D m 3)) from pc_ofMan (k := 3) hv hc hm (by omega), ob_eq]
    rw [show pLf D F m 21 (so k) (vo k) = decide (pD_me D m 3 = 1) from rfl, zn_l1, ifn_eq (by omega) (by omega)]
    by_cases z : pD_me D m 3 = 1 <;> simp [z] <;> rfl
  · refine (other 22 (by omega) (by omega)).trans ?_
    unfold f_X5_isSo_b43
    rw [if_neg (show ¬ zn 22 = (6 : Int32) by decide), if_pos (show zn 22 = (22 : Int32) from rfl), pc_of3 hv hK hm, ob_eq, zb_zn (show k < 40 by omega) (by omega), if_pos rfl, zn_nat (by omega), h5]
    rw [show pLf D F m 22 (so k) (vo k) = decide (zo (pF_o F m 3) = zn (vo k)) from rfl]
    by_cases z : zo (pF_o F m 3) = zn (vo k) <;> simp [z]
  · refine (other 23 (by omega) (by omega)).trans ?_
    unfold f_X5_isSo_b43
    rw [if_neg (show ¬ zn 23 = (6 : Int32) by decide), if_neg (show ¬ zn 23 = (22 : Int32) by decide), if_pos (show zn 23 = (23 : Int32) from rfl), zb_zn (show k < 40 by omega) (by omega), if_pos rfl, zn_nat (by omega), h5, pc_justAt hv hK hV hm (by omega), ob_eq, zb_bo_ite, if_pos rfl]
    rw [show pLf D F m 23 (so k) (vo k) = decide (pF_o F m 0 ≤ 2 ∧ pF_o F m 13 = 0 ∧ zn (pF_o F m 12) = zn (vo k)) from rfl]
    simp only [decide_eq_true_eq]
  · refine (other 24 (by omega) (by omega)).trans ?_
    unfold f_X5_isSo_b43
    rw [if_neg (show ¬ zn 24 = (6 : Int32) by decide), if_neg (show ¬ zn 24 = (22 : Int32) by decide), if_neg (show ¬ zn 24 = (23 : Int32) by decide), if_pos (show zn 24 = (24 : Int32) from rfl), show f_X1_of K (zn m) (1 : Int32) = some (zn (pF_o F m 1)) from pc_of1 hv hK hm, ob_eq, hcmp, ob_eq, zb_bo_ite, if_pos rfl]
    rfl
  · refine (other 25 (by omega) (by omega)).trans ?_
    unfold f_X5_isSo_b43
    have e : f_X1_daysYet K (zn m) = some (zn (if pF_o F m 0 = 1 then pF_o F m 7 else 0)) := by
      rw [pc_daysYet hv hK hm h05]; split <;> rfl
    rw [if_neg (show ¬ zn 25 = (6 : Int32) by decide), if_neg (show ¬ zn 25 = (22 : Int32) by decide), if_neg (show ¬ zn 25 = (23 : Int32) by decide), if_neg (show ¬ zn 25 = (24 : Int32) by decide), if_pos (show zn 25 = (25 : Int32) from rfl), e, ob_eq, hcmp, ob_eq, zb_bo_ite, if_pos rfl]
    rfl
  · refine (other 26 (by omega) (by omega)).trans ?_
    unfold f_X5_isSo_b43
    rw [if_neg (show ¬ zn 26 = (6 : Int32) by decide), if_neg (show ¬ zn 26 = (22 : Int32) by decide), if_neg (show ¬ zn 26 = (23 : Int32) by decide), if_neg (show ¬ zn 26 = (24 : Int32) by decide), if_neg (show ¬ zn 26 = (25 : Int32) by decide), if_pos (show zn 26 = (26 : Int32) from rfl), show f_X1_of K (zn m) (10 : Int32) = some (zn (pF_o F m 11)) from pc_of10 hv hK hm, ob_eq, hcmp, ob_eq, zb_bo_ite, if_pos rfl]
    rfl
  · refine (other 27 (by omega) (by omega)).trans ?_
    unfold f_X5_isSo_b43
    rw [if_neg (show ¬ zn 27 = (6 : Int32) by decide), if_neg (show ¬ zn 27 = (22 : Int32) by decide), if_neg (show ¬ zn 27 = (23 : Int32) by decide), if_neg (show ¬ zn 27 = (24 : Int32) by decide), if_neg (show ¬ zn 27 = (25 : Int32) by decide), if_neg (show ¬ zn 27 = (26 : Int32) by decide), hcmp, ob_eq, zb_bo_ite, if_pos rfl]
    rfl
/-- the ONES among the first n parts -/
def pOnes (ko : Nat → Nat) (n : Nat) : Nat := pCnt (fun i => decide (50 ≤ ko i)) n
theorem pc_holds_loop (hv : pV D) (hc : pLc D L) (hK : pFc D F K) (hV : pFv D F) {m : Nat} (hm : m < pD_nm D) {P : PhT} {ko so vo : Nat → Nat} {p : Nat} (hP : pPh P ko so vo p) (h20 : pOnes ko p ≤ 20) : ∀ (d : Nat) {k fu x : Nat}, k + d = p → d + 1 ≤ fu → x < 2 ^ (pOnes ko k + 1) →
    f_X5_holds_L6 P L K fu (zn m) (zn x) (zn k) = some (if pRn3 D F m ko so vo d k x % 2 = 1 then 1 else 0) := by
  have hp40 := hP.2.1
  have mono : ∀ k d, k + d = p → pOnes ko k ≤ 20 := by
    intro k d hd
    have : ∀ d k, pOnes ko k ≤ pOnes ko (k + d) := by
      intro d
      induction d with
      | zero => intro k; exact Nat.le_refl _
      | succ d ih =>
        intro k
        have h1 := ih k
        have h2 : pOnes ko (k + (d + 1)) = pOnes ko (k + d) + (if decide (50 ≤ ko (k + d)) = true then 1 else 0) := rfl
        omega
    have := this d k
    rw [hd] at this
    omega
  intro d
  induction d with
  | zero =>
    intro k fu x h1 h2 h3
    have h5 := mono k 0 h1
    have h4 : 2 ^ (pOnes ko k + 1) ≤ 2 ^ 21 := Nat.pow_le_pow_right (by omega) (by omega)
    cases fu with
    | zero => omega
    | succ fu =>
      show f_X5_holds_H6 P L K (f_X5_holds_L6 P L K fu) (zn m) (zn x) (zn k) = _
      unfold f_X5_holds_H6
      rw [hP.1, if_neg (by rw [zn_lt (by omega) (by omega)]; omega), zn_low, zn_l1, ifn_eq (by omega) (by omega)]
      show (if x % 2 = 1 then _ else _) = some (if x % 2 = 1 then _ else _)
      by_cases z : x % 2 = 1 <;> simp [z] <;> rfl
  | succ d ih =>
    intro k fu x h1 h2 h3
    have hkp : k < p := by omega
    obtain ⟨⟨h0, h1000⟩, h2', hkey, h4', h5'⟩ := hP.2.2 k hkp
    have h5 := mono k (d + 1) h1
    have h6 := mono (k + 1) d (by omega)
    have h4 : 2 ^ (pOnes ko k + 1) ≤ 2 ^ 21 := Nat.pow_le_pow_right (by omega) (by omega)
    have hon : pOnes ko (k + 1) = pOnes ko k + (if decide (50 ≤ ko k) = true then 1 else 0) := rfl
    have hpow : 2 ^ (pOnes ko k + 1) = 2 * 2 ^ pOnes ko k := by rw [Nat.pow_succ, Nat.mul_comm]
    have hpow2 : 2 ^ (pOnes ko k + 2) = 2 * 2 ^ (pOnes ko k + 1) := by rw [Nat.pow_succ 2 (pOnes ko k + 1), Nat.mul_comm]
    cases fu with
    | zero => omega
    | succ fu =>
      have go := fun y hy => ih (k := k + 1) (fu := fu) (x := y) (by omega) (by omega) hy
      show f_X5_holds_H6 P L K (f_X5_holds_L6 P L K fu) (zn m) (zn x) (zn k) = some (if pRn3 D F m ko so vo d (k + 1) (pSt3 (pLf D F m (ko k - 50) (so k) (vo k)) (ko k) x) % 2 = 1 then 1 else 0)
      unfold f_X5_holds_H6 f_X5_holds_b127 f_X5_holds_b74 f_X5_holds_b124 f_X5_holds_b127
      rw [hP.1, if_pos (by rw [zn_lt (by omega) (by omega)]; exact hkp), zb_zn (show k < 40 by omega) (by omega), if_pos rfl, if_pos rfl, if_pos rfl, zn_nat (by omega), hkey, show zn k + 1 = zn (k + 1) from zn_add k 1]
      rcases h0 with h0 | h0 | h0 | ⟨h0, h0'⟩
      · have e : pKo (ko k) = 15 := by unfold pKo; rw [if_pos h0]
        have es : pSt3 (pLf D F m (ko k - 50) (so k) (vo k)) (ko k) x = x / 2 * 2 + (1 - x % 2) := by unfold pSt3; rw [if_pos h0]
        have ho : pOnes ko (k + 1) = pOnes ko k := by rw [hon, h0]; rfl
        rw [e, if_pos (show zn 15 = (15 : Int32) from rfl), zn_x1, es]
        exact go _ (by rw [ho]; omega)
      · have e : pKo (ko k) = 14 := by unfold pKo; rw [if_neg (by omega), if_pos h0]
        have es : pSt3 (pLf D F m (ko k - 50) (so k) (vo k)) (ko k) x = (if x % 2 = 1 then x / 2 else x / 2 / 2 * 2) := by unfold pSt3; rw [if_neg (by omega), if_pos h0]
        have ho : pOnes ko (k + 1) = pOnes ko k := by rw [hon, h0]; rfl
        rw [e, if_neg (show ¬ zn 14 = (15 : Int32) by decide), if_pos (show zn 14 = (14 : Int32) from rfl), zn_low, zn_half (by omega), zn_m2 (by omega), es, zn_l1, ifn_eq (by omega) (by omega)]
        by_cases z : x % 2 = 1
        · rw [if_pos z, if_pos z]; exact go _ (by rw [ho]; omega)
        · rw [if_neg z, if_neg z]; exact go _ (by rw [ho]; omega)
      · have e : pKo (ko k) = 13 := by unfold pKo; rw [if_neg (by omega), if_neg (by omega), if_pos h0]
        have es : pSt3 (pLf D F m (ko k - 50) (so k) (vo k)) (ko k) x = (if x % 2 = 1 then x / 2 / 2 * 2 + 1 else x / 2) := by unfold pSt3; rw [if_neg (by omega), if_neg (by omega), if_pos h0]
        have ho : pOnes ko (k + 1) = pOnes ko k := by rw [hon, h0]; rfl
        rw [e, if_neg (show ¬ zn 13 = (15 : Int32) by decide), if_neg (show ¬ zn 13 = (14 : Int32) by decide), if_pos (show zn 13 = (13 : Int32) from rfl), zn_low, zn_half (by omega), zn_o1 _ _ (by omega), es]
        exact go _ (by rw [ho]; split <;> omega)
      · have e : pKo (ko k) ≠ 15 ∧ pKo (ko k) ≠ 14 ∧ pKo (ko k) ≠ 13 ∧ pKo (ko k) < 100 := by
          unfold pKo
          rw [if_neg (by omega), if_neg (by omega), if_neg (by omega)]
          have : ∀ o : Fin 13, pSg (o.val + 15) ≠ 15 ∧ pSg (o.val + 15) ≠ 14 ∧ pSg (o.val + 15) ≠ 13 ∧ pSg (o.val + 15) < 100 := by decide +kernel
          have := this ⟨ko k - 65, by omega⟩
          rwa [show (⟨ko k - 65, by omega⟩ : Fin 13).val + 15 = ko k - 50 from by show ko k - 65 + 15 = ko k - 50; omega] at this
        have es : pSt3 (pLf D F m (ko k - 50) (so k) (vo k)) (ko k) x = 2 * x + (if pLf D F m (ko k - 50) (so k) (vo k) = true then 1 else 0) := by unfold pSt3; rw [if_neg (by omega), if_neg (by omega), if_neg (by omega)]
        have ho : pOnes ko (k + 1) = pOnes ko k + 1 := by rw [hon, if_pos (by simp; omega)]
        rw [if_neg (show ¬ zn (pKo (ko k)) = (15 : Int32) by rw [zn_l15, zn_eq (by omega) (by omega)]; exact e.1), if_neg (show ¬ zn (pKo (ko k)) = (14 : Int32) by rw [zn_l14, zn_eq (by omega) (by omega)]; exact e.2.1), if_neg (show ¬ zn (pKo (ko k)) = (13 : Int32) by rw [zn_l13, zn_eq (by omega) (by omega)]; exact e.2.2.1), pc_isSo hv hc hK hV hm hP hkp h0, ob_eq, zn_dbl, es]
        have hx2 : 2 * x / 2 * 2 = 2 * x := by omega
        by_cases z : pLf D F m (ko k - 50) (so k) (vo k) = true
        · rw [if_pos z, if_neg (show ¬ (1 : Int32) = 0 by decide), if_pos z, zn_l1, zn_o1 _ 1 (by omega), if_pos rfl, hx2]
          exact go _ (by rw [ho]; omega)
        · rw [if_neg z, if_pos rfl, if_neg z, zn_l0, zn_o1 _ 0 (by omega), if_neg (by omega)]
          exact go _ (by rw [ho]; omega)
theorem pc_holds (hv : pV D) (hc : pLc D L) (hK : pFc D F K) (hV : pFv D F) {m : Nat} (hm : m < pD_nm D) {P : PhT} {ko so vo : Nat → Nat} {p : Nat} (hP : pPh P ko so vo p) (h20 : pOnes ko p ≤ 20) : f_X5_holds P L K (zn m) = some (if pRn3 D F m ko so vo p 0 0 % 2 = 1 then 1 else 0) := by
  have hp40 := hP.2.1
  exact pc_holds_loop hv hc hK hV hm hP h20 p (k := 0) (fu := zFU) (x := 0) (by omega) (zFU_ge (by omega)) (Nat.pow_pos (by omega))
end
