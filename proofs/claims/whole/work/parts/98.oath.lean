/-! writing an oath -/
theorem zq_ushr {x : Nat} (hx : x < 9223372036854775808) (s : Fin 64) : zr_ushrl (zq x) (zn s.val) = zq (x / 2 ^ s.val) := by
  have hy : ((zn s.val).toInt64.toUInt64 &&& Int64.toUInt64 63) = UInt64.ofNat s.val := by revert s; decide +kernel
  unfold zr_ushrl
  rw [hy]
  have h1 : (zq x).toUInt64 = UInt64.ofNat x := rfl
  rw [h1]
  apply Int64.toBitVec_inj.mp
  apply BitVec.eq_of_toNat_eq
  have e : (UInt64.ofNat x >>> UInt64.ofNat s.val).toNat = x / 2 ^ s.val := by
    rw [UInt64.toNat_shiftRight, UInt64.toNat_ofNat_of_lt' (by show x < 18446744073709551616; omega), UInt64.toNat_ofNat_of_lt' (by show s.val < 18446744073709551616; omega), Nat.mod_eq_of_lt s.isLt, Nat.shiftRight_eq_div_pow]
  have e2 : (zq (x / 2 ^ s.val)).toBitVec.toNat = x / 2 ^ s.val := by
    show (BitVec.ofNat 64 (x / 2 ^ s.val)).toNat = _
    rw [BitVec.toNat_ofNat, Nat.mod_eq_of_lt]
    have := Nat.div_le_self x (2 ^ s.val)
    show x / 2 ^ s.val < 18446744073709551616
    omega
  rw [e2, ← e]; rfl
theorem zq_and31 (y : Nat) : (zq y).toInt32 &&& (31 : Int32) = zn (y % 32) := by
  apply Int32.toBitVec_inj.mp
  apply BitVec.eq_of_toNat_eq
  rw [Int32.toBitVec_and, BitVec.toNat_and]
  have h1 : (zq y).toInt32.toBitVec.toNat = y % 4294967296 := by
    show ((BitVec.ofNat 64 y).signExtend 32).toNat = _
    rw [BitVec.signExtend_eq_setWidth_of_le _ (by omega), BitVec.toNat_setWidth, BitVec.toNat_ofNat]
    omega
  have h2 : (zn (y % 32)).toBitVec.toNat = y % 32 := by
    show (BitVec.ofNat 32 (y % 32)).toNat = _
    rw [BitVec.toNat_ofNat]; omega
  rw [h1, h2]
  have h3 : (31 : Int32).toBitVec.toNat = 2 ^ 5 - 1 := rfl
  rw [h3, Nat.and_two_pow_sub_one_eq_mod]; omega
theorem pc_chr : ∀ c : Fin 128, vp_nar .byte (zn c.val).toInt8.toInt32 = zn c.val := by decide +kernel
/-- a text so far: the class, the reference -/
def pTc (A : List Nat) (S : ScT) : Prop := A.length ≤ 32 ∧ Sc_length S = zn A.length ∧ ∀ i, i < A.length → Sc_text S i = zn (A.getD i 0)
def pX (M : MoT) (t : Nat → Int32) (n : Int32) : MoT := Mo_s_texts (Mo_s_text M t) n
theorem pX_texts (M : MoT) (t : Nat → Int32) (n : Int32) : Mo_texts (pX M t n) = n := by unfold pX Mo_texts Mo_s_texts; rfl
theorem pX_text (M : MoT) (t : Nat → Int32) (n : Int32) : Mo_text (pX M t n) = t := by unfold pX Mo_text Mo_s_texts Mo_s_text; rfl
theorem pX_s_texts (M : MoT) (t : Nat → Int32) (n n' : Int32) : Mo_s_texts (pX M t n) n' = pX M t n' := by simp only [pX, Mo_s_texts, Mo_s_text]
theorem pX_s_text (M : MoT) (t t' : Nat → Int32) (n : Int32) : Mo_s_text (pX M t n) t' = pX M t' n := by simp only [pX, Mo_s_texts, Mo_s_text]
def pTm (A : List Nat) (M M' : MoT) : Prop := A.length ≤ 64 ∧ ∃ t, M' = pX M t (zn A.length) ∧ ∀ i, i < A.length → t i = zn (A.getD i 0)
theorem gD_last (A : List Nat) (c : Nat) {i : Nat} (h : i < (A ++ [c]).length) : (A ++ [c]).getD i 0 = if i = A.length then c else A.getD i 0 := by
  rw [List.length_append, List.length_singleton] at h
  by_cases q : i = A.length
  · rw [if_pos q, List.getD_eq_getElem?_getD, List.getElem?_append_right (by omega), q, Nat.sub_self]; rfl
  · rw [if_neg q, List.getD_eq_getElem?_getD, List.getElem?_append_left (by omega), ← List.getD_eq_getElem?_getD]
theorem pc_sign {A : List Nat} {S : ScT} (h : pTc A S) (hl : A.length < 32) {c : Nat} (hc : c < 128) : ∃ S', f_X8_sign S (zn c) = some S' ∧ pTc (A ++ [c]) S' := by
  obtain ⟨h1, h2, h3⟩ := h
  unfold f_X8_sign
  rw [h2, if_pos (by rw [zn_l32, zn_lt (by omega) (by omega)]; exact hl), zb_zn hl (by omega), if_pos rfl, zl_eq, zl_eq, zn_nat (by omega), pc_chr ⟨c, hc⟩]
  refine ⟨_, rfl, by rw [List.length_append]; exact hl, ?_, fun i hi => ?_⟩
  · show Sc_length S + 1 = _
    rw [h2, List.length_append]; exact zn_add _ 1
  · show upd (Sc_text S) A.length (zn c) i = _
    rw [gD_last A c hi]
    by_cases q : i = A.length
    · rw [if_pos q, q, pu_eq]
    · rw [List.length_append, List.length_singleton] at hi
      rw [if_neg q, pu_ne _ _ q]; exact h3 i (by omega)
theorem pm_writeX (M : MoT) (t : Nat → Int32) {l : Nat} (hl : l < 64) (c : Int32) : f_X12_write (pX M t (zn l)) c = some (pX M (upd t l c) (zn (l + 1))) := by
  unfold f_X12_write
  rw [pX_texts, pX_text, pX_s_text, zb_zn hl (by omega), if_pos rfl, zl_eq, zl_eq, zn_nat (by omega), pX_s_texts, pX_texts, show zn l + 1 = zn (l + 1) from zn_add l 1]
theorem pm_write {A : List Nat} {M M' : MoT} (h : pTm A M M') (hl : A.length < 64) (c : Nat) : ∃ M2, f_X12_write M' (zn c) = some M2 ∧ pTm (A ++ [c]) M M2 := by
  obtain ⟨h1, t, e, h3⟩ := h
  rw [e, pm_writeX M t hl]
  refine ⟨_, rfl, by rw [List.length_append]; exact hl, upd t A.length (zn c), by rw [List.length_append, List.length_singleton], fun i hi => ?_⟩
  rw [gD_last A c hi]
  by_cases q : i = A.length
  · rw [if_pos q, q, pu_eq]
  · rw [List.length_append, List.length_singleton] at hi
    rw [if_neg q, pu_ne _ _ q]; exact h3 i (by omega)
/-- the letters of a word -/
def pLs : Nat → Nat → List Nat
  | 0, _ => []
  | n + 1, x => if x = 0 then [] else pLs n (x / 32) ++ [96 + x % 32]
theorem pLs_len : ∀ n x, (pLs n x).length ≤ n
  | 0, x => Nat.le_refl _
  | n + 1, x => by
    simp only [pLs]
    split
    · exact Nat.zero_le _
    · rw [List.length_append, List.length_singleton]; exact Nat.succ_le_succ (pLs_len n _)
theorem pLs_zero (n : Nat) : pLs n 0 = [] := by
  cases n with
  | zero => rfl
  | succ n => rfl
/-- the class's way: from the first digit on -/
def pTop (x : Nat) : Nat → List Nat
  | 0 => []
  | k + 1 => (if x / 32 ^ k % 32 = 0 then [] else [96 + x / 32 ^ k % 32]) ++ pTop x k
theorem pTop_zero : ∀ k, pTop 0 k = []
  | 0 => rfl
  | k + 1 => by simp only [pTop]; rw [pTop_zero k, Nat.zero_div]; rfl
theorem pTop_down (x : Nat) : ∀ k, pTop x (k + 1) = pTop (x / 32) k ++ (if x % 32 = 0 then [] else [96 + x % 32])
  | 0 => by
    show (if x / 32 ^ 0 % 32 = 0 then [] else [96 + x / 32 ^ 0 % 32]) ++ pTop x 0 = _
    simp [pTop]
  | k + 1 => by
    have e : pTop x (k + 1 + 1) = (if x / 32 ^ (k + 1) % 32 = 0 then [] else [96 + x / 32 ^ (k + 1) % 32]) ++ pTop x (k + 1) := rfl
    have e2 : pTop (x / 32) (k + 1) = (if x / 32 / 32 ^ k % 32 = 0 then [] else [96 + x / 32 / 32 ^ k % 32]) ++ pTop (x / 32) k := rfl
    have e3 : x / 32 / 32 ^ k = x / 32 ^ (k + 1) := by rw [Nat.div_div_eq_div_mul, Nat.pow_succ, Nat.mul_comm]
    rw [e, pTop_down x k, e2, e3, List.append_assoc]
theorem pTop_ls : ∀ n x, pvl n x → pTop x n = pLs n x
  | 0, x, h => rfl
  | n + 1, x, h => by
    rw [pTop_down]
    simp only [pLs]
    rcases h with h | ⟨h1, h2, h3⟩
    · rw [if_pos h, h, Nat.zero_div, pTop_zero]; rfl
    · rw [if_neg (by omega), if_neg (by omega), pTop_ls n _ h3]
theorem pTop_len (x : Nat) : ∀ k, (pTop x k).length ≤ k
  | 0 => Nat.le_refl _
  | k + 1 => by
    simp only [pTop]
    have := pTop_len x k
    rw [List.length_append]
    split
    · simp; omega
    · simp; omega
theorem pc_name_loop {x : Nat} (hx : x < 9223372036854775808) : ∀ (k : Nat) {fu : Nat} {S : ScT} {A : List Nat} (sh : Int32), k ≤ 7 → k + 1 ≤ fu → (1 ≤ k → sh = zn (5 * (k - 1))) → (k = 0 → sh < 0) → pTc A S → A.length + k ≤ 32 → ∃ S', f_X8_name_L3 fu S (zq x) sh = some S' ∧ pTc (A ++ pTop x k) S'
  | k, 0, S, A, sh, h1, h2, h3, h4, h5, h6 => by omega
  | 0, fu + 1, S, A, sh, h1, h2, h3, h4, h5, h6 => by
    show ∃ S', f_X8_name_H3 S (f_X8_name_L3 fu) (zq x) sh = _ ∧ _
    unfold f_X8_name_H3
    rw [if_pos (h4 rfl)]
    refine ⟨S, rfl, ?_⟩
    show pTc (A ++ []) S
    rw [List.append_nil]; exact h5
  | k + 1, fu + 1, S, A, sh, h1, h2, h3, h4, h5, h6 => by
    obtain rfl : sh = zn (5 * k) := h3 (by omega)
    have e5 : (2 : Nat) ^ (5 * k) = 32 ^ k := by rw [Nat.pow_mul]
    have hu : zr_ushrl (zq x) (zn (5 * k)) = zq (x / 32 ^ k) := by
      have := zq_ushr hx ⟨5 * k, by omega⟩
      rw [e5] at this; exact this
    have nx : ∀ {S2 : ScT} {A2 : List Nat}, pTc A2 S2 → A2.length + k ≤ 32 → ∃ S', f_X8_name_L3 fu S2 (zq x) (zn (5 * k) + (-5)) = some S' ∧ pTc (A2 ++ pTop x k) S' := fun g1 g2 => by
      refine pc_name_loop hx k (zn (5 * k) + (-5)) (by omega) (by omega) (fun q => ?_) (fun q => ?_) g1 g2
      · rw [show ((-5) : Int32) = - zn 5 from rfl, ← Int32.sub_eq_add_neg, zn_sub (by omega)]; congr 1; omega
      · subst q; decide
    show ∃ S', f_X8_name_H3 S (f_X8_name_L3 fu) (zq x) (zn (5 * k)) = _ ∧ _
    unfold f_X8_name_H3 f_X8_name_b32
    rw [if_neg (zn_ge0 (by omega)), hu, zq_and31]
    have e : pTop x (k + 1) = (if x / 32 ^ k % 32 = 0 then [] else [96 + x / 32 ^ k % 32]) ++ pTop x k := rfl
    rw [e]
    have hm : x / 32 ^ k % 32 < 32 := Nat.mod_lt _ (by omega)
    by_cases q : x / 32 ^ k % 32 = 0
    · rw [q, if_pos (show zn 0 = (0 : Int32) from rfl), if_pos rfl]
      exact nx h5 (by omega)
    · generalize x / 32 ^ k % 32 = y at q hm
      rw [if_neg (by rw [zn_eq0 (by omega)]; exact q), if_neg q, show (97 : Int32) + zn y - 1 = zn (96 + y) from by
        rw [show (97 : Int32) = zn 97 from rfl, zn_add, show (1 : Int32) = zn 1 from rfl, zn_sub (by omega)]; congr 1; omega]
      obtain ⟨S2, g1, g2⟩ := pc_sign h5 (by omega) (c := 96 + y) (by omega)
      rw [g1, ob_eq, ← List.append_assoc]
      exact nx g2 (by rw [List.length_append, List.length_singleton]; omega)
theorem pc_name {x : Nat} (hx : pvl 7 x) {S : ScT} {A : List Nat} (h : pTc A S) (hl : A.length + 7 ≤ 32) : ∃ S', f_X8_name S (zq x) = some S' ∧ pTc (A ++ pLs 7 x) S' := by
  have h1 := pvl_lt 7 x hx
  rw [p32] at h1
  have := pc_name_loop (x := x) (by omega) 7 (fu := zFU) (S := S) (A := A) 30 (by omega) (zFU_ge (by omega)) (fun _ => rfl) (fun z => by omega) h hl
  rw [pTop_ls 7 x hx] at this
  exact this
/-- the reference writes a word -/
theorem pm_wwLast {M M3 : MoT} {A : List Nat} {W y : Nat} (hW : W < 10460353203) (hy : W % 27 = y) (h : pTm A M M3) (hl : A.length < 64) : ∃ M2, ((f_X12_write M3 ((96 : Int32) + (zr_reml (zq W) 27).toInt32)).bind fun q1 => some q1) = some M2 ∧ pTm (A ++ [96 + y]) M M2 := by
  obtain ⟨M2, z1, z2⟩ := pm_write h hl (96 + y)
  refine ⟨M2, ?_, z2⟩
  rw [zq_l27, zq_rem (by omega) (by omega), hy, zq_toI (by omega), show (96 : Int32) + zn y = zn (96 + y) from zn_add 96 _, z1, ob_eq]
theorem pcv_succ {n x : Nat} (h : x ≠ 0) : pcv (n + 1) x = pcv n (x / 32) * 27 + x % 32 := if_neg h
theorem pLs_succ {n x : Nat} (h : x ≠ 0) : pLs (n + 1) x = pLs n (x / 32) ++ [96 + x % 32] := if_neg h
theorem pcv_lim {n x : Nat} (hn : n ≤ 7) (h : pvl n x) : pcv n x < 10460353203 := by
  have h1 := pcv_lt n x h
  have hp : 27 ^ n ≤ 27 ^ 7 := Nat.pow_le_pow_right (by omega) hn
  have c2 : 27 ^ 7 = 10460353203 := by decide
  omega
theorem fG_ww (d : Nat) (M : MoT) (W : Int64) : fG_X12_writeWord (d + 1) M W = f_B_X12_writeWord (fG_X12_writeWord d) M W := rfl
theorem pm_writeWord {M : MoT} (n : Nat) : ∀ (d x : Nat) (M' : MoT) (A : List Nat), n ≤ 7 → n ≤ d → x ≠ 0 → pvl n x → pTm A M M' → A.length + n ≤ 64 → ∃ M2, fG_X12_writeWord d M' (zq (pcv n x)) = some M2 ∧ pTm (A ++ pLs n x) M M2 := by
  induction n with
  | zero => intro d x M' A h2 h3 h4 h5 h6 h7; exact absurd h5 h4
  | succ n ih =>
    intro d x M' A h2 h3 h4 h5 h6 h7
    obtain ⟨e', rfl⟩ : ∃ e', d = e' + 1 := ⟨d - 1, by omega⟩
    have hlim := pcv_lim h2 h5
    rcases h5 with h5 | ⟨v1, v2, v3⟩
    · exact absurd h5 h4
    rw [fG_ww, pLs_succ h4, pcv_succ h4] at *
    have hlim2 := pcv_lim (show n ≤ 7 by omega) v3
    have ll := pLs_len n (x / 32)
    generalize hP : pcv n (x / 32) = P at *
    unfold f_B_X12_writeWord f_B_X12_writeWord_b17
    by_cases q : P * 27 + x % 32 < 27
    · rw [if_pos (by rw [zq_l27, zq_cmpN (by omega) (by omega)]; exact q)]
      have x0 : x / 32 = 0 := by
        have : pcv n (x / 32) = 0 := by omega
        exact pcv_inj n _ _ v3 (pvl_zero n) (by rw [this, pcv_zero])
      rw [x0, pLs_zero, List.nil_append]
      exact pm_wwLast hlim (by omega) h6 (by omega)
    · have x0 : x / 32 ≠ 0 := fun z => by
        rw [z, pcv_zero] at hP; omega
      rw [if_neg (by rw [zq_l27, zq_cmpN (by omega) (by omega)]; exact q)]
      obtain ⟨M3, g1, g2⟩ := ih e' (x / 32) M' A (by omega) (by omega) x0 v3 h6 (by omega)
      rw [hP] at g1
      have hd : zq (P * 27 + x % 32) / (27 : Int64) = zq P := by
        rw [zq_l27, zq_div (by omega) (by omega)]; congr 1; omega
      rw [hd, g1, ob_eq, ← List.append_assoc]
      exact pm_wwLast hlim (by omega) g2 (by rw [List.length_append]; omega)
theorem pm_word {M M' : MoT} {A : List Nat} {x : Nat} (hx : pvl 7 x ∧ x ≠ 0) (h : pTm A M M') (hl : A.length + 7 ≤ 64) : ∃ M2, f_X12_writeWord 20 M' (zq (pcv 7 x)) = some M2 ∧ pTm (A ++ pLs 7 x) M M2 :=
  pm_writeWord 7 20 x M' A (by omega) (by omega) hx.2 hx.1 h hl
theorem pm_nextWord {M M' : MoT} {A : List Nat} {x : Nat} (hx : pvl 7 x ∧ x ≠ 0) (h : pTm A M M') (hl : A.length + 8 ≤ 64) : ∃ M2, f_X12_writeNext M' (zq (pcv 7 x)) = some M2 ∧ pTm ((A ++ [32]) ++ pLs 7 x) M M2 := by
  obtain ⟨M1, a1, a2⟩ := pm_write h (by omega) 32
  obtain ⟨M2, b1, b2⟩ := pm_word hx a2 (by rw [List.length_append, List.length_singleton]; omega)
  refine ⟨M2, ?_, b2⟩
  unfold f_X12_writeNext
  rw [show f_X12_write M' 32 = some M1 from a1, ob_eq, b1, ob_eq]
/-- the class writes words -/
theorem pc_words_loop (j : Nat) (W : List Nat) (hl : zj_slen.getD j 0 = W.length) (hW : W.length ≤ 10) (hc : ∀ i, i < W.length → zj_ch j (zn i) = zn (W.getD i 0) ∧ W.getD i 0 < 128) : ∀ (d : Nat) {k fu : Nat} {S : ScT} {A : List Nat}, k + d = W.length → d + 1 ≤ fu → pTc A S → A.length + d ≤ 32 → ∃ S', f_X8_words_L2 j fu S (zn k) = some S' ∧ pTc (A ++ W.drop k) S'
  | d, k, 0, S, A, h1, h2, h3, h4 => by omega
  | 0, k, fu + 1, S, A, h1, h2, h3, h4 => by
    show ∃ S', f_X8_words_H2 j S (f_X8_words_L2 j fu) (zn k) = _ ∧ _
    unfold f_X8_words_H2
    rw [hl, show nI W.length = zn W.length from rfl, if_neg (by rw [zn_lt (by omega) (by omega)]; omega)]
    refine ⟨S, rfl, ?_⟩
    rw [List.drop_eq_nil_of_le (by omega), List.append_nil]; exact h3
  | d + 1, k, fu + 1, S, A, h1, h2, h3, h4 => by
    show ∃ S', f_X8_words_H2 j S (f_X8_words_L2 j fu) (zn k) = _ ∧ _
    unfold f_X8_words_H2
    obtain ⟨c1, c2⟩ := hc k (by omega)
    obtain ⟨S1, a1, a2⟩ := pc_sign h3 (by omega) c2
    rw [hl, show nI W.length = zn W.length from rfl, if_pos (by rw [zn_lt (by omega) (by omega)]; omega), zb_zn (by omega) (by omega), if_pos rfl, c1, a1, ob_eq, show zn k + 1 = zn (k + 1) from zn_add k 1]
    have e : W.drop k = [W.getD k 0] ++ W.drop (k + 1) := by
      rw [List.drop_eq_getElem_cons (by omega), List.getD_eq_getElem?_getD, List.getElem?_eq_getElem (by omega)]; rfl
    rw [e, ← List.append_assoc]
    exact pc_words_loop j W hl hW hc d (by omega) (by omega) a2 (by rw [List.length_append, List.length_singleton]; omega)
def pWds (j : Nat) : List Nat := [[], [32, 105, 110, 32], [32, 116, 111, 32], [32], [32, 119, 97, 105, 116, 115], [32, 115, 97, 105, 108, 101, 100], [32, 111, 117, 116, 108, 97, 119], [32, 115, 108, 97, 105, 110]].getD j []
theorem pWds_ok : ∀ j : Fin 8, j.val ≠ 0 → zj_slen.getD j.val 0 = (pWds j.val).length ∧ (pWds j.val).length ≤ 10 ∧ ∀ i : Fin 10, i.val < (pWds j.val).length → zj_ch j.val (zn i.val) = zn ((pWds j.val).getD i.val 0) ∧ (pWds j.val).getD i.val 0 < 128 := by decide +kernel
theorem pc_words {j : Nat} (hj : 1 ≤ j) (hj7 : j < 8) {S : ScT} {A : List Nat} (h : pTc A S) (hl : A.length + 10 ≤ 32) : ∃ S', f_X8_words j S = some S' ∧ pTc (A ++ pWds j) S' := by
  obtain ⟨a1, a2, a3⟩ := pWds_ok ⟨j, hj7⟩ (by show j ≠ 0; omega)
  exact pc_words_loop j (pWds j) a1 a2 (fun i hi => a3 ⟨i, by have a2' : (pWds j).length ≤ 10 := a2; omega⟩ hi) (pWds j).length (k := 0) (fu := zFU) (by omega) (zFU_ge (by have a2' : (pWds j).length ≤ 10 := a2; omega)) h (by have a2' : (pWds j).length ≤ 10 := a2; omega)
/-- digits -/
def pDg (n : Nat) : List Nat := (if n < 10 then [] else [48 + n / 10]) ++ [48 + n % 10]
theorem pc_digits {n : Nat} (hn : n < 100) {S : ScT} {A : List Nat} (h : pTc A S) (hl : A.length + 2 ≤ 32) : ∃ S', f_X8_digits S (zn n) = some S' ∧ pTc (A ++ pDg n) S' := by
  unfold f_X8_digits f_X8_digits_b17 pDg
  rw [zn_l10, zn_rem (by omega) (by omega), zn_div (by omega) (by omega), show (48 : Int32) + zn (n % 10) = zn (48 + n % 10) from zn_add 48 _, show (48 : Int32) + zn (n / 10) = zn (48 + n / 10) from zn_add 48 _]
  by_cases q : n < 10
  · rw [if_pos (by rw [zn_lt (by omega) (by omega)]; exact q), if_pos q]
    obtain ⟨S1, a1, a2⟩ := pc_sign h (by omega) (c := 48 + n % 10) (by omega)
    rw [a1, ob_eq]; exact ⟨S1, rfl, a2⟩
  · rw [if_neg (by rw [zn_lt (by omega) (by omega)]; exact q), if_neg q]
    obtain ⟨S1, a1, a2⟩ := pc_sign h (by omega) (c := 48 + n / 10) (by omega)
    obtain ⟨S2, b1, b2⟩ := pc_sign a2 (by rw [List.length_append, List.length_singleton]; omega) (c := 48 + n % 10) (by omega)
    rw [a1, ob_eq, b1, ob_eq, ← List.append_assoc]; exact ⟨S2, rfl, b2⟩
theorem pm_number1 {M M' : MoT} {A : List Nat} {n d : Nat} (hn : n < 10) (h : pTm A M M') (hl : A.length < 64) : ∃ M2, f_X12_writeNumber (d + 1) M' (zn n) = some M2 ∧ pTm (A ++ [48 + n]) M M2 := by
  show ∃ M2, f_B_X12_writeNumber (fG_X12_writeNumber d) M' (zn n) = some M2 ∧ _
  unfold f_B_X12_writeNumber f_B_X12_writeNumber_b14
  obtain ⟨M1, a1, a2⟩ := pm_write h hl (48 + n)
  rw [if_neg (by rw [zn_l9, zn_lt (by omega) (by omega)]; omega), zn_l10, zn_rem (by omega) (by omega), Nat.mod_eq_of_lt hn, show (48 : Int32) + zn n = zn (48 + n) from zn_add 48 _, a1, ob_eq]
  exact ⟨M1, rfl, a2⟩
theorem pm_digits {M M' : MoT} {A : List Nat} {n : Nat} (hn : n < 100) (h : pTm A M M') (hl : A.length + 2 ≤ 64) : ∃ M2, f_X12_writeNumber 20 M' (zn n) = some M2 ∧ pTm (A ++ pDg n) M M2 := by
  unfold pDg
  by_cases q : n < 10
  · rw [if_pos q, List.nil_append, Nat.mod_eq_of_lt q]
    exact pm_number1 q h (by omega)
  · rw [if_neg q]
    obtain ⟨M1, a1, a2⟩ := pm_number1 (d := 18) (n := n / 10) (by omega) h (by omega)
    obtain ⟨M2, b1, b2⟩ := pm_write a2 (by rw [List.length_append, List.length_singleton]; omega) (48 + n % 10)
    have a1' : fG_X12_writeNumber 19 M' (zn (n / 10)) = some M1 := a1
    show ∃ M2, f_B_X12_writeNumber (fG_X12_writeNumber 19) M' (zn n) = some M2 ∧ _
    unfold f_B_X12_writeNumber f_B_X12_writeNumber_b14
    rw [if_pos (by rw [zn_l9, zn_lt (by omega) (by omega)]; omega), zn_l10, zn_rem (by omega) (by omega), zn_div (by omega) (by omega), a1', ob_eq, show (48 : Int32) + zn (n % 10) = zn (48 + n % 10) from zn_add 48 _, b1, ob_eq, ← List.append_assoc]
    exact ⟨M2, rfl, b2⟩
