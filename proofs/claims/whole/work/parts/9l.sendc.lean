/-! SENT: the class -/
def pCo (D : pD) (F : pF) (s p m : Nat) : Nat := if s.testBit m = true ∧ pD_far D (pF_o F m 4) p ≠ 100000 then pD_far D (pF_o F m 4) p * 1000000 + p * 10 ^ (5 - m) else 1000000000000
theorem pCo_le {D : pD} {F : pF} (hv : pV D) (hV : pFv D F) {s p m : Nat} (hp : p < pD_np D) (hs : ∀ i, s.testBit i = true → i < pD_nm D) : pCo D F s p m ≤ 1000000000000 := by
  unfold pCo
  split
  · rename_i h
    have h1 := hs m h.1
    have h2 := (hV.2 m h1).2.1.1
    have h3 := hv.far h2 hp
    have h4 : 10 ^ (5 - m) ≤ 10 ^ 5 := Nat.pow_le_pow_right (by omega) (by omega)
    have h5 := hv.np
    have h6 : p * 10 ^ (5 - m) ≤ 10 * 10 ^ 5 := Nat.mul_le_mul (by omega) h4
    have := h.2
    omega
  · exact Nat.le_refl _
theorem vu_eq (f : Nat → Int64) (k : Nat) (v : Int64) : vp_updL f k v k = v := by unfold vp_updL; rw [if_pos rfl]
theorem vu_ne (f : Nat → Int64) {k j : Nat} (v : Int64) (h : j ≠ k) : vp_updL f k v j = f j := by unfold vp_updL; rw [if_neg h]
section
variable {D : pD} {L : LdT} {F : pF} {K : FkT}
theorem pc_weigh_in (L : LdT) (K : FkT) (k15 : SnT → Int32 → Int32 → Int64 → Int32 → Option SnT) (x3 x4 : Int32) (x5 : Int64) (c : Nat → Nat) {m : Nat} (hm : m < 6) : ∀ (d : Nat) {k fu : Nat} (S : SnT), k + d = 2 ^ m → d + 1 ≤ fu → (∀ t, t < 2 ^ m + k → Sn_costs S t = zq (pSu c t (m + 1))) →
    ∃ C, f_X9_weigh_L92 L K k15 fu S x3 x4 x5 (zn m) (zn (2 ^ m)) (zq (c m)) (zn k) = k15 (Sn_s_costs S C) x3 x4 x5 (zn (m + 1)) ∧ ∀ t, t < 2 ^ (m + 1) → C t = zq (pSu c t (m + 1)) := by
  have h2 : 2 ^ m ≤ 2 ^ 5 := Nat.pow_le_pow_right (by omega) (by omega)
  have h3 : 2 ^ (m + 1) = 2 ^ m + 2 ^ m := by rw [Nat.pow_succ]; omega
  intro d
  induction d with
  | zero =>
    intro k fu S h4 h5 h6
    cases fu with
    | zero => omega
    | succ fu =>
      refine ⟨Sn_costs S, ?_, fun t ht => h6 t (by omega)⟩
      show f_X9_weigh_H92 S L K k15 (f_X9_weigh_L92 L K k15 fu) x3 x4 x5 (zn m) (zn (2 ^ m)) (zq (c m)) (zn k) = _
      unfold f_X9_weigh_H92
      rw [if_neg (by rw [zn_lt (by omega) (by omega)]; omega), show zn m + 1 = zn (m + 1) from zn_add m 1]
      rfl
  | succ d ih =>
    intro k fu S h4 h5 h6
    cases fu with
    | zero => omega
    | succ fu =>
      have hk : k < 2 ^ m := by omega
      obtain ⟨C, e, hC⟩ := ih (k := k + 1) (fu := fu) (Sn_s_costs S (vp_updL (Sn_costs S) (k + 2 ^ m) (zq (pSu c (k + 2 ^ m) (m + 1))))) (by omega) (by omega) (fun t ht => by
        show vp_updL (Sn_costs S) (k + 2 ^ m) _ t = _
        by_cases q : t = k + 2 ^ m
        · rw [q, vu_eq]
        · rw [vu_ne _ _ q]; exact h6 t (by omega))
      refine ⟨C, ?_, hC⟩
      show f_X9_weigh_H92 S L K k15 (f_X9_weigh_L92 L K k15 fu) x3 x4 x5 (zn m) (zn (2 ^ m)) (zq (c m)) (zn k) = _
      unfold f_X9_weigh_H92
      have e1 : pSu c k (m + 1) + c m = pSu c (k + 2 ^ m) (m + 1) := by
        have a1 : pSu c k m = pSu c (k + 2 ^ m) m := pSu_cg m (fun i hi => by rw [pTb_add hk, if_neg (show ¬ i = m by omega)])
        have a2 : (k + 2 ^ m).testBit m = true := by rw [pTb_add hk, if_pos rfl]
        rw [pSu_succ, pSu_succ, Nat.testBit_lt_two_pow hk, a2, a1]; simp
      rw [if_pos (by rw [zn_lt (by omega) (by omega)]; omega), zn_or, pOr_add hk, zb_zn (by omega) (by omega), if_pos rfl, zb_zn (by omega) (by omega), if_pos rfl, zl_eq, zn_nat (by omega), zn_nat (by omega), h6 k (by omega), zq_add, e1, show zn k + 1 = zn (k + 1) from zn_add k 1]
      exact e
theorem pc_weigh (hv : pV D) (hc : pLc D L) (hK : pFc D F K) (hV : pFv D F) {s p : Nat} (hp : p < pD_np D) (hs : s < 64) (hs2 : ∀ i, s.testBit i = true → i < pD_nm D) : ∀ (d : Nat) {m fu : Nat} (S : SnT), m + d = 6 → d + 1 ≤ fu → (∀ t, t < 2 ^ m → Sn_costs S t = zq (pSu (pCo D F s p) t m)) →
    ∃ C, f_X9_weigh_L15 L K fu S (zn p) (zn s) (zq (10 ^ (6 - m))) (zn m) = some (Sn_s_costs S C) ∧ ∀ t, t < 64 → C t = zq (pSu (pCo D F s p) t 6) := by
  have hnp := hv.np
  have hnm := hv.nm
  intro d
  induction d with
  | zero =>
    intro m fu S h4 h5 h6
    cases fu with
    | zero => omega
    | succ fu =>
      have e : m = 6 := by omega
      subst e
      refine ⟨Sn_costs S, ?_, fun t ht => h6 t ht⟩
      show f_X9_weigh_H15 S L K (f_X9_weigh_L15 L K fu) (zn p) (zn s) (zq (10 ^ (6 - 6))) (zn 6) = _
      unfold f_X9_weigh_H15
      rw [if_neg (by decide)]
      rfl
  | succ d ih =>
    intro m fu S h4 h5 h6
    cases fu with
    | zero => omega
    | succ fu =>
      have hm : m < 6 := by omega
      have h2 : 2 ^ m ≤ 2 ^ 5 := Nat.pow_le_pow_right (by omega) (by omega)
      obtain ⟨C1, e1, hC1⟩ := pc_weigh_in L K (f_X9_weigh_L15 L K fu) (zn p) (zn s) (zq (10 ^ (6 - (m + 1)))) (pCo D F s p) hm (2 ^ m) (k := 0) (fu := zFU) S (by omega) (zFU_ge (by omega)) (fun t ht => by
        rw [h6 t (by omega), pSu_succ, Nat.testBit_lt_two_pow (show t < 2 ^ m by omega)]; simp)
      obtain ⟨C, e2, hC⟩ := ih (m := m + 1) (fu := fu) (Sn_s_costs S C1) (by omega) (by omega) hC1
      refine ⟨C, ?_, hC⟩
      show f_X9_weigh_H15 S L K (f_X9_weigh_L15 L K fu) (zn p) (zn s) (zq (10 ^ (6 - m))) (zn m) = _
      unfold f_X9_weigh_H15 f_X9_weigh_b89
      have ep : zq (10 ^ (6 - m)) / (10 : Int64) = zq (10 ^ (6 - (m + 1))) := by
        have : 10 ^ (6 - m) ≤ 10 ^ 6 := Nat.pow_le_pow_right (by omega) (by omega)
        rw [zq_l10, zq_div (by omega) (by omega), show 6 - m = (6 - (m + 1)) + 1 by omega, Nat.pow_succ]
        congr 1; omega
      have ep2 : 10 ^ (6 - (m + 1)) = 10 ^ (5 - m) := by rw [show 6 - (m + 1) = 5 - m by omega]
      rw [if_pos (by rw [zn_l6, zn_lt (by omega) (by omega)]; exact hm), ep, zn_shl1 (by omega), zn_and, pBit_and]
      by_cases b : s.testBit m = true
      · have hmm := hs2 m b
        have hh := (hV.2 m hmm).2.1.1
        have h2p : 0 < 2 ^ m := Nat.pow_pos (by omega)
        rw [if_pos b, if_neg (show ¬ zn (2 ^ m) = (0 : Int32) by rw [zn_l0, zn_eq (by omega) (by omega)]; omega), pc_of4 hv hK hmm, ob_eq, pc_joined hv hc hh hp, ob_eq]
        by_cases j : pD_far D (pF_o F m 4) p = 100000
        · have ec : pCo D F s p m = 1000000000000 := by unfold pCo; rw [if_neg (by simp [j])]
          rw [if_pos j, if_pos rfl, zq_l1000000000000, ← ec]
          exact e1.trans e2
        · have ec : pCo D F s p m = pD_far D (pF_o F m 4) p * 1000000 + p * 10 ^ (5 - m) := by unfold pCo; rw [if_pos ⟨b, j⟩]
          have hf := hv.far hh hp
          rw [if_neg j, if_neg (show ¬ (1 : Int32) = 0 by decide), ob_eq, pc_milesBetween hv hc hh hp, ob_eq, zl_eq, zn_toL (by omega), zn_toL (by omega), zq_l1000000, zq_mul, zq_mul, zq_add, ep2, ← ec, ← ep2]
          exact e1.trans e2
      · have b' : s.testBit m = false := by simpa using b
        have ec : pCo D F s p m = 1000000000000 := by unfold pCo; rw [if_neg (by simp [b'])]
        rw [if_neg b, if_pos (show zn 0 = (0 : Int32) from rfl), zq_l1000000000000, ← ec]
        exact e1.trans e2
theorem pc_weigh_all (hv : pV D) (hc : pLc D L) (hK : pFc D F K) (hV : pFv D F) {s p : Nat} (hp : p < pD_np D) (hs : s < 64) (hs2 : ∀ i, s.testBit i = true → i < pD_nm D) (S : SnT) : ∃ C, f_X9_weigh S L K (zn p) (zn s) = some (Sn_s_costs S C) ∧ ∀ t, t < 64 → C t = zq (pSu (pCo D F s p) t 6) := by
  unfold f_X9_weigh
  rw [zl_eq]
  obtain ⟨C, e, h⟩ := pc_weigh hv hc hK hV hp hs hs2 6 (m := 0) (fu := zFU) (Sn_s_costs S (vp_updL (Sn_costs S) 0 0)) (by omega) (zFU_ge (by omega)) (fun t ht => by
    show vp_updL (Sn_costs S) 0 0 t = _
    rw [show t = 0 by omega, vu_eq]; rfl)
  exact ⟨C, e, h⟩
end
/-- the best for a set, one port more -/
def pPr (C B : Nat → Nat) (H s k v : Nat) : Prop :=
  v ≤ B s ∧ (∀ q, q &&& s = q → k < q → pSu (fun _ => 1) q 6 ≤ H → v ≤ C q + B (s ^^^ q)) ∧ (v = B s ∨ ∃ q, q &&& s = q ∧ 0 < q ∧ pSu (fun _ => 1) q 6 ≤ H ∧ v = C q + B (s ^^^ q))
theorem zr_minl {a b : Nat} (ha : a < 9223372036854775808) (hb : b < 9223372036854775808) : zr_mminlF (zq a) (zq b) = zq (min a b) := by
  unfold zr_mminlF
  simp only [zq_lt hb ha]
  by_cases q : b < a
  · rw [if_pos q, Nat.min_eq_right (by omega)]
  · rw [if_neg q, Nat.min_eq_left (by omega)]
theorem pc_spread_in (k2 : SnT → Int32 → Int32 → Int32 → Option SnT) (x1 : Int32) {C B : Nat → Nat} {H s : Nat} (hH : H < 100) (hs : s < 64) (S : SnT) (hC : ∀ t, t < 64 → Sn_costs S t = zq (C t) ∧ C t ≤ 7000000000000) (hB : ∀ t, t ≤ s → Sn_best S t = zq (B t) ∧ B t ≤ 1000000000000) : ∀ (k : Nat) {fu v : Nat}, k &&& s = k → k + 1 ≤ fu → pPr C B H s k v →
    ∃ v', f_X9_spread_L28 k2 fu S x1 (zn H) (zn s) (zq v) (zn k) = k2 (Sn_s_best S (vp_updL (Sn_best S) s (zq v'))) x1 (zn H) (zn s + (-1 : Int32)) ∧ pPr C B H s 0 v' := by
  intro k
  induction k using Nat.strongRecOn with
  | ind k ih =>
    intro fu v h1 h2 h3
    have hv : v ≤ 1000000000000 := Nat.le_trans h3.1 (hB s (Nat.le_refl _)).2
    have hks := pSub_le h1
    cases fu with
    | zero => omega
    | succ fu =>
      show ∃ v', f_X9_spread_H28 S k2 (f_X9_spread_L28 k2 fu) x1 (zn H) (zn s) (zq v) (zn k) = _ ∧ _
      unfold f_X9_spread_H28 f_X9_spread_b68 f_X9_spread_b87
      by_cases z : k = 0
      · subst z
        refine ⟨v, ?_, h3⟩
        rw [if_neg (by decide), zb_zn hs (by omega), if_pos rfl, zl_eq, zn_nat (by omega)]
      · have hx : (s ^^^ k) < s := by have := pXor_sum hs h1; omega
        have hk1 : zn k - 1 = zn (k - 1) := by rw [zn_l1, zn_sub (by omega)]
        have hn : (k - 1) &&& s ≤ k - 1 := Nat.and_le_left
        have hn2 : ((k - 1) &&& s) &&& s = (k - 1) &&& s := by rw [Nat.and_assoc, Nat.and_self]
        have hpop : pSu (fun _ => 1) k 6 ≤ 6 * 1 := pSu_bd 1 6 (fun _ _ _ => Nat.le_refl _)
        rw [if_pos (by rw [zn_l0, zn_lt (by omega) (by omega)]; omega), show f_J6_bitCount_0f7a4 (zn k) = some (zn (pSu (fun _ => 1) k 6)) from pPop ⟨k, by omega⟩, ob_eq, ifn_lt (by omega) (by omega), hk1, zn_and]
        by_cases y : H < pSu (fun _ => 1) k 6
        · rw [if_pos y]
          refine ih _ (by omega) hn2 (by omega) ⟨h3.1, fun q q1 q2 q3 => ?_, h3.2.2⟩
          by_cases w : k < q
          · exact h3.2.1 q q1 w q3
          · by_cases w2 : q = k
            · rw [w2] at q3; omega
            · have := pSub_next k h1 q1 (by omega); omega
        · have ha := (pAndN ⟨s, hs⟩ ⟨k, by omega⟩)
          simp only at ha
          rw [if_neg y, zb_zn (show k < 64 by omega) (by omega), if_pos rfl, ha, Nat.and_comm s k, h1, zb_zn (by omega) (by omega), if_pos rfl, zl_eq, zn_nat (by omega), zn_nat (by omega), (hC k (by omega)).1, (hB (s ^^^ k) (by omega)).1, zq_add]
          have b1 := (hC k (by omega)).2
          have b2 := (hB (s ^^^ k) (by omega)).2
          rw [zr_minl (by omega) (by omega)]
          refine ih _ (by omega) hn2 (by omega) ⟨by have := h3.1; omega, fun q q1 q2 q3 => ?_, ?_⟩
          · by_cases w : k < q
            · have := h3.2.1 q q1 w q3; omega
            · by_cases w2 : q = k
              · rw [w2]; omega
              · have := pSub_next k h1 q1 (by omega); omega
          · by_cases w : v ≤ C k + B (s ^^^ k)
            · rw [Nat.min_eq_left w]; exact h3.2.2
            · rw [Nat.min_eq_right (by omega)]
              exact Or.inr ⟨k, h1, by omega, by omega, rfl⟩
theorem pc_spread {C B : Nat → Nat} {H a : Nat} (hH : H < 100) (ha : a < 64) (hb : ∀ t, B t ≤ 1000000000000) (hc : ∀ t, C t ≤ 7000000000000) : ∀ (s : Nat) {fu : Nat} (S : SnT) (B' : Nat → Nat), s < 64 → s + 1 ≤ fu → (∀ t, t < 64 → Sn_costs S t = zq (C t)) → (∀ t, t < 64 → Sn_best S t = zq (B' t) ∧ B' t ≤ 1000000000000) → (∀ t, t ≤ s → B' t = B t) → (∀ t, s < t → t &&& a = t → pPr C B H t 0 (B' t)) →
    ∃ (b : Nat → Int64) (B2 : Nat → Nat), f_X9_spread_L2 fu S (zn a) (zn H) (zn s) = some (Sn_s_best S b) ∧ (∀ t, t < 64 → b t = zq (B2 t) ∧ B2 t ≤ 1000000000000) ∧ B2 0 = B 0 ∧ ∀ t, 0 < t → t &&& a = t → pPr C B H t 0 (B2 t) := by
  intro s
  induction s with
  | zero =>
    intro fu S B' h1 h2 h3 h4 h5 h6
    cases fu with
    | zero => omega
    | succ fu =>
      refine ⟨Sn_best S, B', ?_, h4, h5 0 (Nat.le_refl _), h6⟩
      show f_X9_spread_H2 S (f_X9_spread_L2 fu) (zn a) (zn H) (zn 0) = _
      unfold f_X9_spread_H2
      rw [if_neg (by decide)]
      rfl
  | succ s ih =>
    intro fu S B' h1 h2 h3 h4 h5 h6
    cases fu with
    | zero => omega
    | succ fu =>
      show ∃ (b : Nat → Int64) (B2 : Nat → Nat), f_X9_spread_H2 S (f_X9_spread_L2 fu) (zn a) (zn H) (zn (s + 1)) = _ ∧ _
      unfold f_X9_spread_H2 f_X9_spread_b87
      have e1 : zn (s + 1) + (-1 : Int32) = zn s := by
        rw [← zi_zn, ← zi_zn, show (-1 : Int32) = zi (-1) from rfl, zi_add]; congr 1; omega
      have han := pAndN ⟨s + 1, h1⟩ ⟨a, ha⟩
      simp only at han
      have hx : (s + 1) ^^^ ((s + 1) &&& a) < 64 := Nat.xor_lt_two_pow (n := 6) h1 (Nat.lt_of_le_of_lt Nat.and_le_left h1)
      rw [if_pos (by rw [zn_l0, zn_lt (by omega) (by omega)]; omega), han, zn_l0, ifn_eq (by omega) (by omega), zn_nat (by omega), zb_zn h1 (by omega), if_pos rfl]
      by_cases z : s + 1 = (s + 1) &&& a
      · rw [if_pos (pXor0.mpr z)]
        obtain ⟨v', k1, k2⟩ := pc_spread_in (f_X9_spread_L2 fu) (zn a) (C := C) (B := B) hH h1 S (fun t ht => ⟨h3 t ht, hc t⟩) (fun t ht => ⟨by rw [(h4 t (by omega)).1, h5 t ht], hb t⟩) (s + 1) (fu := zFU) (v := B' (s + 1)) (Nat.and_self _) (zFU_ge (by omega)) ⟨by rw [h5 _ (Nat.le_refl _)]; exact Nat.le_refl _, fun q q1 q2 q3 => by have := pSub_le q1; omega, Or.inl (h5 _ (Nat.le_refl _))⟩
        rw [(h4 (s + 1) h1).1, k1, e1]
        have hv' : v' ≤ 1000000000000 := Nat.le_trans k2.1 (hb _)
        obtain ⟨b, B2, j1, j2, j3, j4⟩ := ih (fu := fu) (Sn_s_best S (vp_updL (Sn_best S) (s + 1) (zq v'))) (fun t => if t = s + 1 then v' else B' t) (by omega) (by omega) h3 (fun t ht => by
          show vp_updL (Sn_best S) (s + 1) (zq v') t = _ ∧ _
          by_cases y : t = s + 1
          · rw [y, vu_eq]; simp only [if_true]; exact ⟨trivial, hv'⟩
          · rw [vu_ne _ _ y]; simp only [if_neg y]; exact h4 t ht) (fun t ht => by simp only [if_neg (show ¬ t = s + 1 by omega)]; exact h5 t (by omega)) (fun t t1 t2 => by
          by_cases y : t = s + 1
          · simp only [if_pos y]; rw [y]; exact k2
          · simp only [if_neg y]; exact h6 t (by omega) t2)
        exact ⟨b, B2, j1, j2, j3, j4⟩
      · rw [if_neg (fun w => z (pXor0.mp w)), e1]
        exact ih (fu := fu) S B' (by omega) (by omega) h3 h4 (fun t ht => h5 t (by omega)) (fun t t1 t2 => by
          by_cases y : t = s + 1
          · rw [y] at t2; exact absurd t2.symm z
          · exact h6 t (by omega) t2)
