/-! CUT: which roads -/
/-- these roads part a from b -/
def pSp (D : pD) (a b t : Nat) : Prop := ∃ S : Nat → Bool, S a = true ∧ S b = false ∧ ∀ r, r < pD_nr D → pXc D S r = true → t.testBit r = true
def pOf (D : pD) (t : Nat) : Nat := pSu (fun _ => 1) t (pD_nr D)
def pNo (D : pD) (t kp : Nat) : Prop := ∀ r, r < pD_nr D → t.testBit r = true → kp.testBit r = false
theorem pCs_le {D : pD} {S : Nat → Bool} {t kp : Nat} : ∀ n, (∀ r, r < n → pXc D S r = true → t.testBit r = true ∧ kp.testBit r = false) → pCs D S kp n ≤ pSu (fun _ => 1) t n
  | 0, _ => Nat.le_refl _
  | n + 1, h => by
    have ih := pCs_le (D := D) (S := S) (t := t) (kp := kp) n (fun r hr => h r (by omega))
    show pCs D S kp n + _ ≤ pSu (fun _ => 1) t n + _
    by_cases q : pXc D S n = true
    · obtain ⟨a1, a2⟩ := h n (by omega) q
      rw [if_pos q, if_pos a1]
      unfold pCap
      rw [a2]; simp; omega
    · rw [if_neg q]; omega
theorem pCs_eq {D : pD} {S : Nat → Bool} {t kp : Nat} : ∀ n, (∀ r, r < n → t.testBit r = pXc D S r) → pCs D S kp n < 5 → pCs D S kp n = pSu (fun _ => 1) t n ∧ ∀ r, r < n → pXc D S r = true → kp.testBit r = false
  | 0, _, _ => ⟨rfl, fun r hr => by omega⟩
  | n + 1, h, hl => by
    have e1 : pCs D S kp (n + 1) = pCs D S kp n + (if pXc D S n = true then pCap kp n else 0) := rfl
    obtain ⟨i1, i2⟩ := pCs_eq (D := D) (S := S) (t := t) (kp := kp) n (fun r hr => h r (by omega)) (by omega)
    have k : pXc D S n = true → kp.testBit n = false := fun q => by
      cases e : kp.testBit n
      · rfl
      · rw [e1, if_pos q] at hl
        unfold pCap at hl
        rw [e] at hl; simp at hl; omega
    refine ⟨?_, fun r hr q => ?_⟩
    · rw [e1, pSu_succ, i1, h n (by omega)]
      by_cases q : pXc D S n = true
      · rw [if_pos q, if_pos q]; unfold pCap; rw [k q]; simp
      · rw [if_neg q, if_neg q]
    · by_cases z : r = n
      · rw [z] at q ⊢; exact k q
      · exact i2 r (by omega) q
theorem pLt_bit : ∀ (r : Nat) {n m : Nat}, n.testBit r = false → m.testBit r = true → (∀ j, r < j → n.testBit j = m.testBit j) → n < m
  | 0, n, m, h1, h2, h3 => by
    have e : n / 2 = m / 2 := Nat.eq_of_testBit_eq (fun i => by rw [Nat.testBit_div_two, Nat.testBit_div_two]; exact h3 _ (by omega))
    rw [Nat.testBit_zero] at h1 h2
    simp at h1 h2
    omega
  | r + 1, n, m, h1, h2, h3 => by
    have := pLt_bit r (n := n / 2) (m := m / 2) (by rw [Nat.testBit_div_two]; exact h1) (by rw [Nat.testBit_div_two]; exact h2) (fun j hj => by rw [Nat.testBit_div_two, Nat.testBit_div_two]; exact h3 _ (by omega))
    omega
theorem zn_comp {n kp : Nat} (hn : n ≤ 16) (hkp : kp < 2 ^ n) : (zn (2 ^ n - 1) &&& (zn kp ^^^ (-1 : Int32))) = zn ((2 ^ n - 1) ^^^ kp) := by
  apply Int32.toBitVec_inj.mp
  rw [Int32.toBitVec_and, Int32.toBitVec_xor]
  show BitVec.ofNat 32 (2 ^ n - 1) &&& (BitVec.ofNat 32 kp ^^^ BitVec.allOnes 32) = BitVec.ofNat 32 ((2 ^ n - 1) ^^^ kp)
  apply BitVec.eq_of_getLsbD_eq
  intro i hi
  rw [BitVec.getLsbD_and, BitVec.getLsbD_xor, BitVec.getLsbD_ofNat, BitVec.getLsbD_ofNat, BitVec.getLsbD_ofNat, BitVec.getLsbD_allOnes, Nat.testBit_xor, Nat.testBit_two_pow_sub_one]
  by_cases q : i < n
  · simp [q, hi]
  · have : kp.testBit i = false := Nat.testBit_lt_two_pow (Nat.lt_of_lt_of_le hkp (Nat.pow_le_pow_right (by omega) (by omega)))
    simp [q, this]
section
variable {D : pD} {L : LdT}
/-- what a flow tells of sets of roads -/
theorem pc_flow_sets (hv : pV D) (hc : pLc D L) {kp a b en : Nat} (hkp : kp < 65536) (hen : en ≤ 5) (ha : a < pD_np D) (hb : b < pD_np D) (hab : b ≠ a) (C : CtT) :
    ∃ n C', f_X0_flow C L (zn a) (zn b) (zn kp) (zn en) = some (zn n, C') ∧ n ≤ en ∧ Ct_latest C' = Ct_latest C ∧ (∀ t, pSp D a b t → pNo D t kp → n ≤ pOf D t) ∧ (n < en → ∃ t, t < 2 ^ pD_nr D ∧ pSp D a b t ∧ pOf D t = n ∧ pNo D t kp) := by
  obtain ⟨n, C', h1, h2, h3, h4, h5⟩ := pc_flow hv hc hkp hen ha hb hab C
  refine ⟨n, C', h1, h2, h3, fun t ht hno => ?_, fun hlt => ?_⟩
  · obtain ⟨S, s1, s2, s3⟩ := ht
    refine Nat.le_trans (h4 S s1 s2) (pCs_le (pD_nr D) (fun r hr q => ?_))
    have := s3 r hr q
    exact ⟨this, hno r hr this⟩
  · rcases h5 with h5 | ⟨S, s1, s2, s3⟩
    · omega
    · obtain ⟨t, t1, t2⟩ := pSet (fun r => pXc D S r) (pD_nr D)
      have t3 : ∀ r, r < pD_nr D → t.testBit r = pXc D S r := fun r hr => by rw [t2]; simp [hr]
      obtain ⟨e1, e2⟩ := pCs_eq (D := D) (S := S) (t := t) (kp := kp) (pD_nr D) t3 (by omega)
      refine ⟨t, t1, ⟨S, s1, s2, fun r hr q => by rw [t3 r hr]; exact q⟩, ?_, fun r hr q => e2 r hr (by rw [← t3 r hr]; exact q)⟩
      unfold pOf
      omega
/-- the fewest, and the least of these -/
def pBest (D : pD) (a b n t : Nat) : Prop := t < 2 ^ pD_nr D ∧ pSp D a b t ∧ pOf D t = n
theorem pc_part_loop (hv : pV D) (hc : pLc D L) {a b n0 : Nat} (ha : a < pD_np D) (hb : b < pD_np D) (hab : b ≠ a) (hn : n0 ≤ 4) (hmin : ∀ t, pSp D a b t → n0 ≤ pOf D t) : ∀ (j : Nat) {fu kp : Nat} (C : CtT), j ≤ pD_nr D → j + 1 ≤ fu → kp < 2 ^ pD_nr D → (∀ i, i < j → kp.testBit i = false) → (∃ t, pBest D a b n0 t ∧ pNo D t kp) → (∀ r, j ≤ r → r < pD_nr D → kp.testBit r = false → ∀ t, pBest D a b n0 t → pNo D t kp → t.testBit r = true) → (∀ t, pBest D a b n0 t → (∀ r, j ≤ r → r < pD_nr D → t.testBit r = !kp.testBit r) ∨ ∃ r, j ≤ r ∧ r < pD_nr D ∧ t.testBit r = true ∧ kp.testBit r = true ∧ ∀ i, r < i → i < pD_nr D → t.testBit i = !kp.testBit i) →
    ∃ C' T, f_X0_part_L30 L fu C (zn a) (zn b) (zn n0) (zn kp) (zo j) = some (zn n0, C') ∧ Ct_latest C' = zn T ∧ pBest D a b n0 T ∧ ∀ t, pBest D a b n0 t → T ≤ t := by
  have hnp := hv.np
  have hnr := hv.nr
  have h16 : 2 ^ pD_nr D ≤ 2 ^ 16 := Nat.pow_le_pow_right (by omega) hnr
  intro j
  induction j with
  | zero =>
    intro fu kp C h1 h2 h3 h4 h5 h6 h7
    cases fu with
    | zero => omega
    | succ fu =>
      obtain ⟨t0, t1, t2⟩ := h5
      have hT : (2 ^ pD_nr D - 1) ^^^ kp < 2 ^ pD_nr D := Nat.xor_lt_two_pow (by omega) h3
      have bT : ∀ i, i < pD_nr D → ((2 ^ pD_nr D - 1) ^^^ kp).testBit i = !kp.testBit i := fun i hi => by
        rw [Nat.testBit_xor, Nat.testBit_two_pow_sub_one]; simp [hi]
      have e0 : t0 = (2 ^ pD_nr D - 1) ^^^ kp := pTb_eq t1.1 hT (fun i hi => by
        rw [bT i hi]
        cases e : kp.testBit i
        · exact h6 i (by omega) hi e t0 t1 t2
        · cases e2 : t0.testBit i
          · rfl
          · have := t2 i hi e2; rw [this] at e; exact absurd e (by decide))
      refine ⟨Ct_s_latest C (zn ((2 ^ pD_nr D - 1) ^^^ kp)), (2 ^ pD_nr D - 1) ^^^ kp, ?_, rfl, by rw [← e0]; exact t1, fun t ht => ?_⟩
      · show f_X0_part_H30 C L (f_X0_part_L30 L fu) (zn a) (zn b) (zn n0) (zn kp) (zo 0) = _
        unfold f_X0_part_H30
        have hp : 0 < 2 ^ pD_nr D := Nat.pow_pos (by omega)
        rw [if_pos (show zo 0 < 0 by decide), zl_eq, zl_eq, hc.1.2.1, zn_shl1 (by omega), show zn (2 ^ pD_nr D) - 1 = zn (2 ^ pD_nr D - 1) from zn_sub (b := 1) (by omega), zn_comp hnr h3]
      · rcases h7 t ht with q | ⟨r, r1, r2, r3, r4, r5⟩
        · refine Nat.le_of_eq (pTb_eq hT ht.1 (fun i hi => ?_))
          rw [bT i hi, q i (by omega) hi]
        · refine Nat.le_of_lt (pLt_bit r ?_ r3 (fun i hi => ?_))
          · rw [bT r r2, r4]; rfl
          · by_cases z : i < pD_nr D
            · rw [bT i z, r5 i hi z]
            · have w : 2 ^ pD_nr D ≤ 2 ^ i := Nat.pow_le_pow_right (by omega) (by omega)
              have := ht.1
              rw [Nat.testBit_lt_two_pow (by omega), Nat.testBit_lt_two_pow (by omega)]
  | succ j ih =>
    intro fu kp C h1 h2 h3 h4 h5 h6 h7
    cases fu with
    | zero => omega
    | succ fu =>
      have hj : j < pD_nr D := by omega
      have hkj : kp.testBit j = false := h4 j (by omega)
      have tb : ∀ i, (kp ||| 2 ^ j).testBit i = if i = j then true else kp.testBit i := fun i => pTb_or i
      have htl : kp ||| 2 ^ j < 2 ^ pD_nr D := Nat.or_lt_two_pow h3 (Nat.pow_lt_pow_right (by omega) hj)
      have e3 : zn j + (-1 : Int32) = zo j := zo_decm j
      have e4 : zn n0 + 1 = zn (n0 + 1) := zn_add n0 1
      have hno : ∀ t, pNo D t (kp ||| 2 ^ j) → pNo D t kp ∧ t.testBit j = false := fun t ht => by
        refine ⟨fun r hr q => ?_, ?_⟩
        · have := ht r hr q
          rw [tb] at this
          by_cases z : r = j
          · rw [if_pos z] at this; exact absurd this (by decide)
          · rw [if_neg z] at this; exact this
        · cases e : t.testBit j
          · rfl
          · have := ht j hj e
            rw [tb, if_pos rfl] at this; exact absurd this (by decide)
      have hno2 : ∀ t, pNo D t kp → t.testBit j = false → pNo D t (kp ||| 2 ^ j) := fun t ht hj2 r hr q => by
        rw [tb]
        by_cases z : r = j
        · rw [z, hj2] at q; exact absurd q (by decide)
        · rw [if_neg z]; exact ht r hr q
      show ∃ C' T, f_X0_part_H30 C L (f_X0_part_L30 L fu) (zn a) (zn b) (zn n0) (zn kp) (zn j) = _ ∧ _
      unfold f_X0_part_H30 f_X0_part_b66
      obtain ⟨n1, C1, k1, k2, k3, k4, k5⟩ := pc_flow_sets hv hc (kp := kp ||| 2 ^ j) (en := n0 + 1) (by omega) (by omega) ha hb hab C
      rw [if_neg (zn_ge0 (by omega)), zn_shl1 (by omega), zn_or, e4, k1, ob_eq]
      simp only
      rw [ifn_eq (by omega) (by omega), e3]
      by_cases z : n1 = n0
      · rw [if_pos z]
        obtain ⟨t, t1, t2, t3, t4⟩ := k5 (by omega)
        refine ih (fu := fu) C1 (by omega) (by omega) htl (fun i hi => by rw [tb, if_neg (by omega)]; exact h4 i (by omega)) ⟨t, ⟨t1, t2, by omega⟩, t4⟩ (fun r r1 r2 r3 u u1 u2 => ?_) (fun u hu => ?_)
        · rw [tb] at r3
          by_cases y : r = j
          · rw [if_pos y] at r3; exact absurd r3 (by decide)
          · rw [if_neg y] at r3
            exact h6 r (by omega) r2 r3 u u1 (hno u u2).1
        · rcases h7 u hu with q | ⟨r, r1, r2, r3, r4, r5⟩
          · cases e : u.testBit j
            · refine Or.inl (fun r r1 r2 => ?_)
              rw [tb]
              by_cases y : r = j
              · rw [if_pos y, y, e]; rfl
              · rw [if_neg y]; exact q r (by omega) r2
            · refine Or.inr ⟨j, Nat.le_refl _, hj, e, by rw [tb, if_pos rfl], fun i hi hi2 => ?_⟩
              rw [tb, if_neg (by omega)]; exact q i (by omega) hi2
          · refine Or.inr ⟨r, by omega, r2, r3, by rw [tb, if_neg (by omega)]; exact r4, fun i hi hi2 => ?_⟩
            rw [tb, if_neg (by omega)]; exact r5 i hi hi2
      · rw [if_neg z]
        have must : ∀ u, pBest D a b n0 u → pNo D u kp → u.testBit j = true := fun u u1 u2 => by
          cases e : u.testBit j
          · exfalso
            have a1 := k4 u u1.2.1 (hno2 u u2 e)
            rw [u1.2.2] at a1
            obtain ⟨t, t1, t2, t3, t4⟩ := k5 (by omega)
            have := hmin t t2
            omega
          · rfl
        refine ih (fu := fu) C1 (by omega) (by omega) h3 (fun i hi => h4 i (by omega)) h5 (fun r r1 r2 r3 u u1 u2 => ?_) (fun u hu => ?_)
        · by_cases y : r = j
          · rw [y]; exact must u u1 u2
          · exact h6 r (by omega) r2 r3 u u1 u2
        · rcases h7 u hu with q | ⟨r, r1, r2, r3, r4, r5⟩
          · have hu2 : pNo D u kp := fun r hr w => by
              by_cases y : j + 1 ≤ r
              · have := q r y hr
                rw [w] at this
                cases e : kp.testBit r
                · rfl
                · rw [e] at this; exact absurd this (by decide)
              · exact h4 r (by omega)
            refine Or.inl (fun r r1 r2 => ?_)
            by_cases y : r = j
            · rw [y, hkj, must u hu hu2]; rfl
            · exact q r (by omega) r2
          · exact Or.inr ⟨r, by omega, r2, r3, r4, r5⟩
theorem pc_part (hv : pV D) (hc : pLc D L) {a b : Nat} (ha : a < pD_np D) (hb : b < pD_np D) (hab : b ≠ a) (C : CtT) :
    ∃ C', (f_X0_part C L (zn a) (zn b) = some (-1, C') ∧ Ct_latest C' = Ct_latest C ∧ ∀ t, pSp D a b t → 5 ≤ pOf D t) ∨ ∃ n T, n ≤ 4 ∧ f_X0_part C L (zn a) (zn b) = some (zn n, C') ∧ Ct_latest C' = zn T ∧ pBest D a b n T ∧ (∀ t, pBest D a b n t → T ≤ t) ∧ ∀ t, pSp D a b t → n ≤ pOf D t := by
  have hnp := hv.np
  have hnr := hv.nr
  unfold f_X0_part
  obtain ⟨n, C1, k1, k2, k3, k4, k5⟩ := pc_flow_sets hv hc (kp := 0) (en := 5) (by omega) (by omega) ha hb hab C
  have hno : ∀ t, pNo D t 0 := fun t r _ _ => Nat.zero_testBit r
  rw [show f_X0_flow C L (zn a) (zn b) (0 : Int32) (5 : Int32) = _ from k1, ob_eq]
  simp only
  rw [zn_l4, ifn_lt (by omega) (by omega)]
  by_cases z : 4 < n
  · rw [if_pos z]
    exact ⟨C1, Or.inl ⟨rfl, k3, fun t ht => by have := k4 t ht (hno t); omega⟩⟩
  · rw [if_neg z, hc.1.2.1, zo_pred]
    obtain ⟨t, t1, t2, t3, t4⟩ := k5 (by omega)
    have hmin : ∀ t, pSp D a b t → n ≤ pOf D t := fun t ht => k4 t ht (hno t)
    obtain ⟨C', T, r1, r2, r3, r4⟩ := pc_part_loop hv hc ha hb hab (n0 := n) (by omega) hmin (pD_nr D) (fu := zFU) (kp := 0) C1 (Nat.le_refl _) (zFU_ge (by omega)) (Nat.pow_pos (by omega)) (fun i _ => Nat.zero_testBit i) ⟨t, ⟨t1, t2, t3⟩, t4⟩ (fun r r1 r2 => by omega) (fun t _ => Or.inl (fun r r1 r2 => by omega))
    exact ⟨C', Or.inr ⟨n, T, by omega, r1, r2, r3, r4, hmin⟩⟩
end
