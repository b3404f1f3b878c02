/-! SENT: who goes where -/
def pAs (D : pD) (F : pF) (t p : Nat) (f : Nat → Nat) : Prop :=
  (∀ m, t.testBit m = true → f m < p ∧ pD_pl D (f m) 0 = 2 ∧ pD_far D (pF_o F m 4) (f m) ≠ 100000) ∧ (∀ q, q < p → pD_pl D q 0 = 2 → pSu (fun m => if f m = q then 1 else 0) t 6 ≤ pD_pl D q 3)
def pAw (D : pD) (F : pF) (f : Nat → Nat) (m : Nat) : Nat := pD_far D (pF_o F m 4) (f m) * 1000000 + f m * 10 ^ (5 - m)
def pAW (D : pD) (F : pF) (t : Nat) (f : Nat → Nat) : Nat := pSu (pAw D F f) t 6
def pDP (D : pD) (F : pF) (s p : Nat) (B : Nat → Nat) : Prop :=
  ∀ t, t &&& s = t → (∀ f, pAs D F t p f → B t ≤ pAW D F t f) ∧ (B t < 1000000000000 → ∃ f, pAs D F t p f ∧ B t = pAW D F t f)
theorem pSub_of {p s : Nat} (h : p &&& s = p) {i : Nat} (hi : p.testBit i = true) : s.testBit i = true := by
  rw [← h, Nat.testBit_and] at hi
  cases e : s.testBit i
  · rw [e] at hi; simp at hi
  · rfl
theorem pDP_0 {D : pD} {F : pF} {s : Nat} {B : Nat → Nat} (h0 : B 0 = 0) (h : ∀ t, t &&& s = t → t ≠ 0 → B t = 1000000000000) : pDP D F s 0 B := by
  intro t ht
  by_cases z : t = 0
  · subst z
    refine ⟨fun f _ => by rw [h0]; omega, fun _ => ⟨fun _ => 0, ⟨fun m hm => ?_, fun q hq => by omega⟩, ?_⟩⟩
    · rw [Nat.zero_testBit] at hm; exact absurd hm (by decide)
    · rw [h0]; exact (pSu_zero _ 6).symm
  · rw [h t ht z]
    refine ⟨fun f hf => ?_, fun q => by omega⟩
    obtain ⟨i, hi⟩ := pTb_nz z
    have := (hf.1 i hi).1
    omega
theorem pDP_skip {D : pD} {F : pF} {s p : Nat} {B : Nat → Nat} (hp : pD_pl D p 0 ≠ 2) (h : pDP D F s p B) : pDP D F s (p + 1) B := by
  have e : ∀ t f, pAs D F t (p + 1) f ↔ pAs D F t p f := by
    intro t f
    constructor
    · intro hf
      refine ⟨fun m hm => ?_, fun q hq => hf.2 q (by omega)⟩
      obtain ⟨a1, a2, a3⟩ := hf.1 m hm
      have : f m ≠ p := fun e => hp (by rw [← e]; exact a2)
      exact ⟨by omega, a2, a3⟩
    · intro hf
      refine ⟨fun m hm => ?_, fun q hq hq2 => ?_⟩
      · obtain ⟨a1, a2, a3⟩ := hf.1 m hm
        exact ⟨by omega, a2, a3⟩
      · have : q ≠ p := fun e => hp (by rw [← e]; exact hq2)
        exact hf.2 q (by omega) hq2
  intro t ht
  obtain ⟨h1, h2⟩ := h t ht
  refine ⟨fun f hf => h1 f ((e t f).mp hf), fun q => ?_⟩
  obtain ⟨f, f1, f2⟩ := h2 q
  exact ⟨f, (e t f).mpr f1, f2⟩
theorem pSplit {g : Nat → Nat} {t q : Nat} (hq : q &&& t = q) : pSu g t 6 = pSu g q 6 + pSu g (t ^^^ q) 6 := by
  refine pSu_split 6 (fun i _ => ?_)
  obtain ⟨e1, e2⟩ := pXor_sub hq i
  rw [e1]
  cases h1 : q.testBit i
  · simp
  · simp [e2 h1]
theorem pDP_port {D : pD} {F : pF} {s p : Nat} {B B' : Nat → Nat} (hs : s < 64) (hp : pD_pl D p 0 = 2) (h : pDP D F s p B) (h0 : B' 0 = B 0) (hB : ∀ t, 0 < t → t &&& s = t → pPr (fun q => pSu (pCo D F s p) q 6) B (pD_pl D p 3) t 0 (B' t)) : pDP D F s (p + 1) B' := by
  have up : ∀ t f, pAs D F t p f → pAs D F t (p + 1) f := by
    intro t f hf
    refine ⟨fun m hm => ?_, fun q hq hq2 => ?_⟩
    · obtain ⟨a1, a2, a3⟩ := hf.1 m hm
      exact ⟨by omega, a2, a3⟩
    · by_cases e : q = p
      · have : pSu (fun m => if f m = q then 1 else 0) t 6 = pSu (fun _ => 0) t 6 := pSu_cg1 6 (fun i _ hi => by
          have := (hf.1 i hi).1
          show (if f i = q then 1 else 0) = 0
          rw [if_neg (by omega)])
        rw [this]
        have : pSu (fun _ => 0) t 6 ≤ 6 * 0 := pSu_bd 0 6 (fun _ _ _ => Nat.le_refl _)
        omega
      · exact hf.2 q (by omega) hq2
  intro t ht
  have htl := pSub_le ht
  by_cases z : t = 0
  · subst z
    have hh := h 0 ht
    have dn : ∀ f, pAs D F 0 (p + 1) f → pAs D F 0 p f := fun f hf => ⟨fun m hm => by rw [Nat.zero_testBit] at hm; exact absurd hm (by decide), fun q hq => hf.2 q (by omega)⟩
    rw [h0]
    refine ⟨fun f hf => hh.1 f (dn f hf), fun q => ?_⟩
    obtain ⟨f, f1, f2⟩ := hh.2 q
    exact ⟨f, up 0 f f1, f2⟩
  obtain ⟨r1, r2, r3⟩ := hB t (by omega) ht
  refine ⟨fun f hf => ?_, fun hlt => ?_⟩
  · obtain ⟨q, q1, q2⟩ := pSet (fun i => t.testBit i && decide (f i = p)) 6
    have t6 : ∀ i, t.testBit i = true → i < 6 := fun i hi => pTb_lt (n := 6) (show t < 2 ^ 6 by omega) hi
    have q3 : ∀ i, q.testBit i = (t.testBit i && decide (f i = p)) := by
      intro i
      rw [q2]
      by_cases w : i < 6
      · simp [w]
      · cases e : t.testBit i
        · simp
        · exact absurd (t6 i e) w
    have q4 : q &&& t = q := pSub_tb (fun i hi => by rw [q3] at hi; simp at hi; exact hi.1)
    have e1 : pAW D F t f = pAW D F q f + pAW D F (t ^^^ q) f := pSplit q4
    have e2 : ∀ i, q.testBit i = true → f i = p := fun i hi => by rw [q3] at hi; simp at hi; exact hi.2
    have e3 : pSu (pCo D F s p) q 6 = pAW D F q f := by
      refine pSu_cg1 6 (fun i _ hi => ?_)
      have a1 := pSub_of q4 hi
      have a2 := (hf.1 i a1).2.2
      rw [e2 i hi] at a2
      unfold pCo pAw
      rw [if_pos ⟨pSub_of ht a1, a2⟩, e2 i hi]
    have e4 : pSu (fun _ => 1) q 6 ≤ pD_pl D p 3 := by
      have a := hf.2 p (by omega) hp
      have : pSu (fun _ => 1) q 6 = pSu (fun m => if f m = p then 1 else 0) t 6 := pSu_cg 6 (fun i _ => by
        rw [q3]
        by_cases w : f i = p <;> cases e : t.testBit i <;> simp [w])
      omega
    have e5 : pAs D F (t ^^^ q) p f := by
      refine ⟨fun m hm => ?_, fun r hr hr2 => ?_⟩
      · rw [(pXor_sub q4 m).1] at hm
        simp at hm
        obtain ⟨a1, a2, a3⟩ := hf.1 m hm.1
        have : f m ≠ p := fun e => by
          have := hm.2
          rw [q3, hm.1, e] at this
          simp at this
        exact ⟨by omega, a2, a3⟩
      · refine Nat.le_trans (pSu_le 6 (fun i _ => ?_)) (hf.2 r (by omega) hr2)
        rw [(pXor_sub q4 i).1]
        cases t.testBit i <;> cases q.testBit i <;> simp
    by_cases w : q = 0
    · rw [w, Nat.xor_zero] at e5
      exact Nat.le_trans r1 ((h t ht).1 f e5)
    · have a := r2 q q4 (by omega) e4
      have hsub : (t ^^^ q) &&& s = t ^^^ q := pSub_tb (fun i hi => by
        rw [(pXor_sub q4 i).1] at hi
        simp at hi
        exact pSub_of ht hi.1)
      have b := (h _ hsub).1 f e5
      have c : B' t ≤ pSu (pCo D F s p) q 6 + B (t ^^^ q) := a
      omega
  · rcases r3 with r3 | ⟨q, q1, q2, q3, r3⟩
    · rw [r3] at hlt
      obtain ⟨f, f1, f2⟩ := (h t ht).2 hlt
      exact ⟨f, up t f f1, by rw [r3]; exact f2⟩
    · have r3' : B' t = pSu (pCo D F s p) q 6 + B (t ^^^ q) := r3
      have hsub : (t ^^^ q) &&& s = t ^^^ q := pSub_tb (fun i hi => by
        rw [(pXor_sub q1 i).1] at hi
        simp at hi
        exact pSub_of ht hi.1)
      obtain ⟨f, f1, f2⟩ := (h _ hsub).2 (by omega)
      have t6 : ∀ i, t.testBit i = true → i < 6 := fun i hi => pTb_lt (n := 6) (show t < 2 ^ 6 by omega) hi
      have hq : ∀ i, q.testBit i = true → pD_far D (pF_o F i 4) p ≠ 100000 := fun i hi e => by
        have a := pSu_ge (g := pCo D F s p) (t6 i (pSub_of q1 hi)) hi
        unfold pCo at a
        rw [if_neg (by simp [e])] at a
        change 1000000000000 ≤ pSu (pCo D F s p) q 6 at a
        omega
      have fx : ∀ i, (t ^^^ q).testBit i = true → f i < p := fun i hi => (f1.1 i hi).1
      refine ⟨fun m => if q.testBit m = true then p else f m, ⟨fun m hm => ?_, fun r hr hr2 => ?_⟩, ?_⟩
      · by_cases w : q.testBit m = true
        · simp only [if_pos w]; exact ⟨by omega, hp, hq m w⟩
        · simp only [if_neg w]
          obtain ⟨a1, a2, a3⟩ := f1.1 m (by rw [(pXor_sub q1 m).1, hm]; simpa using w)
          exact ⟨by omega, a2, a3⟩
      · by_cases e : r = p
        · have : pSu (fun m => if (if q.testBit m = true then p else f m) = r then 1 else 0) t 6 = pSu (fun _ => 1) q 6 := pSu_cg 6 (fun i _ => by
            rw [e]
            cases w : q.testBit i
            · cases w2 : t.testBit i
              · simp
              · have a := fx i (by rw [(pXor_sub q1 i).1, w, w2]; rfl)
                have : f i ≠ p := by omega
                simp [this]
            · simp [pSub_of q1 w])
          rw [this, e]; exact q3
        · have : pSu (fun m => if (if q.testBit m = true then p else f m) = r then 1 else 0) t 6 = pSu (fun m => if f m = r then 1 else 0) (t ^^^ q) 6 := pSu_cg 6 (fun i _ => by
            rw [(pXor_sub q1 i).1]
            cases w : q.testBit i
            · cases w2 : t.testBit i <;> simp
            · have : p ≠ r := by omega
              simp [this])
          rw [this]; exact f1.2 r (by omega) hr2
      · rw [r3', f2]
        unfold pAW
        rw [pSplit q1 (g := pAw D F (fun m => if q.testBit m = true then p else f m))]
        have e1 : pSu (pCo D F s p) q 6 = pSu (pAw D F (fun m => if q.testBit m = true then p else f m)) q 6 := pSu_cg1 6 (fun i _ hi => by
          unfold pCo pAw
          rw [if_pos ⟨pSub_of ht (pSub_of q1 hi), hq i hi⟩]
          simp only [if_pos hi])
        have e2 : pSu (pAw D F f) (t ^^^ q) 6 = pSu (pAw D F (fun m => if q.testBit m = true then p else f m)) (t ^^^ q) 6 := pSu_cg1 6 (fun i _ hi => by
          rw [(pXor_sub q1 i).1] at hi
          simp at hi
          unfold pAw
          simp only [hi.2, if_false, Bool.false_eq_true])
        rw [e1, e2]
/-- a sum of miles and digits -/
theorem pAW_parts {D : pD} {F : pF} {t : Nat} {f : Nat → Nat} : pAW D F t f = pSu (fun m => pD_far D (pF_o F m 4) (f m)) t 6 * 1000000 + pSu (fun m => f m * 10 ^ (5 - m)) t 6 := by
  unfold pAW
  rw [← pSu_mul, ← pSu_add2]
  rfl
theorem pDig0 (c : Nat → Nat) (hc : ∀ i, c i ≤ 9) (T : Nat) : (((((c 0 * 10 + c 1) * 10 + c 2) * 10 + c 3) * 10 + c 4) * 10 + c 5) < 1000000 ∧ ∀ m, m < 6 → (T * 1000000 + (((((c 0 * 10 + c 1) * 10 + c 2) * 10 + c 3) * 10 + c 4) * 10 + c 5)) / 10 ^ (5 - m) % 10 = c m := by
  have b0 := hc 0
  have b1 := hc 1
  have b2 := hc 2
  have b3 := hc 3
  have b4 := hc 4
  have b5 := hc 5
  refine ⟨by omega, fun m hm => ?_⟩
  rcases (show m = 0 ∨ m = 1 ∨ m = 2 ∨ m = 3 ∨ m = 4 ∨ m = 5 by omega) with rfl | rfl | rfl | rfl | rfl | rfl
  · show _ / 100000 % 10 = _; omega
  · show _ / 10000 % 10 = _; omega
  · show _ / 1000 % 10 = _; omega
  · show _ / 100 % 10 = _; omega
  · show _ / 10 % 10 = _; omega
  · show _ / 1 % 10 = _; omega
theorem pDgt {t : Nat} {f : Nat → Nat} (h : ∀ m, t.testBit m = true → f m ≤ 9) (T : Nat) : pSu (fun m => f m * 10 ^ (5 - m)) t 6 < 1000000 ∧ ∀ m, m < 6 → (T * 1000000 + pSu (fun m => f m * 10 ^ (5 - m)) t 6) / 10 ^ (5 - m) % 10 = if t.testBit m = true then f m else 0 := by
  have e : ∀ m, (if t.testBit m = true then f m * 10 ^ (5 - m) else 0) = (if t.testBit m = true then f m else 0) * 10 ^ (5 - m) := by
    intro m; split <;> simp
  have hs : pSu (fun m => f m * 10 ^ (5 - m)) t 6 = ((((((if t.testBit 0 = true then f 0 else 0) * 10 + (if t.testBit 1 = true then f 1 else 0)) * 10 + (if t.testBit 2 = true then f 2 else 0)) * 10 + (if t.testBit 3 = true then f 3 else 0)) * 10 + (if t.testBit 4 = true then f 4 else 0)) * 10 + (if t.testBit 5 = true then f 5 else 0)) := by
    simp only [pSu, e]
    omega
  rw [hs]
  exact pDig0 (fun m => if t.testBit m = true then f m else 0) (fun m => by
    show (if t.testBit m = true then f m else 0) ≤ 9
    split
    · rename_i q; exact h m q
    · omega) T
theorem pDigB {t : Nat} {f : Nat → Nat} (h : ∀ m, t.testBit m = true → f m ≤ 9) : ∀ (e : Nat) {j : Nat}, j + e = 6 → pSu (fun m => f m * 10 ^ (5 - m)) t 6 < pSu (fun m => f m * 10 ^ (5 - m)) t j + 10 ^ e
  | 0, j, hj => by rw [show j = 6 by omega]; omega
  | e + 1, j, hj => by
    have ih := pDigB h e (j := j + 1) (by omega)
    have e2 : pSu (fun m => f m * 10 ^ (5 - m)) t (j + 1) = pSu (fun m => f m * 10 ^ (5 - m)) t j + (if t.testBit j = true then f j * 10 ^ (5 - j) else 0) := pSu_succ _ _ _
    rw [e2] at ih
    rw [Nat.pow_succ]
    have e1 : 5 - j = e := by omega
    have : (if t.testBit j = true then f j * 10 ^ (5 - j) else 0) ≤ 9 * 10 ^ e := by
      split
      · rename_i q; rw [e1]; exact Nat.mul_le_mul_right _ (h j q)
      · omega
    omega
