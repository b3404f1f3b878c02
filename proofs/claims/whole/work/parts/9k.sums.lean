/-! sums over a set of men -/
def pSu (g : Nat → Nat) (s : Nat) : Nat → Nat
  | 0 => 0
  | n + 1 => pSu g s n + (if s.testBit n then g n else 0)
theorem pSu_succ (g : Nat → Nat) (s n : Nat) : pSu g s (n + 1) = pSu g s n + (if s.testBit n then g n else 0) := rfl
theorem pSu_cg {g g' : Nat → Nat} {s t : Nat} : ∀ (n : Nat), (∀ i, i < n → (if s.testBit i then g i else 0) = (if t.testBit i then g' i else 0)) → pSu g s n = pSu g' t n
  | 0, _ => rfl
  | n + 1, h => by rw [pSu_succ, pSu_succ, pSu_cg n (fun i hi => h i (by omega)), h n (by omega)]
theorem pSu_cg1 {g g' : Nat → Nat} {s : Nat} (n : Nat) (h : ∀ i, i < n → s.testBit i = true → g i = g' i) : pSu g s n = pSu g' s n := by
  refine pSu_cg n (fun i hi => ?_)
  by_cases q : s.testBit i = true
  · rw [if_pos q, if_pos q, h i hi q]
  · rw [if_neg q, if_neg q]
theorem pSu_le {g g' : Nat → Nat} {s t : Nat} : ∀ (n : Nat), (∀ i, i < n → (if s.testBit i then g i else 0) ≤ (if t.testBit i then g' i else 0)) → pSu g s n ≤ pSu g' t n
  | 0, _ => Nat.le_refl _
  | n + 1, h => by
    rw [pSu_succ, pSu_succ]
    have := pSu_le n (fun i hi => h i (by omega))
    have := h n (by omega)
    omega
theorem pSu_split {g : Nat → Nat} {s p q : Nat} : ∀ (n : Nat), (∀ i, i < n → (if s.testBit i then g i else 0) = (if p.testBit i then g i else 0) + (if q.testBit i then g i else 0)) → pSu g s n = pSu g p n + pSu g q n
  | 0, _ => rfl
  | n + 1, h => by
    rw [pSu_succ, pSu_succ, pSu_succ, pSu_split n (fun i hi => h i (by omega)), h n (by omega)]; omega
theorem pSu_add2 {g g' : Nat → Nat} {s : Nat} : ∀ n, pSu (fun i => g i + g' i) s n = pSu g s n + pSu g' s n
  | 0 => rfl
  | n + 1 => by
    rw [pSu_succ, pSu_succ, pSu_succ, pSu_add2 n]
    split <;> omega
theorem pSu_mul {g : Nat → Nat} {s : Nat} (c : Nat) : ∀ n, pSu (fun i => g i * c) s n = pSu g s n * c
  | 0 => by simp [pSu]
  | n + 1 => by
    rw [pSu_succ, pSu_succ, pSu_mul c n, Nat.add_mul]
    split <;> simp
theorem pSu_bd {g : Nat → Nat} {s : Nat} (c : Nat) : ∀ n, (∀ i, i < n → s.testBit i = true → g i ≤ c) → pSu g s n ≤ n * c
  | 0, _ => by simp [pSu]
  | n + 1, h => by
    rw [pSu_succ, Nat.add_mul]
    have h1 := pSu_bd c n (fun i hi => h i (by omega))
    by_cases q : s.testBit n = true
    · rw [if_pos q]; have := h n (by omega) q; omega
    · rw [if_neg q]; omega
theorem pSu_mono {g : Nat → Nat} {s : Nat} : ∀ {n m : Nat}, n ≤ m → pSu g s n ≤ pSu g s m
  | n, 0, h => by rw [show n = 0 by omega]; exact Nat.le_refl _
  | n, m + 1, h => by
    by_cases q : n = m + 1
    · rw [q]; exact Nat.le_refl _
    · rw [pSu_succ]
      have := pSu_mono (g := g) (s := s) (n := n) (m := m) (by omega)
      omega
theorem pSu_ge {g : Nat → Nat} {s : Nat} {i n : Nat} (hi : i < n) (h : s.testBit i = true) : g i ≤ pSu g s n := by
  have h1 := pSu_mono (g := g) (s := s) (n := i + 1) (m := n) (by omega)
  rw [pSu_succ, if_pos h] at h1
  omega
theorem pSu_zero (g : Nat → Nat) : ∀ n, pSu g 0 n = 0
  | 0 => rfl
  | n + 1 => by rw [pSu_succ, pSu_zero g n]; simp
/-- how many are in a set of six -/
theorem pPop : ∀ s : Fin 64, f_J6_bitCount_0f7a4 (zn s.val) = some (zn (pSu (fun _ => 1) s.val 6)) := by decide +kernel
theorem pAndN : ∀ s p : Fin 64, (zn s.val &&& (zn p.val ^^^ (-1 : Int32))) = zn (s.val ^^^ (s.val &&& p.val)) := by decide +kernel
theorem pXor_sub {s p : Nat} (h : p &&& s = p) (i : Nat) : (s ^^^ p).testBit i = (s.testBit i && !p.testBit i) ∧ (p.testBit i = true → s.testBit i = true) := by
  have e : p.testBit i = (p.testBit i && s.testBit i) := by rw [← Nat.testBit_and, h]
  rw [Nat.testBit_xor]
  cases h1 : p.testBit i <;> cases h2 : s.testBit i <;> simp_all
theorem pXor_sum {s p : Nat} (hs : s < 64) (h : p &&& s = p) : p + (s ^^^ p) = s := by
  have hp : p < 64 := by have := Nat.and_le_right (n := p) (m := s); omega
  have : ∀ s p : Fin 64, p.val &&& s.val = p.val → p.val + (s.val ^^^ p.val) = s.val := by decide +kernel
  exact this ⟨s, hs⟩ ⟨p, hp⟩ h
theorem pOr_add {x m : Nat} (hx : x < 2 ^ m) : x ||| 2 ^ m = x + 2 ^ m := Nat.eq_of_testBit_eq (fun i => by rw [pTb_or, pTb_add hx])
theorem pSub_tb {p s : Nat} (h : ∀ i, p.testBit i = true → s.testBit i = true) : p &&& s = p := by
  apply Nat.eq_of_testBit_eq
  intro i
  rw [Nat.testBit_and]
  have := h i
  cases h1 : p.testBit i
  · rfl
  · rw [this h1]; rfl
theorem pSub_le {p s : Nat} (h : p &&& s = p) : p ≤ s := by rw [← h]; exact Nat.and_le_right
theorem pTb_nz {t : Nat} (h : t ≠ 0) : ∃ i, t.testBit i = true := by
  by_cases q : ∃ i, t.testBit i = true
  · exact q
  · exfalso
    apply h
    apply Nat.eq_of_testBit_eq
    intro i
    rw [Nat.zero_testBit]
    cases e : t.testBit i
    · rfl
    · exact absurd ⟨i, e⟩ q
theorem pSu_more {g : Nat → Nat} {s a : Nat} (h : ∀ i, s.testBit i = true → i < a) : ∀ {n : Nat}, a ≤ n → pSu g s a = pSu g s n
  | 0, q => by rw [show a = 0 by omega]
  | n + 1, q => by
    by_cases z : a = n + 1
    · rw [z]
    · rw [pSu_succ, ← pSu_more h (n := n) (by omega), if_neg]
      · rfl
      · intro b; have := h n b; omega
