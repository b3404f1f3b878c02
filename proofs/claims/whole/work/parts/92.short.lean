/-! shortest ways, in numbers -/
def pStp (k : Nat) (g : Nat → Nat → Nat) (a b : Nat) : Nat := min (g a b) (g a k + g k b)
def pFw (f : Nat → Nat → Nat) : Nat → Nat → Nat → Nat
  | 0 => f
  | k + 1 => pStp k (pFw f k)
theorem pFw_le (f : Nat → Nat → Nat) (k a b : Nat) : pFw f (k + 1) a b ≤ pFw f k a b := Nat.min_le_left _ _
theorem pFw_le0 (f : Nat → Nat → Nat) (a b : Nat) : ∀ k, pFw f k a b ≤ f a b
  | 0 => Nat.le_refl _
  | k + 1 => Nat.le_trans (pFw_le f k a b) (pFw_le0 f a b k)
theorem pFw_mono (f : Nat → Nat → Nat) (k a b : Nat) : ∀ d, pFw f (k + d) a b ≤ pFw f k a b
  | 0 => Nat.le_refl _
  | d + 1 => Nat.le_trans (pFw_le f (k + d) a b) (pFw_mono f k a b d)
/-- by each place seen, no way is shorter -/
theorem pFw_tri (f : Nat → Nat → Nat) : ∀ k c a b, c < k → pFw f k a b ≤ pFw f k a c + pFw f k c b
  | 0, c, a, b, h => by omega
  | k + 1, c, a, b, h => by
    have e : ∀ x y, pFw f (k + 1) x y = min (pFw f k x y) (pFw f k x k + pFw f k k y) := fun x y => rfl
    by_cases q : c = k
    · subst q
      rw [e a b, e a c, e c b]; omega
    · have hc : c < k := by omega
      have t1 := pFw_tri f k c a b hc
      have t2 := pFw_tri f k c k b hc
      have t3 := pFw_tri f k c a k hc
      rw [e a b, e a c, e c b]; omega
theorem pFw_diag {f : Nat → Nat → Nat} {a : Nat} (h : f a a = 0) (k : Nat) : pFw f k a a = 0 := by
  have := pFw_le0 f a a k
  omega
/-- the first step of a shortest way -/
theorem pFw_first {f : Nat → Nat → Nat} {n : Nat} (h0 : ∀ a, a < n → f a a = 0) : ∀ k a b, k ≤ n → a < n → b < n → a ≠ b → pFw f k a b < 100000 → ∃ p, p ≠ a ∧ p < n ∧ f a p < 100000 ∧ f a p + pFw f n p b ≤ pFw f k a b
  | 0, a, b, hk, ha, hb, hab, hl => by
    have hl' : f a b < 100000 := hl
    refine ⟨b, fun q => hab q.symm, hb, hl', ?_⟩
    rw [pFw_diag (h0 b hb)]; exact Nat.le_refl _
  | k + 1, a, b, hk, ha, hb, hab, hl => by
    have e : pFw f (k + 1) a b = min (pFw f k a b) (pFw f k a k + pFw f k k b) := rfl
    by_cases q : pFw f k a b ≤ pFw f k a k + pFw f k k b
    · have e2 : pFw f (k + 1) a b = pFw f k a b := by rw [e]; omega
      rw [e2] at hl ⊢
      exact pFw_first h0 k a b (by omega) ha hb hab hl
    · have e2 : pFw f (k + 1) a b = pFw f k a k + pFw f k k b := by rw [e]; omega
      have hak : a ≠ k := by
        rintro rfl
        rw [pFw_diag (h0 a ha)] at q; omega
      obtain ⟨p, p1, p2, p3, p4⟩ := pFw_first h0 k a k (by omega) ha (by omega) hak (by omega)
      refine ⟨p, p1, p2, p3, ?_⟩
      have t := pFw_tri f n k p b (by omega)
      have m := pFw_mono f k k b (n - k)
      rw [show k + (n - k) = n by omega] at m
      rw [e2]; omega
/-- places that are not in the land change nothing -/
theorem pFw_out {f : Nat → Nat → Nat} {n : Nat} (hf : ∀ a b, f a b ≤ 100000) (hout : ∀ a b, a ≠ b → (n ≤ a ∨ n ≤ b) → f a b = 100000) : ∀ k a b, a ≠ b → (n ≤ a ∨ n ≤ b) → pFw f k a b = 100000
  | 0, a, b, h, h2 => hout a b h h2
  | k + 1, a, b, h, h2 => by
    have e : pFw f (k + 1) a b = min (pFw f k a b) (pFw f k a k + pFw f k k b) := rfl
    have e1 := pFw_out hf hout k a b h h2
    rw [e, e1]
    have : 100000 ≤ pFw f k a k + pFw f k k b := by
      by_cases q : a = k
      · subst q
        rw [e1]; omega
      · by_cases q2 : k = b
        · subst q2; rw [e1]; omega
        · rcases h2 with h2 | h2
          · rw [pFw_out hf hout k a k q (Or.inl h2)]; omega
          · rw [pFw_out hf hout k k b q2 (Or.inr h2)]; omega
    omega
theorem pFw_more {f : Nat → Nat → Nat} {n : Nat} (hf : ∀ a b, f a b ≤ 100000) (hout : ∀ a b, a ≠ b → (n ≤ a ∨ n ≤ b) → f a b = 100000) {a b : Nat} (ha : a < n) (hb : b < n) : ∀ d, pFw f (n + d) a b = pFw f n a b
  | 0 => rfl
  | d + 1 => by
    have e : pFw f (n + d + 1) a b = min (pFw f (n + d) a b) (pFw f (n + d) a (n + d) + pFw f (n + d) (n + d) b) := rfl
    have i := pFw_more hf hout ha hb d
    have o := pFw_out hf hout (n + d) a (n + d) (by omega) (Or.inr (by omega))
    have l := pFw_le0 f a b (n + d)
    have := hf a b
    show pFw f (n + d + 1) a b = _
    rw [e, i, o]; rw [i] at l; omega
/-- one matrix, in the middle of a step -/
def pPart (k : Nat) (g : Nat → Nat → Nat) (a b x y : Nat) : Nat := if x < a ∨ (x = a ∧ y < b) then pStp k g x y else g x y
theorem pPart_at (k : Nat) (g : Nat → Nat → Nat) (a b : Nat) : pPart k g a b a b = g a b := by unfold pPart; rw [if_neg (by omega)]
theorem pPart_col {k : Nat} {g : Nat → Nat → Nat} (h : g k k = 0) (a b x : Nat) : pPart k g a b x k = g x k := by
  unfold pPart pStp
  rw [h]; split <;> omega
theorem pPart_row {k : Nat} {g : Nat → Nat → Nat} (h : g k k = 0) (a b y : Nat) : pPart k g a b k y = g k y := by
  unfold pPart pStp
  rw [h]; split <;> omega
theorem pPart_next (k : Nat) (g : Nat → Nat → Nat) (a b x y : Nat) : pPart k g a (b + 1) x y = if x = a ∧ y = b then pStp k g a b else pPart k g a b x y := by
  unfold pPart
  by_cases q : x = a ∧ y = b
  · rw [if_pos q, if_pos (by omega), q.1, q.2]
  · rw [if_neg q]
    by_cases q2 : x < a ∨ (x = a ∧ y < b)
    · rw [if_pos (by omega), if_pos q2]
    · rw [if_neg (by omega), if_neg q2]
theorem pPart_down {k : Nat} {g : Nat → Nat → Nat} {n a x y : Nat} (hy : y < n) : pPart k g (a + 1) 0 x y = pPart k g a n x y := by
  unfold pPart
  by_cases q : x < a ∨ (x = a ∧ y < n)
  · rw [if_pos (by omega), if_pos q]
  · rw [if_neg (by omega), if_neg q]
theorem pPart_first (k : Nat) (g : Nat → Nat → Nat) (x y : Nat) : pPart k g 0 0 x y = g x y := by unfold pPart; rw [if_neg (by omega)]
theorem pPart_last {k n : Nat} {g : Nat → Nat → Nat} {x y : Nat} (hx : x < n) : pPart k g n 0 x y = pStp k g x y := by unfold pPart; rw [if_pos (by omega)]
/-- a place from which no way leads by k: its row stays -/
theorem pPart_skip {k : Nat} {g : Nat → Nat → Nat} {n a b x y : Nat} (hk : 100000 ≤ g a k) (hg : g a y ≤ 100000) (hy : y < n) : pPart k g a n x y = pPart k g a b x y := by
  unfold pPart
  by_cases q : x = a
  · subst q
    rw [if_pos (by omega)]
    unfold pStp; split <;> omega
  · by_cases q2 : x < a
    · rw [if_pos (by omega), if_pos (by omega)]
    · rw [if_neg (by omega), if_neg (by omega)]
/-- the miles at the start -/
def pF0 (D : pD) (a b : Nat) : Nat := if a = b then 0 else if a < pD_np D ∧ b < pD_np D ∧ pD_rd D a b ≠ 0 then pD_ro D (pD_rd D a b - 1) 2 else 100000
/-- the roads of a land -/
def pBt (D : pD) : Prop := pD_np D ≤ 10 ∧ pD_nr D ≤ 16 ∧
  (∀ r, r < pD_nr D → (pD_ro D r 0 < pD_np D ∧ pD_ro D r 1 < pD_np D ∧ pD_ro D r 0 ≠ pD_ro D r 1) ∧ 1 ≤ pD_ro D r 2 ∧ pD_ro D r 2 ≤ 30 ∧ pD_rd D (pD_ro D r 0) (pD_ro D r 1) = r + 1 ∧ pD_rd D (pD_ro D r 1) (pD_ro D r 0) = r + 1) ∧
  (∀ a b, a < 10 → b < 10 → ∀ r, pD_rd D a b = r + 1 → r < pD_nr D ∧ ((pD_ro D r 0 = a ∧ pD_ro D r 1 = b) ∨ (pD_ro D r 0 = b ∧ pD_ro D r 1 = a)))
theorem pBt.le {D : pD} (h : pBt D) (a b : Nat) : pF0 D a b ≤ 100000 := by
  unfold pF0
  by_cases q : a = b
  · rw [if_pos q]; omega
  rw [if_neg q]
  by_cases q2 : a < pD_np D ∧ b < pD_np D ∧ pD_rd D a b ≠ 0
  · rw [if_pos q2]
    have := h.1
    obtain ⟨i, -⟩ := h.2.2.2 a b (by omega) (by omega) (pD_rd D a b - 1) (by omega)
    have := (h.2.2.1 _ i).2.2.1
    omega
  · rw [if_neg q2]; omega
theorem pBt.out {D : pD} (a b : Nat) (h1 : a ≠ b) (h2 : pD_np D ≤ a ∨ pD_np D ≤ b) : pF0 D a b = 100000 := by
  unfold pF0
  rw [if_neg h1, if_neg (by omega)]
theorem pBt.diag {D : pD} (a : Nat) : pF0 D a a = 0 := by unfold pF0; rw [if_pos rfl]
theorem pFw_lim {D : pD} (h : pBt D) (k a b : Nat) : pFw (pF0 D) k a b ≤ 100000 := Nat.le_trans (pFw_le0 _ _ _ _) (h.le a b)
