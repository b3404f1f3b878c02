/-! PLAN: the chances -/
def pMr (u : Nat → Nat) (i : Nat) : Nat → Nat
  | 0 => 0
  | c + 1 => max (pMr u i c) (u (i + c))
theorem pMr_succ (u : Nat → Nat) (i c : Nat) : pMr u i (c + 1) = max (pMr u i c) (u (i + c)) := rfl
theorem pMr_le {u : Nat → Nat} {i j : Nat} : ∀ {c : Nat}, i ≤ j → j < i + c → u j ≤ pMr u i c
  | 0, h1, h2 => by omega
  | c + 1, h1, h2 => by
    rw [pMr_succ]
    by_cases q : j = i + c
    · rw [q]; exact Nat.le_max_right _ _
    · have := pMr_le (u := u) (c := c) h1 (by omega)
      exact Nat.le_trans this (Nat.le_max_left _ _)
theorem pMr_at (u : Nat → Nat) (i : Nat) : ∀ c, pMr u i c = 0 ∨ ∃ j, i ≤ j ∧ j < i + c ∧ pMr u i c = u j
  | 0 => Or.inl rfl
  | c + 1 => by
    rw [pMr_succ]
    by_cases q : pMr u i c ≤ u (i + c)
    · rw [Nat.max_eq_right q]
      exact Or.inr ⟨i + c, by omega, by omega, rfl⟩
    · rw [Nat.max_eq_left (by omega)]
      rcases pMr_at u i c with h | ⟨j, h1, h2, h3⟩
      · exact Or.inl h
      · exact Or.inr ⟨j, h1, by omega, h3⟩
theorem pMr_bd {u : Nat → Nat} {i b : Nat} {c : Nat} (h : ∀ j, i ≤ j → j < i + c → u j ≤ b) : pMr u i c ≤ b := by
  rcases pMr_at u i c with q | ⟨j, h1, h2, h3⟩
  · omega
  · rw [h3]; exact h j h1 h2
theorem pMr_zero (u : Nat → Nat) : ∀ c, pMr u 0 (c + 1) = max (u 0) (pMr u 1 c)
  | 0 => by rw [pMr_succ]; show max 0 (u (0 + 0)) = max (u 0) 0; rw [Nat.max_comm]
  | c + 1 => by
    rw [pMr_succ, pMr_zero u c, pMr_succ, Nat.max_assoc]
    rw [show 0 + (c + 1) = 1 + c by omega]
/-- with k days left and g miles gone, in how many of 12 to the k cases he is there -/
def pWv (lv : Nat → Nat) (pace all : Nat) : Nat → Nat → Nat
  | 0, g => if g = all then 1 else 0
  | k + 1, g => if g = all then 12 ^ (k + 1) else pMr (fun n => lv (g + n) * pWv lv pace all k (g + n)) 1 (min pace (all - g))
section
variable {lv : Nat → Nat} {pace all : Nat}
theorem pWv_zero {g : Nat} (h : g ≠ all) : pWv lv pace all 0 g = 0 := by simp only [pWv]; rw [if_neg h]
theorem pWv_succ {k g : Nat} (h : g ≠ all) : pWv lv pace all (k + 1) g = pMr (fun n => lv (g + n) * pWv lv pace all k (g + n)) 1 (min pace (all - g)) := by
  show (if g = all then _ else _) = _
  rw [if_neg h]
theorem pWv_all (k : Nat) : pWv lv pace all k all = 12 ^ k := by
  cases k with
  | zero => show (if all = all then 1 else 0) = _; rw [if_pos rfl]
  | succ k => show (if all = all then _ else _) = _; rw [if_pos rfl]
theorem pWv_bd (hl : ∀ g, lv g ≤ 12) : ∀ k g, pWv lv pace all k g ≤ 12 ^ k
  | 0, g => by
    show (if g = all then 1 else 0) ≤ 12 ^ 0
    split <;> simp
  | k + 1, g => by
    by_cases q : g = all
    · rw [q, pWv_all]; exact Nat.le_refl _
    · rw [pWv_succ q]
      refine pMr_bd (fun j _ _ => ?_)
      show lv (g + j) * pWv lv pace all k (g + j) ≤ 12 ^ (k + 1)
      rw [Nat.pow_succ, Nat.mul_comm (12 ^ k)]
      exact Nat.mul_le_mul (hl _) (pWv_bd hl k _)
/-- a day more never makes it less likely -/
theorem pWv_mono (hl : ∀ g, lv g ≤ 12) : ∀ k g, 12 * pWv lv pace all k g ≤ pWv lv pace all (k + 1) g
  | 0, g => by
    by_cases q : g = all
    · rw [q, pWv_all, pWv_all]; exact Nat.le_refl _
    · rw [pWv_zero q]; exact Nat.zero_le _
  | k + 1, g => by
    by_cases q : g = all
    · rw [q, pWv_all, pWv_all, Nat.pow_succ 12 (k + 1), Nat.mul_comm]; exact Nat.le_refl _
    · rw [pWv_succ q, pWv_succ q]
      rcases pMr_at (fun n => lv (g + n) * pWv lv pace all k (g + n)) 1 (min pace (all - g)) with h | ⟨j, h1, h2, h3⟩
      · rw [h]; exact Nat.zero_le _
      · rw [h3]
        refine Nat.le_trans ?_ (pMr_le (u := fun n => lv (g + n) * pWv lv pace all (k + 1) (g + n)) h1 h2)
        show 12 * (lv (g + j) * pWv lv pace all k (g + j)) ≤ lv (g + j) * pWv lv pace all (k + 1) (g + j)
        rw [Nat.mul_left_comm]
        exact Nat.mul_le_mul_left _ (pWv_mono hl k _)
/-- a night never makes it likelier -/
theorem pWv_rest (hl : ∀ g, lv g ≤ 12) {k g : Nat} (h : g ≠ all) : max (lv g * pWv lv pace all k g) (pMr (fun n => lv (g + n) * pWv lv pace all k (g + n)) 1 (min pace (all - g))) = pWv lv pace all (k + 1) g := by
  rw [← pWv_succ h]
  refine Nat.max_eq_right (Nat.le_trans (Nat.mul_le_mul_right _ (hl g)) (pWv_mono hl k g))
/-- the miles of the first plan: the least from i on that are as good as any -/
def pMi (lv : Nat → Nat) (pace all k g i n : Nat) : Prop :=
  i ≤ n ∧ 1 ≤ k ∧ n ≤ pace ∧ g + n ≤ all ∧ lv (g + n) * pWv lv pace all (k - 1) (g + n) = pWv lv pace all k g ∧ ∀ j, i ≤ j → j < n → lv (g + j) * pWv lv pace all (k - 1) (g + j) ≠ pWv lv pace all k g
theorem pFirst {P : Nat → Prop} {i n : Nat} (hn : P n) : ∀ d, i + d = n → (∀ j, Decidable (P j)) → ∃ m, i ≤ m ∧ m ≤ n ∧ P m ∧ ∀ j, i ≤ j → j < m → ¬ P j
  | 0, h, _ => ⟨n, by omega, Nat.le_refl _, hn, fun j h1 h2 => by omega⟩
  | d + 1, h, hd => by
    by_cases q : P i
    · exact ⟨i, Nat.le_refl _, by omega, q, fun j h1 h2 => by omega⟩
    · obtain ⟨m, m1, m2, m3, m4⟩ := pFirst (i := i + 1) hn d (by omega) hd
      refine ⟨m, by omega, m2, m3, fun j h1 h2 => ?_⟩
      by_cases z : j = i
      · rw [z]; exact q
      · exact m4 j (by omega) h2
theorem pMi_ex {k g i : Nat} (hg : g < all) (h0 : pWv lv pace all k g ≠ 0) (hi : i ≤ 1) : ∃ n, pMi lv pace all k g i n := by
  cases k with
  | zero => exact absurd (pWv_zero (by omega)) h0
  | succ k =>
    have e := pWv_succ (lv := lv) (pace := pace) (all := all) (k := k) (g := g) (by omega)
    rcases pMr_at (fun n => lv (g + n) * pWv lv pace all k (g + n)) 1 (min pace (all - g)) with h | ⟨j, h1, h2, h3⟩
    · rw [h] at e; exact absurd e h0
    · have hj : (fun n => lv (g + n) * pWv lv pace all k (g + n) = pWv lv pace all (k + 1) g) j := by
        show lv (g + j) * pWv lv pace all k (g + j) = _
        rw [e, h3]
      obtain ⟨m, m1, m2, m3, m4⟩ := pFirst (P := fun n => lv (g + n) * pWv lv pace all k (g + n) = pWv lv pace all (k + 1) g) (n := j) (i := i) hj (j - i) (by omega) (fun _ => inferInstance)
      exact ⟨m, m1, by omega, by omega, by omega, m3, m4⟩
theorem pMi_pos {k g i n : Nat} (h : pMi lv pace all k g i n) (h0 : pWv lv pace all k g ≠ 0) : pWv lv pace all (k - 1) (g + n) ≠ 0 := by
  intro e
  have := h.2.2.2.2.1
  rw [e, Nat.mul_zero] at this
  exact h0 this.symm
end
