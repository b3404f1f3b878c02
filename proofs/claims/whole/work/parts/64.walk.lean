/-! ways -/
def pRd (D : pD) (a b : Nat) : Nat := pD_rd D a (pD_nx D a b - 1) - 1
def pNx (D : pD) (a b : Nat) : Nat := pD_nx D a b - 1
theorem pV.stp {D : pD} (hv : pV D) {a b : Nat} (ha : a < pD_np D) (hb : b < pD_np D) (hab : a ≠ b) (hj : pD_far D a b ≠ 100000) :
    (pD_nx D a b = pNx D a b + 1 ∧ pNx D a b < pD_np D) ∧ (pD_rd D a (pNx D a b) = pRd D a b + 1 ∧ pRd D a b < pD_nr D) ∧ pLen D a b = pD_ro D (pRd D a b) 2 ∧ pLen D a b + pD_far D (pNx D a b) b = pD_far D a b ∧ 1 ≤ pLen D a b ∧ pLen D a b ≤ 30 ∧ pD_far D (pNx D a b) b ≠ 100000 ∧ pCl D b (pNx D a b) < pCl D b a := by
  obtain ⟨p, r, h1, h2, h3, h4, h5, h6, h7, h8, h9, h10⟩ := hv.step ha hb hab hj
  have e1 : pNx D a b = p := by simp [pNx, h1]
  have e2 : pRd D a b = r := by simp [pRd, h1, h3]
  rw [e1, e2, h5]
  exact ⟨⟨h1, h2⟩, ⟨h3, h4⟩, rfl, h6, h7, h8, h9, h10⟩
theorem pWalk_zero (D : pD) (b a g : Nat) : pWalk D b 0 a g = (a, g) := rfl
theorem pWalk_succ (D : pD) (b n a g : Nat) : pWalk D b (n + 1) a g = if a = b ∨ g < pLen D a b then (a, g) else pWalk D b n (pNx D a b) (g - pLen D a b) := rfl
theorem pWalk_stay {D : pD} {b n a g : Nat} (h : a = b ∨ g < pLen D a b) : pWalk D b n a g = (a, g) := by
  cases n with
  | zero => rfl
  | succ n => rw [pWalk_succ, if_pos h]
theorem pWalk_fuel {D : pD} (hv : pV D) {b : Nat} (hb : b < pD_np D) : ∀ (n : Nat) {a g n' : Nat}, a < pD_np D → pD_far D a b ≠ 100000 → pCl D b a < n → pCl D b a < n' → pWalk D b n a g = pWalk D b n' a g
  | 0, a, g, n', ha, hj, h1, h2 => by omega
  | n + 1, a, g, 0, ha, hj, h1, h2 => by omega
  | n + 1, a, g, n' + 1, ha, hj, h1, h2 => by
    rw [pWalk_succ, pWalk_succ]
    by_cases q : a = b ∨ g < pLen D a b
    · rw [if_pos q, if_pos q]
    · rw [if_neg q, if_neg q]
      obtain ⟨⟨-, s1⟩, -, -, -, -, -, s2, s3⟩ := hv.stp ha hb (fun e => q (Or.inl e)) hj
      exact pWalk_fuel hv hb n s1 s2 (by omega) (by omega)
/-- one step on -/
theorem pWalk_on {D : pD} (hv : pV D) {a b g : Nat} (ha : a < pD_np D) (hb : b < pD_np D) (hab : a ≠ b) (hj : pD_far D a b ≠ 100000) (hg : pLen D a b ≤ g) : pWalk D b 10 a g = pWalk D b 10 (pNx D a b) (g - pLen D a b) := by
  rw [pWalk_succ, if_neg (by omega)]
  obtain ⟨⟨-, s1⟩, -, -, -, -, -, s2, s3⟩ := hv.stp ha hb hab hj
  have := pCl_le hv (b := b) ha
  exact pWalk_fuel hv hb 9 s1 s2 (by omega) (by omega)
/-- induction along the way to b -/
theorem pV.ind {D : pD} (hv : pV D) {b : Nat} (hb : b < pD_np D) {P : Nat → Prop} (h0 : P b) (hs : ∀ a, a < pD_np D → a ≠ b → pD_far D a b ≠ 100000 → pNx D a b < pD_np D → pD_far D (pNx D a b) b ≠ 100000 → P (pNx D a b) → P a) : ∀ (n : Nat) {a : Nat}, a < pD_np D → pD_far D a b ≠ 100000 → pCl D b a < n → P a
  | 0, a, ha, hj, h1 => by omega
  | n + 1, a, ha, hj, h1 => by
    by_cases q : a = b
    · rw [q]; exact h0
    · obtain ⟨⟨-, s1⟩, -, -, -, -, -, s2, s3⟩ := hv.stp ha hb q hj
      exact hs a ha q hj s1 s2 (pV.ind hv hb h0 hs n s1 s2 (by omega))
theorem pV.way {D : pD} (hv : pV D) {b : Nat} (hb : b < pD_np D) {P : Nat → Prop} (h0 : P b) (hs : ∀ a, a < pD_np D → a ≠ b → pD_far D a b ≠ 100000 → pNx D a b < pD_np D → pD_far D (pNx D a b) b ≠ 100000 → P (pNx D a b) → P a) {a : Nat} (ha : a < pD_np D) (hj : pD_far D a b ≠ 100000) : P a :=
  hv.ind hb h0 hs (pCl D b a + 1) ha hj (by omega)
/-- where he is: what is left -/
theorem pWalk_props {D : pD} (hv : pV D) {b : Nat} (hb : b < pD_np D) {a : Nat} (ha : a < pD_np D) (hj : pD_far D a b ≠ 100000) : ∀ g, g ≤ pD_far D a b → (pWalk D b 10 a g).1 < pD_np D ∧ pD_far D (pWalk D b 10 a g).1 b ≠ 100000 ∧ (pWalk D b 10 a g).2 + pD_far D a b = g + pD_far D (pWalk D b 10 a g).1 b ∧ ((pWalk D b 10 a g).1 = b ∨ (pWalk D b 10 a g).2 < pLen D (pWalk D b 10 a g).1 b) := by
  refine hv.way hb (P := fun a => ∀ g, g ≤ pD_far D a b → (pWalk D b 10 a g).1 < pD_np D ∧ pD_far D (pWalk D b 10 a g).1 b ≠ 100000 ∧ (pWalk D b 10 a g).2 + pD_far D a b = g + pD_far D (pWalk D b 10 a g).1 b ∧ ((pWalk D b 10 a g).1 = b ∨ (pWalk D b 10 a g).2 < pLen D (pWalk D b 10 a g).1 b)) ?_ ?_ ha hj
  · intro g hg
    have h0 := hv.far0 hb
    rw [pWalk_stay (Or.inl rfl)]
    exact ⟨hb, by show pD_far D b b ≠ 100000; omega, by simp, Or.inl rfl⟩
  · intro a ha hab hj hp hpj ih g hg
    obtain ⟨-, -, -, s4, s5, -, -, -⟩ := hv.stp ha hb hab hj
    by_cases q : g < pLen D a b
    · rw [pWalk_stay (Or.inr q)]
      exact ⟨ha, hj, by simp, Or.inr q⟩
    · rw [pWalk_on hv ha hb hab hj (by omega)]
      obtain ⟨i1, i2, i3, i4⟩ := ih (g - pLen D a b) (by omega)
      exact ⟨i1, i2, by omega, i4⟩
/-- going on from where he is -/
theorem pWalk_add {D : pD} (hv : pV D) {b : Nat} (hb : b < pD_np D) {a : Nat} (ha : a < pD_np D) (hj : pD_far D a b ≠ 100000) : ∀ g x, pWalk D b 10 (pWalk D b 10 a g).1 ((pWalk D b 10 a g).2 + x) = pWalk D b 10 a (g + x) := by
  refine hv.way hb (P := fun a => ∀ g x, pWalk D b 10 (pWalk D b 10 a g).1 ((pWalk D b 10 a g).2 + x) = pWalk D b 10 a (g + x)) ?_ ?_ ha hj
  · intro g x
    rw [pWalk_stay (g := g) (Or.inl rfl)]
  · intro a ha hab hj hp hpj ih g x
    by_cases q : g < pLen D a b
    · rw [pWalk_stay (Or.inr q)]
    · rw [pWalk_on hv ha hb hab hj (g := g) (by omega), ih, pWalk_on hv ha hb hab hj (g := g + x) (by omega)]
      congr 1; omega
theorem pWalk_pred {D : pD} (hv : pV D) {b : Nat} (hb : b < pD_np D) {a : Nat} (ha : a < pD_np D) (hj : pD_far D a b ≠ 100000) : ∀ g, g ≤ pD_far D a b → (pWalk D b 10 a g).2 ≠ 0 → pWalk D b 10 a (g - 1) = ((pWalk D b 10 a g).1, (pWalk D b 10 a g).2 - 1) := by
  refine hv.way hb (P := fun a => ∀ g, g ≤ pD_far D a b → (pWalk D b 10 a g).2 ≠ 0 → pWalk D b 10 a (g - 1) = ((pWalk D b 10 a g).1, (pWalk D b 10 a g).2 - 1)) ?_ ?_ ha hj
  · intro g hg h
    rw [pWalk_stay (g := g) (Or.inl rfl), pWalk_stay (Or.inl rfl)]
  · intro a ha hab hj hp hpj ih g hg h
    obtain ⟨-, -, -, s4, s5, -, -, -⟩ := hv.stp ha hb hab hj
    by_cases q : g < pLen D a b
    · rw [pWalk_stay (g := g) (Or.inr q), pWalk_stay (Or.inr (by omega))]
    · rw [pWalk_on hv ha hb hab hj (g := g) (by omega)] at h ⊢
      have e := ih (g - pLen D a b) (by omega) h
      have hpos : g - pLen D a b ≠ 0 := by
        intro z
        rw [z] at h
        by_cases pb : pNx D a b = b
        · rw [pWalk_stay (Or.inl pb)] at h; exact h rfl
        · have := (hv.stp hp hb pb hpj).2.2.2.2.1
          rw [pWalk_stay (Or.inr (by omega))] at h; exact h rfl
      rw [pWalk_on hv ha hb hab hj (g := g - 1) (by omega), ← e]
      congr 1; omega
theorem pWalk_goal {D : pD} (hv : pV D) {b : Nat} (hb : b < pD_np D) {a : Nat} (ha : a < pD_np D) (hj : pD_far D a b ≠ 100000) {g : Nat} (hg : g ≤ pD_far D a b) : (pWalk D b 10 a g).1 = b ↔ g = pD_far D a b := by
  obtain ⟨h1, h2, h3, h4⟩ := pWalk_props hv hb ha hj g hg
  have h0 := hv.far0 hb
  constructor
  · intro q; rw [q, h0] at h3; omega
  · intro q
    by_cases z : (pWalk D b 10 a g).1 = b
    · exact z
    · rcases h4 with h4 | h4
      · exact h4
      · have := (hv.stp h1 hb z h2).2.2.2.1
        omega
