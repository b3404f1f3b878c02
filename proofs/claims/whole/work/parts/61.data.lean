/-! the land as numbers -/
abbrev pD : Type := (Nat × Nat × Nat × Nat) × ((Nat → Nat → Nat) × (Nat → Nat → Nat) × (Nat → Nat → Nat)) × ((Nat → Nat → Nat) × (Nat → Nat → Nat) × (Nat → Nat → Nat))
def pD_np (D : pD) : Nat := D.1.1
def pD_nr (D : pD) : Nat := D.1.2.1
def pD_nm (D : pD) : Nat := D.1.2.2.1
def pD_no (D : pD) : Nat := D.1.2.2.2
def pD_pl (D : pD) : Nat → Nat → Nat := D.2.1.1
def pD_ro (D : pD) : Nat → Nat → Nat := D.2.1.2.1
def pD_me (D : pD) : Nat → Nat → Nat := D.2.1.2.2
def pD_rd (D : pD) : Nat → Nat → Nat := D.2.2.1
def pD_far (D : pD) : Nat → Nat → Nat := D.2.2.2.1
def pD_nx (D : pD) : Nat → Nat → Nat := D.2.2.2.2
def zo : Nat → Int32
  | 0 => zm
  | n + 1 => zn n
def pV (D : pD) : Prop :=
  (pD_np D ≤ 10 ∧ pD_nr D ≤ 16 ∧ pD_nm D ≤ 6 ∧ pD_no D ≤ 10) ∧
  (∀ p, p < pD_np D → pD_pl D p 0 ≤ 2 ∧ pD_pl D p 1 ≤ 12 ∧ pD_pl D p 2 ≤ 99 ∧ pD_pl D p 3 ≤ 6) ∧
  (∀ r, r < pD_nr D → (pD_ro D r 0 < pD_np D ∧ pD_ro D r 1 < pD_np D ∧ pD_ro D r 0 ≠ pD_ro D r 1) ∧ 1 ≤ pD_ro D r 2 ∧ pD_ro D r 2 ≤ 30 ∧ pD_ro D r 3 ≤ 12 ∧ pD_ro D r 4 ≤ 1 ∧ pD_rd D (pD_ro D r 0) (pD_ro D r 1) = r + 1 ∧ pD_rd D (pD_ro D r 1) (pD_ro D r 0) = r + 1) ∧
  (∀ m, m < pD_nm D → pD_me D m 0 < pD_np D ∧ pD_pl D (pD_me D m 0) 0 = 0 ∧ 1 ≤ pD_me D m 1 ∧ pD_me D m 1 ≤ 20 ∧ pD_me D m 2 ≤ 99 ∧ pD_me D m 3 ≤ 1) ∧
  (∀ a b r, pD_rd D a b = r + 1 → a < pD_np D → b < pD_np D → r < pD_nr D ∧ ((pD_ro D r 0 = a ∧ pD_ro D r 1 = b) ∨ (pD_ro D r 0 = b ∧ pD_ro D r 1 = a))) ∧
  (∀ a, a < pD_np D → pD_far D a a = 0) ∧
  (∀ a b, a < pD_np D → b < pD_np D → pD_far D a b ≤ 270 ∨ pD_far D a b = 100000) ∧
  (∀ a b, a < pD_np D → b < pD_np D → (pD_nx D a b = 0 ↔ (a = b ∨ pD_far D a b = 100000))) ∧
  (∀ a b p, a < pD_np D → b < pD_np D → pD_nx D a b = p + 1 → p < pD_np D ∧ ∃ r, pD_rd D a p = r + 1 ∧ pD_ro D r 2 + pD_far D p b = pD_far D a b)
section
variable {D : pD} (h : pV D)
theorem pV.np (h : pV D) : pD_np D ≤ 10 := h.1.1
theorem pV.nr (h : pV D) : pD_nr D ≤ 16 := h.1.2.1
theorem pV.nm (h : pV D) : pD_nm D ≤ 6 := h.1.2.2.1
theorem pV.no (h : pV D) : pD_no D ≤ 10 := h.1.2.2.2
theorem pV.pl (h : pV D) {p : Nat} (hp : p < pD_np D) : pD_pl D p 0 ≤ 2 ∧ pD_pl D p 1 ≤ 12 ∧ pD_pl D p 2 ≤ 99 ∧ pD_pl D p 3 ≤ 6 := h.2.1 p hp
theorem pV.ro (h : pV D) {r : Nat} (hr : r < pD_nr D) : (pD_ro D r 0 < pD_np D ∧ pD_ro D r 1 < pD_np D ∧ pD_ro D r 0 ≠ pD_ro D r 1) ∧ 1 ≤ pD_ro D r 2 ∧ pD_ro D r 2 ≤ 30 ∧ pD_ro D r 3 ≤ 12 ∧ pD_ro D r 4 ≤ 1 ∧ pD_rd D (pD_ro D r 0) (pD_ro D r 1) = r + 1 ∧ pD_rd D (pD_ro D r 1) (pD_ro D r 0) = r + 1 := h.2.2.1 r hr
theorem pV.me (h : pV D) {m : Nat} (hm : m < pD_nm D) : pD_me D m 0 < pD_np D ∧ pD_pl D (pD_me D m 0) 0 = 0 ∧ 1 ≤ pD_me D m 1 ∧ pD_me D m 1 ≤ 20 ∧ pD_me D m 2 ≤ 99 ∧ pD_me D m 3 ≤ 1 := h.2.2.2.1 m hm
theorem pV.rd (h : pV D) {a b r : Nat} (ha : a < pD_np D) (hb : b < pD_np D) (hr : pD_rd D a b = r + 1) : r < pD_nr D ∧ ((pD_ro D r 0 = a ∧ pD_ro D r 1 = b) ∨ (pD_ro D r 0 = b ∧ pD_ro D r 1 = a)) := h.2.2.2.2.1 a b r hr ha hb
theorem pV.far0 (h : pV D) {a : Nat} (ha : a < pD_np D) : pD_far D a a = 0 := h.2.2.2.2.2.1 a ha
theorem pV.far (h : pV D) {a b : Nat} (ha : a < pD_np D) (hb : b < pD_np D) : pD_far D a b ≤ 270 ∨ pD_far D a b = 100000 := h.2.2.2.2.2.2.1 a b ha hb
theorem pV.nx0 (h : pV D) {a b : Nat} (ha : a < pD_np D) (hb : b < pD_np D) : pD_nx D a b = 0 ↔ (a = b ∨ pD_far D a b = 100000) := h.2.2.2.2.2.2.2.1 a b ha hb
theorem pV.nx (h : pV D) {a b p : Nat} (ha : a < pD_np D) (hb : b < pD_np D) (hp : pD_nx D a b = p + 1) : p < pD_np D ∧ ∃ r, pD_rd D a p = r + 1 ∧ pD_ro D r 2 + pD_far D p b = pD_far D a b := h.2.2.2.2.2.2.2.2 a b p ha hb hp
end
/-! the class's land -/
def pLc (D : pD) (L : LdT) : Prop :=
  (Ld_places L = zn (pD_np D) ∧ Ld_roads L = zn (pD_nr D) ∧ Ld_men L = zn (pD_nm D) ∧ Ld_ports L = zn (pD_no D)) ∧
  (∀ p k, p < pD_np D → k < 4 → Ld_placeRows L (p * 4 + k) = zn (pD_pl D p k)) ∧
  (∀ r k, r < pD_nr D → k < 5 → Ld_roadRows L (r * 5 + k) = zn (pD_ro D r k)) ∧
  (∀ m k, m < pD_nm D → k < 4 → Ld_manRows L (m * 4 + k) = zn (pD_me D m k)) ∧
  (∀ a b, a < pD_np D → b < pD_np D → Ld_between L (a * 10 + b) = zo (pD_rd D a b) ∧ Ld_miles L (a * 10 + b) = zn (pD_far D a b) ∧ Ld_nexts L (a * 10 + b) = zo (pD_nx D a b) ∧ Ld_towards L (a * 10 + b) = (if pD_nx D a b = 0 then zm else zo (pD_rd D a (pD_nx D a b - 1))))
/-! the reference's land -/
def pLm (D : pD) (w : Nat → Int32) : Prop :=
  (w 0 = zn (pD_np D) ∧ w 1 = zn (pD_nr D) ∧ w 2 = zn (pD_nm D) ∧ w 3 = zn (pD_no D)) ∧
  (∀ p, p < pD_np D → w (4 + p) = zn (pD_pl D p 0) ∧ w (14 + p) = zn (pD_pl D p 1) ∧ w (24 + p) = zn (pD_pl D p 2) ∧ w (34 + p) = zn (pD_pl D p 3)) ∧
  (∀ r, r < pD_nr D → w (192 + r) = zn (pD_ro D r 0) ∧ w (208 + r) = zn (pD_ro D r 1) ∧ w (144 + r) = zn (pD_ro D r 2) ∧ w (160 + r) = zn (pD_ro D r 3) ∧ w (176 + r) = zn (pD_ro D r 4)) ∧
  (∀ m, m < pD_nm D → w (224 + m) = zn (pD_me D m 0) ∧ w (230 + m) = zn (pD_me D m 1) ∧ w (236 + m) = zn (pD_me D m 2)) ∧
  (∃ kb, kb < 64 ∧ w 242 = zn kb ∧ ∀ m, m < pD_nm D → pD_me D m 3 = kb / 2 ^ m % 2) ∧
  (∀ a b, a < pD_np D → b < pD_np D → w (44 + 10 * a + b) = zn (pD_rd D a b) ∧ w (243 + 10 * a + b) = zn (pD_far D a b) ∧ w (343 + 10 * a + b) = zo (pD_nx D a b))
/-! the days and the men: F m i: 0 HOW, 1 COIN, 2 SWORE, 3 GOAL (0 none), 4 HOME, 5 GONE, 6 WHOLE, 7 DAYS, 8 ORDER, 9 NIGHTS, 10 WADED, 11 WALKED, 12 REACHED, 13 BEYOND -/
abbrev pF : Type := Nat × (Nat → Nat → Nat)
def pF_day (F : pF) : Nat := F.1
def pF_o (F : pF) : Nat → Nat → Nat := F.2
def pval (i v : Nat) : Int32 := if i = 3 then zo v else zn v
def pci (i : Nat) : Nat := if i ≤ 5 then i else i - 1
def pFc (D : pD) (F : pF) (K : FkT) : Prop :=
  Fk_day K = zn (pF_day F) ∧ ∀ m i, m < pD_nm D → i < 14 → i ≠ 6 → Fk_row K (m * 13 + pci i) = pval i (pF_o F m i)
def pFm (D : pD) (F : pF) (w : Nat → Int32) : Prop :=
  w 443 = zn (pF_day F) ∧ ∀ m i, m < pD_nm D → i < 12 → w (444 + 6 * i + m) = pval i (pF_o F m i)
/-- the length of the road on which the way to b leaves a; who walks g miles from a to b is at (p, e): at the place p, e miles beyond it -/
def pLen (D : pD) (a b : Nat) : Nat := pD_ro D (pD_rd D a (pD_nx D a b - 1) - 1) 2
def pWalk (D : pD) (b : Nat) : Nat → Nat → Nat → Nat × Nat
  | 0, a, g => (a, g)
  | n + 1, a, g => if a = b ∨ g < pLen D a b then (a, g) else pWalk D b n (pD_nx D a b - 1) (g - pLen D a b)
def pMv (D : pD) (f : Nat → Nat) : Prop :=
    (f 0 ≤ 5 ∧ f 1 ≤ 999 ∧ f 2 ≤ 2 ∧ f 8 ≤ 20) ∧
    (f 4 < pD_np D ∧ pD_pl D (f 4) 0 = 0) ∧
    (f 3 ≠ 0 → f 3 - 1 < pD_np D ∧ pD_pl D (f 3 - 1) 0 = 2) ∧
    (f 0 ≠ 0 → f 3 ≠ 0 ∧ pD_far D (f 4) (f 3 - 1) ≠ 100000 ∧ f 6 = pD_far D (f 4) (f 3 - 1)) ∧
    (f 0 = 0 → f 5 = 0 ∧ f 6 = 0 ∧ f 12 = f 4 ∧ f 13 = 0) ∧
    (f 0 = 1 → f 5 < f 6 ∧ 1 ≤ f 7 ∧ f 7 ≤ 40 ∧ f 9 ≤ 1 ∧ (f 12, f 13) = pWalk D (f 3 - 1) 10 (f 4) (f 5)) ∧
    (f 0 = 2 → f 12 = f 3 - 1 ∧ f 13 = 0)
def pFv (D : pD) (F : pF) : Prop := pF_day F ≤ 400 ∧ ∀ m, m < pD_nm D → pMv D (pF_o F m)
/-! counting -/
def pCnt (f : Nat → Bool) : Nat → Nat
  | 0 => 0
  | n + 1 => pCnt f n + (if f n then 1 else 0)
theorem pCnt_le (f : Nat → Bool) : ∀ n, pCnt f n ≤ n
  | 0 => Nat.le_refl _
  | n + 1 => by
    have := pCnt_le f n
    simp only [pCnt]; split <;> omega
theorem pCnt_mono {f g : Nat → Bool} (h : ∀ i, f i = true → g i = true) : ∀ n, pCnt f n ≤ pCnt g n
  | 0 => Nat.le_refl _
  | n + 1 => by
    have := pCnt_mono h n
    simp only [pCnt]
    by_cases q : f n = true
    · rw [if_pos q, if_pos (h n q)]; omega
    · rw [if_neg q]; omega
theorem pCnt_lt {f g : Nat → Bool} (h : ∀ i, f i = true → g i = true) {j : Nat} (h1 : g j = true) (h2 : f j = false) : ∀ n, j < n → pCnt f n < pCnt g n
  | 0, q => absurd q (Nat.not_lt_zero _)
  | n + 1, q => by
    simp only [pCnt]
    by_cases e : j = n
    · subst e
      have := pCnt_mono h j
      rw [if_pos h1, h2]; simp; omega
    · have := pCnt_lt h h1 h2 n (by omega)
      by_cases q : f n = true
      · rw [if_pos q, if_pos (h n q)]; omega
      · rw [if_neg q]; omega
/-- how many places are nearer to b than a is -/
def pCl (D : pD) (b a : Nat) : Nat := pCnt (fun p => decide (pD_far D p b < pD_far D a b)) (pD_np D)
theorem pCl_le {D : pD} (hv : pV D) {a b : Nat} (ha : a < pD_np D) : pCl D b a ≤ 9 := by
  have h1 : pCl D b a < pCnt (fun _ => true) (pD_np D) := pCnt_lt (fun _ _ => rfl) (j := a) rfl (by simp) _ ha
  have h2 := pCnt_le (fun _ => true) (pD_np D)
  have := hv.np
  omega
theorem pCl_lt {D : pD} {a b p : Nat} (hp : p < pD_np D) (h : pD_far D p b < pD_far D a b) : pCl D b p < pCl D b a := by
  refine pCnt_lt (fun i hi => ?_) (j := p) ?_ ?_ _ hp
  · simp only [decide_eq_true_eq] at hi ⊢; omega
  · simpa using h
  · simp
theorem pV.step {D : pD} (hv : pV D) {a b : Nat} (ha : a < pD_np D) (hb : b < pD_np D) (hab : a ≠ b) (hj : pD_far D a b ≠ 100000) : ∃ p r, pD_nx D a b = p + 1 ∧ p < pD_np D ∧ pD_rd D a p = r + 1 ∧ r < pD_nr D ∧ pLen D a b = pD_ro D r 2 ∧ pD_ro D r 2 + pD_far D p b = pD_far D a b ∧ 1 ≤ pD_ro D r 2 ∧ pD_ro D r 2 ≤ 30 ∧ pD_far D p b ≠ 100000 ∧ pCl D b p < pCl D b a := by
  have h0 := hv.nx0 ha hb
  cases hn : pD_nx D a b with
  | zero => exact absurd (h0.mp hn) (by rintro (q | q) <;> contradiction)
  | succ p =>
    obtain ⟨hp, r, hr, hs⟩ := hv.nx ha hb hn
    obtain ⟨hr1, -⟩ := hv.rd ha hp hr
    have hro := (hv.ro hr1).2
    have hf := hv.far ha hb
    refine ⟨p, r, rfl, hp, hr, hr1, ?_, hs, hro.1, hro.2.1, by omega, pCl_lt hp (by omega)⟩
    simp [pLen, hn, hr]
