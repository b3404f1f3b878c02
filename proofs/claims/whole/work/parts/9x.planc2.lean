/-! PLAN: the class chooses -/
/-- the miles day by day -/
def pPt (lv : Nat → Nat) (pace all : Nat) (hope : Bool) : Nat → Nat → Nat → List Nat → Prop
  | 0, _, _, xs => xs = []
  | k + 1, g, i, xs => if g < all then ∃ n ys, xs = n :: ys ∧ (if hope = true then pMi lv pace all (k + 1) g i n else n = i) ∧ pPt lv pace all hope k (g + n) (if n = 0 then 1 else 0) ys else xs = []
section
variable {lv : Nat → Nat} {pace all : Nat}
theorem pPt_no {hope : Bool} {k g i : Nat} (h : ¬ (1 ≤ k ∧ g < all)) {xs : List Nat} (hx : pPt lv pace all hope k g i xs) : xs = [] := by
  cases k with
  | zero => exact hx
  | succ k =>
    have e : (if g < all then _ else xs = []) := hx
    rw [if_neg (by omega)] at e
    exact e
theorem pPt_yes {hope : Bool} {k g i : Nat} (hg : g < all) {xs : List Nat} (hx : pPt lv pace all hope (k + 1) g i xs) : ∃ n ys, xs = n :: ys ∧ (if hope = true then pMi lv pace all (k + 1) g i n else n = i) ∧ pPt lv pace all hope k (g + n) (if n = 0 then 1 else 0) ys := by
  have e : (if g < all then _ else xs = []) := hx
  rw [if_pos hg] at e
  exact e
theorem pPt_ex {hope : Bool} : ∀ (k : Nat) {g i : Nat}, i ≤ 1 → (hope = true → pWv lv pace all k g ≠ 0) → ∃ xs, pPt lv pace all hope k g i xs
  | 0, g, i, _, _ => ⟨[], rfl⟩
  | k + 1, g, i, hi, h => by
    by_cases hg : g < all
    · by_cases hh : hope = true
      · obtain ⟨n, hn⟩ := pMi_ex hg (h hh) hi
        obtain ⟨ys, hy⟩ := pPt_ex (hope := hope) k (g := g + n) (i := if n = 0 then 1 else 0) (by split <;> omega) (fun _ => pMi_pos hn (h hh))
        refine ⟨n :: ys, ?_⟩
        show (if g < all then _ else _)
        rw [if_pos hg]
        exact ⟨n, ys, rfl, by rw [if_pos hh]; exact hn, hy⟩
      · obtain ⟨ys, hy⟩ := pPt_ex (hope := hope) k (g := g + i) (i := if i = 0 then 1 else 0) (by split <;> omega) (fun q => absurd q hh)
        refine ⟨i :: ys, ?_⟩
        show (if g < all then _ else _)
        rw [if_pos hg]
        exact ⟨i, ys, rfl, by rw [if_neg hh], hy⟩
    · refine ⟨[], ?_⟩
      show (if g < all then _ else _)
      rw [if_neg hg]
theorem pPt_len {hope : Bool} : ∀ (k : Nat) {g i : Nat} {xs : List Nat}, pPt lv pace all hope k g i xs → xs.length ≤ k
  | 0, g, i, xs, h => by
    have : xs = [] := h
    rw [this]; exact Nat.le_refl _
  | k + 1, g, i, xs, h => by
    by_cases hg : g < all
    · obtain ⟨n, ys, e, -, h2⟩ := pPt_yes hg h
      rw [e, List.length_cons]
      exact Nat.succ_le_succ (pPt_len k h2)
    · rw [pPt_no (by omega) h]; exact Nat.zero_le _
/-- the rows that stand -/
def pCa (lv : Nat → Nat) (pace all days from_ L : Nat) (P : PlT) : Prop := ∀ l, l < L → ∀ g, from_ ≤ g → g ≤ all → (g ≤ from_ + (days - l) * pace ∨ g = all) → Pl_cases P (l * 271 + g) = zq (pWv lv pace all l g)
theorem pc_choose_in (hl : ∀ g, lv g ≤ 12) (ha : all ≤ 270) (hp : pace ≤ 20) {P : PlT} (hs : pSv lv all P) (k48 : PlT → Int32 → Int32 → Int32 → Int32 → Int32 → Int32 → Int32 → Option PlT) (x1 x9 : Int32) {k g i n : Nat} (hk : k ≤ 12) (hm : pMi lv pace all k g i n) (hc1 : Pl_cases P (k * 271 + g) = zq (pWv lv pace all k g)) (hc2 : ∀ j, j ≤ n → Pl_cases P ((k - 1) * 271 + (g + j)) = zq (pWv lv pace all (k - 1) (g + j))) : ∀ (d : Nat) {c fu : Nat}, i ≤ c → c + d = n → d + 1 ≤ fu →
    f_X6_choose_L85 k48 fu P x1 (zn all) (zn pace) (zn g) (zn c) 0 x9 (zn k) = f_X6_choose_b138 P k48 x1 (zn all) (zn pace) (zn g) (zn n) 0 x9 := by
  obtain ⟨m1, m2, m3, m4, m5, m6⟩ := hm
  have bd : ∀ q, lv q * pWv lv pace all (k - 1) q < 9223372036854775808 := fun q => by
    have := Nat.mul_le_mul (hl q) (Nat.le_trans (pWv_bd (pace := pace) (all := all) hl (k - 1) q) (pPow12 (k := k - 1) (by omega)))
    omega
  have bd2 : pWv lv pace all k g < 9223372036854775808 := by
    have := Nat.le_trans (pWv_bd (pace := pace) (all := all) hl k g) (pPow12 (k := k) (by omega))
    omega
  intro d
  induction d with
  | zero =>
    intro c fu h0 h1 h2
    cases fu with
    | zero => omega
    | succ fu =>
      have e : c = n := by omega
      subst e
      show f_X6_choose_H85 P k48 (f_X6_choose_L85 k48 fu) x1 (zn all) (zn pace) (zn g) (zn c) 0 x9 (zn k) = _
      unfold f_X6_choose_H85
      rw [if_pos rfl, zn_add, ifn_lt (by omega) (by omega), ifn_lt (by omega) (by omega)]
      by_cases q1 : c < pace
      · rw [if_pos q1]
        by_cases q2 : g + c < all
        · rw [if_pos q2, pc_worth hl ha hs m2 hk m4 (hc2 c (Nat.le_refl _)), ob_eq]
          unfold f_X6_index
          rw [ob_eq, zn_l271, zn_mul, zn_add, zb_zn (by omega) (by omega), if_pos rfl, zn_nat (by omega), hc1, m5, if_pos (by rw [zq_cmp0 bd2 bd2])]
        · rw [if_neg q2]
      · rw [if_neg q1]
  | succ d ih =>
    intro c fu h0 h1 h2
    cases fu with
    | zero => omega
    | succ fu =>
      show f_X6_choose_H85 P k48 (f_X6_choose_L85 k48 fu) x1 (zn all) (zn pace) (zn g) (zn c) 0 x9 (zn k) = _
      unfold f_X6_choose_H85
      rw [if_pos rfl, zn_add, ifn_lt (by omega) (by omega), ifn_lt (by omega) (by omega), if_pos (by omega), if_pos (by omega), pc_worth hl ha hs m2 hk (by omega) (hc2 c (by omega)), ob_eq]
      unfold f_X6_index
      rw [ob_eq, zn_l271, zn_mul, zn_add, zb_zn (by omega) (by omega), if_pos rfl, zn_nat (by omega), hc1, if_neg (by rw [zq_cmp0 (bd _) bd2]; exact m6 c h0 (by omega)), show zn c + 1 = zn (c + 1) from zn_add c 1]
      exact ih (c := c + 1) (fu := fu) (by omega) (by omega) (by omega)
theorem pc_choose_loop (hl : ∀ g, lv g ≤ 12) (ha : all ≤ 270) (hp : pace ≤ 20) {days from_ : Nat} (hd : days ≤ 12) (hope : Bool) : ∀ (k : Nat) {g x7 kk fu : Nat} {xs : List Nat} (P : PlT), kk + k = days → k + 1 ≤ fu → pSv lv all P → pCa lv pace all days from_ (days + 1) P → from_ ≤ g → g ≤ all → (hope = true → g ≤ from_ + kk * pace) → x7 < 1000 → pPt lv pace all hope k g (if x7 = 0 then 1 else 0) xs →
    ∃ ch, f_X6_choose_L48 fu P (zn days) (zn all) (zn pace) (zn g) (zn x7) (if hope = true then 0 else 1) (zn kk) = some (Pl_s_chosen P ch) ∧ ∀ j, ch j = if kk ≤ j ∧ j < kk + xs.length then zn (xs.getD (j - kk) 0) else Pl_chosen P j := by
  intro k
  induction k with
  | zero =>
    intro g x7 kk fu xs P h1 h2 hs hc h3 h4 h5 h6 hx
    cases fu with
    | zero => omega
    | succ fu =>
      have e : xs = [] := hx
      subst e
      refine ⟨Pl_chosen P, ?_, fun j => by rw [if_neg]; rintro ⟨a, b⟩; rw [List.length_nil] at b; omega⟩
      show f_X6_choose_H48 P (f_X6_choose_L48 fu) (zn days) (zn all) (zn pace) (zn g) (zn x7) _ (zn kk) = _
      unfold f_X6_choose_H48
      rw [ifn_lt (by omega) (by omega), if_neg (by omega)]; rfl
  | succ k ih =>
    intro g x7 kk fu xs P h1 h2 hs hc h3 h4 h5 h6 hx
    cases fu with
    | zero => omega
    | succ fu =>
      by_cases hg : g < all
      · obtain ⟨n, ys, e, hn, hy⟩ := pPt_yes hg hx
        have hkk : zn days - zn kk = zn (k + 1) := by rw [zn_sub (by omega)]; congr 1; omega
        have e48 : f_X6_choose_L48 (fu + 1) P (zn days) (zn all) (zn pace) (zn g) (zn x7) (if hope = true then 0 else 1) (zn kk) = f_X6_choose_L85 (f_X6_choose_L48 fu) zFU P (zn days) (zn all) (zn pace) (zn g) (zn (if x7 = 0 then 1 else 0)) (if hope = true then 0 else 1) (zn kk) (zn (k + 1)) := by
          show f_X6_choose_H48 P (f_X6_choose_L48 fu) (zn days) (zn all) (zn pace) (zn g) (zn x7) _ (zn kk) = _
          unfold f_X6_choose_H48 f_X6_choose_b83
          rw [ifn_lt (by omega) (by omega), if_pos (show kk < days by omega), if_pos (show zn kk < (12 : Int32) by rw [zn_l12, zn_lt (by omega) (by omega)]; omega), ifn_lt (by omega) (by omega), if_pos hg, hkk]
          by_cases z : x7 = 0
          · rw [if_pos (show zn x7 = (0 : Int32) by rw [z]; rfl), if_pos z]; rfl
          · rw [if_neg (show ¬ zn x7 = (0 : Int32) by rw [zn_eq0 (by omega)]; exact z), if_neg z]; rfl
        have hi : (if x7 = 0 then 1 else 0) ≤ 1 := by split <;> omega
        have hmul : (kk + 1) * pace = kk * pace + pace := by rw [Nat.add_mul]; omega
        -- the chosen miles, and on
        have go : n ≤ pace ∨ hope = false → n < 1000 → g + n ≤ all → ∃ ch, f_X6_choose_b138 P (f_X6_choose_L48 fu) (zn days) (zn all) (zn pace) (zn g) (zn n) (if hope = true then 0 else 1) (zn kk) = some (Pl_s_chosen P ch) ∧ ∀ j, ch j = if kk ≤ j ∧ j < kk + xs.length then zn (xs.getD (j - kk) 0) else Pl_chosen P j := by
          intro g1 g2 g3
          unfold f_X6_choose_b138
          rw [zb_zn (show kk < 12 by omega) (by omega), if_pos rfl, zl_eq, zn_nat (by omega), zn_add, show zn kk + 1 = zn (kk + 1) from zn_add kk 1]
          obtain ⟨ch, r1, r2⟩ := ih (g := g + n) (x7 := n) (kk := kk + 1) (fu := fu) (xs := ys) (Pl_s_chosen P (upd (Pl_chosen P) kk (zn n))) (by omega) (by omega) hs hc (by omega) g3 (fun hh => by
            have := h5 hh
            rcases g1 with g1 | g1
            · omega
            · rw [g1] at hh; exact absurd hh (by decide)) g2 hy
          refine ⟨ch, r1, fun j => ?_⟩
          rw [r2 j, e, List.length_cons]
          by_cases z : j = kk
          · rw [if_neg (by omega), if_pos (by omega), z, Nat.sub_self]
            show upd (Pl_chosen P) kk (zn n) kk = _
            rw [pu_eq]; rfl
          · by_cases w : kk + 1 ≤ j ∧ j < kk + 1 + ys.length
            · rw [if_pos w, if_pos (by omega), show j - kk = (j - (kk + 1)) + 1 by omega]; rfl
            · rw [if_neg w, if_neg (by omega)]
              exact pu_ne _ _ z
        rw [e48]
        by_cases hh : hope = true
        · rw [if_pos hh] at hn
          have gk := h5 hh
          have hm := hn
          obtain ⟨m1, m2, m3, m4, m5, m6⟩ := hn
          have e1 : days - (k + 1) = kk := by omega
          have e2 : days - k = kk + 1 := by omega
          obtain ⟨ch, r1, r2⟩ := go (Or.inl m3) (by omega) m4
          refine ⟨ch, ?_, r2⟩
          rw [if_pos hh] at r1 ⊢
          have := pc_choose_in hl ha hp hs (f_X6_choose_L48 fu) (zn days) (zn kk) (k := k + 1) (by omega) hm (hc (k + 1) (by omega) g h3 h4 (Or.inl (by rw [e1]; exact gk))) (fun j hj => hc (k + 1 - 1) (by omega) (g + j) (by omega) (by omega) (Or.inl (by rw [Nat.add_sub_cancel, e2]; omega))) (n - (if x7 = 0 then 1 else 0)) (c := if x7 = 0 then 1 else 0) (fu := zFU) (Nat.le_refl _) (by omega) (zFU_ge (by omega))
          exact this.trans r1
        · rw [if_neg hh] at hn
          obtain ⟨ch, r1, r2⟩ := go (Or.inr (by simpa using hh)) (by omega) (by omega)
          refine ⟨ch, ?_, r2⟩
          rw [if_neg hh] at r1 ⊢
          rw [← hn]
          show f_X6_choose_H85 P (f_X6_choose_L48 fu) (f_X6_choose_L85 (f_X6_choose_L48 fu) 69999) (zn days) (zn all) (zn pace) (zn g) (zn n) 1 (zn kk) (zn (k + 1)) = _
          unfold f_X6_choose_H85
          rw [if_neg (by decide)]
          exact r1
      · have e := pPt_no (by omega) hx
        subst e
        refine ⟨Pl_chosen P, ?_, fun j => by rw [if_neg]; rintro ⟨a, b⟩; rw [List.length_nil] at b; omega⟩
        show f_X6_choose_H48 P (f_X6_choose_L48 fu) (zn days) (zn all) (zn pace) (zn g) (zn x7) _ (zn kk) = _
        unfold f_X6_choose_H48
        rw [ifn_lt (by omega) (by omega), if_pos (show kk < days by omega), if_pos (show zn kk < (12 : Int32) by rw [zn_l12, zn_lt (by omega) (by omega)]; omega), ifn_lt (by omega) (by omega), if_neg hg]; rfl
theorem pc_choose (hl : ∀ g, lv g ≤ 12) (ha : all ≤ 270) (hp : pace ≤ 20) {days from_ night : Nat} (hd : days ≤ 12) (hf : from_ < all) (P : PlT) (hs : pSv lv all P) (hc : pCa lv pace all days from_ (days + 1) P) (hn : night ≤ 1) {xs : List Nat} (hx : pPt lv pace all (decide (pWv lv pace all days from_ ≠ 0)) days from_ night xs) :
    ∃ ch, f_X6_choose P (zn days) (zn from_) (zn all) (zn pace) (if 0 < night then 1 else 0) = some (Pl_s_chosen P ch) ∧ ∀ j, j < 12 → ch j = if j < xs.length then zn (xs.getD j 0) else zm := by
  have bd2 : pWv lv pace all days from_ < 9223372036854775808 := by
    have := Nat.le_trans (pWv_bd (pace := pace) (all := all) hl days from_) (pPow12 (k := days) (by omega))
    omega
  have hc0 := hc days (by omega) from_ (Nat.le_refl _) (by omega) (Or.inl (Nat.le_add_right _ _))
  have core : ∀ x7, x7 ≤ 1 → night = (if x7 = 0 then 1 else 0) → ∃ ch, f_X6_choose_b21 (Pl_s_chosen P (zr_fill 12 (Pl_chosen P) (-1))) (zn days) (zn from_) (zn all) (zn pace) (zn from_) (zn x7) = some (Pl_s_chosen P ch) ∧ ∀ j, j < 12 → ch j = if j < xs.length then zn (xs.getD j 0) else zm := by
    intro x7 h7 e7
    rw [e7] at hx
    obtain ⟨ch, r1, r2⟩ := pc_choose_loop hl ha hp hd (decide (pWv lv pace all days from_ ≠ 0)) days (g := from_) (x7 := x7) (kk := 0) (fu := zFU) (xs := xs) (Pl_s_chosen P (zr_fill 12 (Pl_chosen P) (-1))) (by omega) (zFU_ge (by omega)) hs hc (Nat.le_refl _) (by omega) (fun _ => by omega) (by omega) hx
    refine ⟨ch, ?_, fun j hj => ?_⟩
    · unfold f_X6_choose_b21 f_X6_index f_X6_choose_b43
      rw [ob_eq, zn_l271, zn_mul, zn_add, zb_zn (by omega) (by omega), if_pos rfl, zn_nat (by omega)]
      rw [show Pl_cases (Pl_s_chosen P (zr_fill 12 (Pl_chosen P) (-1))) (days * 271 + from_) = zq (pWv lv pace all days from_) from hc0]
      by_cases z : pWv lv pace all days from_ = 0
      · rw [if_pos (by rw [zq_l0, zq_cmp0 bd2 (by omega)]; exact z)]
        rw [show (decide (pWv lv pace all days from_ ≠ 0)) = false by simp [z]] at r1
        exact r1
      · rw [if_neg (by rw [zq_l0, zq_cmp0 bd2 (by omega)]; exact z)]
        rw [show (decide (pWv lv pace all days from_ ≠ 0)) = true by simp [z]] at r1
        exact r1
    · rw [r2 j, Nat.sub_zero, Nat.zero_add]
      by_cases w : j < xs.length
      · rw [if_pos ⟨Nat.zero_le _, w⟩, if_pos w]
      · rw [if_neg (fun q => w q.2), if_neg w]
        show (if j < 12 then _ else _) = _
        rw [if_pos hj]; rfl
  unfold f_X6_choose
  rw [zl_eq]
  by_cases z : night = 0
  · rw [show (if 0 < night then (1 : Int32) else 0) = 0 from if_neg (by omega), if_pos rfl]
    exact core 1 (by omega) (by rw [z]; rfl)
  · rw [show (if 0 < night then (1 : Int32) else 0) = 1 from if_pos (by omega), if_neg (show ¬ (1 : Int32) = 0 by decide)]
    exact core 0 (by omega) (by rw [if_pos rfl]; omega)
end
