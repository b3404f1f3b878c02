/-- the first that is so, and one: 0 is none -/
def pSrch (f : Nat → Bool) : Nat → Nat → Nat
  | 0, _ => 0
  | d + 1, k => if f k = true then k + 1 else pSrch f d (k + 1)
theorem pSrch_spec (f : Nat → Bool) : ∀ d k, (pSrch f d k = 0 ∧ ∀ p, k ≤ p → p < k + d → f p = false) ∨ (∃ p, pSrch f d k = p + 1 ∧ k ≤ p ∧ p < k + d ∧ f p = true)
  | 0, k => Or.inl ⟨rfl, fun p h1 h2 => by omega⟩
  | d + 1, k => by
    by_cases q : f k = true
    · right
      exact ⟨k, by simp only [pSrch]; rw [if_pos q], by omega, by omega, q⟩
    · have e : pSrch f (d + 1) k = pSrch f d (k + 1) := by simp only [pSrch]; rw [if_neg q]
      rcases pSrch_spec f d (k + 1) with ⟨h1, h2⟩ | ⟨p, h1, h2, h3, h4⟩
      · left
        refine ⟨by rw [e, h1], fun p p1 p2 => ?_⟩
        by_cases q2 : p = k
        · rw [q2]; simpa using q
        · exact h2 p (by omega) (by omega)
      · right; exact ⟨p, by rw [e, h1], by omega, by omega, h4⟩
theorem pSrch_more (f : Nat → Bool) (e : Nat) : ∀ d k, (∀ p, k + d ≤ p → p < k + d + e → f p = false) → pSrch f (d + e) k = pSrch f d k
  | 0, k, h => by
    rcases pSrch_spec f (0 + e) k with ⟨h1, -⟩ | ⟨p, -, h2, h3, h4⟩
    · exact h1
    · rw [h p (by omega) (by omega)] at h4; exact absurd h4 (by decide)
  | d + 1, k, h => by
    have e1 : pSrch f (d + 1 + e) k = if f k = true then k + 1 else pSrch f (d + e) (k + 1) := by
      rw [show d + 1 + e = (d + e) + 1 by omega]; rfl
    rw [e1, pSrch_more f e d (k + 1) (fun p p1 p2 => h p (by omega) (by omega))]; rfl
def pNxt (D : pD) (g : Nat → Nat → Nat) (a b p : Nat) : Bool := decide (pD_rd D a p ≠ 0 ∧ pD_ro D (pD_rd D a p - 1) 2 + g p b = g a b)
def pNx0 (D : pD) (g : Nat → Nat → Nat) (a b : Nat) : Nat := if a = b ∨ g a b = 100000 then 0 else pSrch (pNxt D g a b) 10 0
/-! the reference -/
section
variable {D : pD} {M : MoT} {w0 : Nat → Int32}
/-- the rows below the ways -/
def pB0 (D : pD) (w : Nat → Int32) : Prop := (∀ a b, a < 10 → b < 10 → w (44 + 10 * a + b) = zn (pD_rd D a b)) ∧ (∀ r, r < pD_nr D → w (144 + r) = zn (pD_ro D r 2))
def pSm (w0 w : Nat → Int32) : Prop := ∀ j, j < 243 → w j = w0 j
theorem pSm.upd {w0 w : Nat → Int32} (h : pSm w0 w) {k : Nat} (hk : 243 ≤ k) (v : Int32) : pSm w0 (upd w k v) := fun j hj => by rw [pu_ne _ _ (by omega)]; exact h j hj
def pRm (D : pD) (a b : Nat) : Nat := if pD_rd D a b = 0 then 100000 else pD_ro D (pD_rd D a b - 1) 2
theorem pRm_lt (hB : pBt D) {a b : Nat} (ha : a < 10) (hb : b < 10) : pRm D a b ≤ 100000 ∧ (pRm D a b < 100000 ↔ pD_rd D a b ≠ 0) := by
  unfold pRm
  by_cases q : pD_rd D a b = 0
  · rw [if_pos q]; omega
  · rw [if_neg q]
    have := hB.2.2.2 a b ha hb (pD_rd D a b - 1) (by omega)
    have := (hB.2.2.1 _ this.1).2.2.1
    omega
theorem pRm_0 (hB : pBt D) {a b : Nat} (ha : a < 10) (hb : b < 10) (h : a ≠ b) : pF0 D a b = pRm D a b := by
  unfold pF0 pRm
  rw [if_neg h]
  by_cases q : pD_rd D a b = 0
  · rw [if_pos q, if_neg (fun z => z.2.2 q)]
  · rw [if_neg q, if_pos]
    have h1 := hB.2.2.2 a b ha hb (pD_rd D a b - 1) (by omega)
    have h2 := (hB.2.2.1 _ h1.1).1
    refine ⟨?_, ?_, q⟩ <;> rcases h1.2 with ⟨z1, z2⟩ | ⟨z1, z2⟩ <;> omega
theorem pm_roadMiles (hB : pBt D) (h0 : pB0 D w0) {w : Nat → Int32} (hs : pSm w0 w) {a b : Nat} (ha : a < 10) (hb : b < 10) : f_X12_roadMiles (Mo_s_read M w) (zn a) (zn b) = some (zn (pRm D a b)) := by
  unfold f_X12_roadMiles
  have e1 : w (44 + 10 * a + b) = zn (pD_rd D a b) := by rw [hs _ (by omega)]; exact h0.1 a b ha hb
  have hi : (44 : Int32) + 10 * zn a + zn b = zn (44 + 10 * a + b) := by rw [zn_l44, zn_l10, zn_mul, zn_add, zn_add]
  rw [hi, zb_zn (by omega) (by omega), if_pos rfl, zl_eq, zn_nat (by omega), show Mo_read (Mo_s_read M w) (44 + 10 * a + b) = zn (pD_rd D a b) from e1]
  unfold pRm
  by_cases q : pD_rd D a b = 0
  · rw [if_pos (by rw [q]; rfl), if_pos q]; rfl
  · obtain ⟨i1, -⟩ := hB.2.2.2 a b ha hb (pD_rd D a b - 1) (by omega)
    have := hB.2.1
    rw [if_neg (by rw [zn_eq0 (by omega)]; exact q), if_neg q, show (144 : Int32) + zn (pD_rd D a b) - 1 = zn (144 + (pD_rd D a b - 1)) from by
      rw [show (144 : Int32) = zn 144 from rfl, zn_add, show (1 : Int32) = zn 1 from rfl, zn_sub (by omega)]; congr 1; omega]
    rw [zb_zn (by omega) (by omega), if_pos rfl, zn_nat (by omega), show Mo_read (Mo_s_read M w) (144 + (pD_rd D a b - 1)) = w (144 + (pD_rd D a b - 1)) from rfl, hs _ (by omega), h0.2 _ i1]
theorem zi243 (a b : Nat) : (243 : Int32) + 10 * zn a + zn b = zn (243 + 10 * a + b) := by rw [show (243 : Int32) = zn 243 from rfl, zn_l10, zn_mul, zn_add, zn_add]
theorem zi343 (a b : Nat) : (343 : Int32) + 10 * zn a + zn b = zn (343 + 10 * a + b) := by rw [show (343 : Int32) = zn 343 from rfl, zn_l10, zn_mul, zn_add, zn_add]
theorem zlt10 {i : Nat} (h : i < 1000) : (zn i < (10 : Int32)) = (i < 10) := by
  rw [zn_l10, zn_lt (by omega) (by omega)]
/-- the miles filled so far -/
def pFi (D : pD) (w : Nat → Int32) (a b : Nat) : Prop := ∀ x y, x < 10 → y < 10 → (x < a ∨ (x = a ∧ y < b)) → w (243 + 10 * x + y) = zn (pF0 D x y)
theorem pm_lay10 (hB : pBt D) (h0 : pB0 D w0) {k2 : MoT → Int32 → Option MoT} {a : Nat} (ha : a < 10) : ∀ (d : Nat) {b fu : Nat} {w : Nat → Int32}, b + d = 10 → d + 1 ≤ fu → pSm w0 w → pFi D w a b → ∃ w', f_X12_layWays_L10 k2 fu (Mo_s_read M w) (zn a) (zn b) = k2 (Mo_s_read M w') (zn (a + 1)) ∧ pSm w0 w' ∧ pFi D w' (a + 1) 0
  | d, b, 0, w, h1, h2, h3, h4 => by omega
  | 0, b, fu + 1, w, h1, h2, h3, h4 => by
    show ∃ w', f_X12_layWays_H10 (Mo_s_read M w) k2 (f_X12_layWays_L10 k2 fu) (zn a) (zn b) = _ ∧ _
    unfold f_X12_layWays_H10
    rw [if_neg (by rw [zlt10 (by omega)]; omega), show zn a + 1 = zn (a + 1) from zn_add a 1]
    exact ⟨w, rfl, h3, fun x y hx hy h => h4 x y hx hy (by omega)⟩
  | d + 1, b, fu + 1, w, h1, h2, h3, h4 => by
    show ∃ w', f_X12_layWays_H10 (Mo_s_read M w) k2 (f_X12_layWays_L10 k2 fu) (zn a) (zn b) = _ ∧ _
    have hb : b < 10 := by omega
    unfold f_X12_layWays_H10 f_X12_layWays_b45
    rw [if_pos (by rw [zlt10 (by omega)]; omega), pm_roadMiles hB h0 h3 ha hb, ob_eq, zi243, zb_zn (by omega) (by omega), if_pos rfl, zn_nat (by omega)]
    simp only [zl_eq, if_true]
    rw [show zn b + 1 = zn (b + 1) from zn_add b 1]
    have step : ∀ v : Int32, v = zn (pF0 D a b) → ∃ w', f_X12_layWays_L10 k2 fu (Mo_s_read M (upd w (243 + 10 * a + b) v)) (zn a) (zn (b + 1)) = k2 (Mo_s_read M w') (zn (a + 1)) ∧ pSm w0 w' ∧ pFi D w' (a + 1) 0 := fun v hv =>
      pm_lay10 hB h0 ha d (b := b + 1) (fu := fu) (by omega) (by omega) (h3.upd (by omega) v) fun x y hx hy h => by
        by_cases q : x = a ∧ y = b
        · obtain ⟨rfl, rfl⟩ := q
          rw [pu_eq, hv]
        · rw [pu_ne _ _ (by omega)]; exact h4 x y hx hy (by omega)
    by_cases q : a = b
    · rw [if_pos (by rw [q])]
      exact step 0 (by unfold pF0; rw [if_pos q]; rfl)
    · rw [if_neg (by rw [zn_eq (by omega) (by omega)]; exact q)]
      exact step _ (by rw [pRm_0 hB ha hb q])
theorem pm_lay2 (hB : pBt D) (h0 : pB0 D w0) : ∀ (d : Nat) {a fu : Nat} {w : Nat → Int32}, a + d = 10 → d + 1 ≤ fu → pSm w0 w → pFi D w a 0 → ∃ w', f_X12_layWays_L2 fu (Mo_s_read M w) (zn a) = f_X12_layWays_L60 zFU (Mo_s_read M w') 0 ∧ pSm w0 w' ∧ pFi D w' 10 0
  | d, a, 0, w, h1, h2, h3, h4 => by omega
  | 0, a, fu + 1, w, h1, h2, h3, h4 => by
    show ∃ w', f_X12_layWays_H2 (Mo_s_read M w) (f_X12_layWays_L2 fu) (zn a) = _ ∧ _
    unfold f_X12_layWays_H2
    rw [if_neg (by rw [zlt10 (by omega)]; omega)]
    have e : a = 10 := by omega
    subst e
    exact ⟨w, rfl, h3, h4⟩
  | d + 1, a, fu + 1, w, h1, h2, h3, h4 => by
    show ∃ w', f_X12_layWays_H2 (Mo_s_read M w) (f_X12_layWays_L2 fu) (zn a) = _ ∧ _
    unfold f_X12_layWays_H2
    rw [if_pos (by rw [zlt10 (by omega)]; omega)]
    obtain ⟨w1, e1, e2, e3⟩ := pm_lay10 (M := M) hB h0 (k2 := f_X12_layWays_L2 fu) (a := a) (by omega) 10 (b := 0) (fu := zFU) (by omega) (zFU_ge (by omega)) h3 h4
    rw [show (f_X12_layWays_L10 (f_X12_layWays_L2 fu) zFU (Mo_s_read M w) (zn a) 0) = _ from e1]
    exact pm_lay2 hB h0 d (by omega) (by omega) e2 e3
/-- what the miles are -/
def pMm (w : Nat → Int32) (g : Nat → Nat → Nat) : Prop := ∀ x y, x < 10 → y < 10 → w (243 + 10 * x + y) = zn (g x y)
theorem pm_lay76 {k60 : MoT → Int32 → Option MoT} {k68 : MoT → Int32 → Int32 → Option MoT} {k a : Nat} (hk : k < 10) (ha : a < 10) {g : Nat → Nat → Nat} (hg0 : g k k = 0) (hgl : ∀ x y, g x y ≤ 100000) : ∀ (d : Nat) {b fu : Nat} {w : Nat → Int32}, b + d = 10 → d + 1 ≤ fu → pSm w0 w → pMm w (pPart k g a b) → ∃ w', f_X12_layWays_L76 k60 k68 fu (Mo_s_read M w) (zn k) (zn a) (zn b) = k68 (Mo_s_read M w') (zn k) (zn (a + 1)) ∧ pSm w0 w' ∧ pMm w' (pPart k g (a + 1) 0)
  | d, b, 0, w, h1, h2, h3, h4 => by omega
  | 0, b, fu + 1, w, h1, h2, h3, h4 => by
    show ∃ w', f_X12_layWays_H76 (Mo_s_read M w) k60 k68 (f_X12_layWays_L76 k60 k68 fu) (zn k) (zn a) (zn b) = _ ∧ _
    unfold f_X12_layWays_H76
    rw [if_neg (by rw [zlt10 (by omega)]; omega), show zn a + 1 = zn (a + 1) from zn_add a 1]
    refine ⟨w, rfl, h3, fun x y hx hy => ?_⟩
    have e : b = 10 := by omega
    rw [pPart_down hy, h4 x y hx hy, e]
  | d + 1, b, fu + 1, w, h1, h2, h3, h4 => by
    show ∃ w', f_X12_layWays_H76 (Mo_s_read M w) k60 k68 (f_X12_layWays_L76 k60 k68 fu) (zn k) (zn a) (zn b) = _ ∧ _
    unfold f_X12_layWays_H76
    have hb : b < 10 := by omega
    have gak : w (243 + 10 * a + k) = zn (g a k) := by rw [h4 a k ha hk, pPart_col hg0]
    have gkb : w (243 + 10 * k + b) = zn (g k b) := by rw [h4 k b hk hb, pPart_row hg0]
    have gab : w (243 + 10 * a + b) = zn (g a b) := by rw [h4 a b ha hb, pPart_at]
    have l1 := hgl a k
    have l2 := hgl k b
    have l3 := hgl a b
    rw [if_pos (by rw [zlt10 (by omega)]; omega), zi243, zi243, zi243, zb_zn (by omega) (by omega), if_pos rfl, zb_zn (by omega) (by omega), if_pos rfl, zb_zn (by omega) (by omega), if_pos rfl, zn_nat (by omega), zn_nat (by omega), zn_nat (by omega),
      show Mo_read (Mo_s_read M w) (243 + 10 * a + b) = zn (g a b) from gab, show Mo_read (Mo_s_read M w) (243 + 10 * a + k) = zn (g a k) from gak, show Mo_read (Mo_s_read M w) (243 + 10 * k + b) = zn (g k b) from gkb, zn_add]
    have hl : f_X12_least (zn (g a b)) (zn (g a k + g k b)) = some (zn (pStp k g a b)) := by
      unfold f_X12_least pStp
      by_cases q : g a b < g a k + g k b
      · rw [if_pos (by rw [zn_lt (by omega) (by omega)]; exact q)]; congr 2; omega
      · rw [if_neg (by rw [zn_lt (by omega) (by omega)]; exact q)]; congr 2; omega
    rw [hl, ob_eq]
    simp only [if_true, zl_eq]
    rw [show zn b + 1 = zn (b + 1) from zn_add b 1]
    refine pm_lay76 hk ha hg0 hgl d (b := b + 1) (fu := fu) (w := upd w (243 + 10 * a + b) (zn (pStp k g a b))) (by omega) (by omega) (h3.upd (by omega) _) fun x y hx hy => ?_
    rw [pPart_next]
    by_cases q : x = a ∧ y = b
    · obtain ⟨rfl, rfl⟩ := q
      rw [pu_eq, if_pos ⟨rfl, rfl⟩]
    · rw [pu_ne _ _ (by omega), if_neg q]; exact h4 x y hx hy
theorem pm_lay68 {k60 : MoT → Int32 → Option MoT} {k : Nat} (hk : k < 10) {g : Nat → Nat → Nat} (hg0 : g k k = 0) (hgl : ∀ x y, g x y ≤ 100000) : ∀ (d : Nat) {a fu : Nat} {w : Nat → Int32}, a + d = 10 → d + 1 ≤ fu → pSm w0 w → pMm w (pPart k g a 0) → ∃ w', f_X12_layWays_L68 k60 fu (Mo_s_read M w) (zn k) (zn a) = k60 (Mo_s_read M w') (zn (k + 1)) ∧ pSm w0 w' ∧ pMm w' (pStp k g)
  | d, a, 0, w, h1, h2, h3, h4 => by omega
  | 0, a, fu + 1, w, h1, h2, h3, h4 => by
    show ∃ w', f_X12_layWays_H68 (Mo_s_read M w) k60 (f_X12_layWays_L68 k60 fu) (zn k) (zn a) = _ ∧ _
    unfold f_X12_layWays_H68
    rw [if_neg (by rw [zlt10 (by omega)]; omega), show zn k + 1 = zn (k + 1) from zn_add k 1]
    have e : a = 10 := by omega
    refine ⟨w, rfl, h3, fun x y hx hy => ?_⟩
    rw [h4 x y hx hy, e, pPart_last hx]
  | d + 1, a, fu + 1, w, h1, h2, h3, h4 => by
    show ∃ w', f_X12_layWays_H68 (Mo_s_read M w) k60 (f_X12_layWays_L68 k60 fu) (zn k) (zn a) = _ ∧ _
    unfold f_X12_layWays_H68
    rw [if_pos (by rw [zlt10 (by omega)]; omega)]
    obtain ⟨w1, e1, e2, e3⟩ := pm_lay76 (M := M) (w0 := w0) (k60 := k60) (k68 := f_X12_layWays_L68 k60 fu) hk (a := a) (by omega) hg0 hgl 10 (b := 0) (fu := zFU) (by omega) (zFU_ge (by omega)) h3 h4
    rw [show f_X12_layWays_L76 k60 (f_X12_layWays_L68 k60 fu) zFU (Mo_s_read M w) (zn k) (zn a) 0 = _ from e1]
    exact pm_lay68 hk hg0 hgl d (by omega) (by omega) e2 e3
theorem pm_lay60 (hB : pBt D) : ∀ (d : Nat) {k fu : Nat} {w : Nat → Int32}, k + d = 10 → d + 1 ≤ fu → pSm w0 w → pMm w (pFw (pF0 D) k) → ∃ w', f_X12_layWays_L60 fu (Mo_s_read M w) (zn k) = f_X12_layWays_L166 zFU (Mo_s_read M w') 0 ∧ pSm w0 w' ∧ pMm w' (pFw (pF0 D) 10)
  | d, k, 0, w, h1, h2, h3, h4 => by omega
  | 0, k, fu + 1, w, h1, h2, h3, h4 => by
    show ∃ w', f_X12_layWays_H60 (Mo_s_read M w) (f_X12_layWays_L60 fu) (zn k) = _ ∧ _
    unfold f_X12_layWays_H60
    rw [if_neg (by rw [zlt10 (by omega)]; omega)]
    have e : k = 10 := by omega
    subst e
    exact ⟨w, rfl, h3, h4⟩
  | d + 1, k, fu + 1, w, h1, h2, h3, h4 => by
    show ∃ w', f_X12_layWays_H60 (Mo_s_read M w) (f_X12_layWays_L60 fu) (zn k) = _ ∧ _
    unfold f_X12_layWays_H60
    rw [if_pos (by rw [zlt10 (by omega)]; omega)]
    obtain ⟨w1, e1, e2, e3⟩ := pm_lay68 (M := M) (w0 := w0) (k60 := f_X12_layWays_L60 fu) (k := k) (by omega) (g := pFw (pF0 D) k) (pFw_diag (pBt.diag k) k) (pFw_lim hB k) 10 (a := 0) (fu := zFU) (by omega) (zFU_ge (by omega)) h3 (fun x y hx hy => by rw [h4 x y hx hy, pPart_first])
    rw [show f_X12_layWays_L68 (f_X12_layWays_L60 fu) zFU (Mo_s_read M w) (zn k) 0 = _ from e1]
    exact pm_lay60 hB d (by omega) (by omega) e2 e3
/-- the next places so far -/
def pNi (D : pD) (g : Nat → Nat → Nat) (w : Nat → Int32) (a b : Nat) : Prop := ∀ x y, x < 10 → y < 10 → (x < a ∨ (x = a ∧ y < b)) → w (343 + 10 * x + y) = zo (pNx0 D g x y)
theorem pMm.upd {w : Nat → Int32} {g : Nat → Nat → Nat} (h : pMm w g) {k : Nat} (hk : 343 ≤ k) (v : Int32) : pMm (upd w k v) g := fun x y hx hy => by rw [pu_ne _ _ (by omega)]; exact h x y hx hy
theorem zo_dec (c : Nat) : zn c + (-1 : Int32) = zo c := by
  rw [← zo_pred, Int32.sub_eq_add_neg]
theorem pm_lay216 (hB : pBt D) (h0 : pB0 D w0) {k166 : MoT → Int32 → Option MoT} {k174 : MoT → Int32 → Int32 → Option MoT} {a b : Nat} (ha : a < 10) (hb : b < 10) {g : Nat → Nat → Nat} (hgl : ∀ x y, g x y ≤ 100000) (hab : a ≠ b) (hj : g a b ≠ 100000) : ∀ (c : Nat) {fu : Nat} {w : Nat → Int32}, c ≤ 10 → c + 1 ≤ fu → pSm w0 w → pMm w g → pNi D g w a b → w (343 + 10 * a + b) = zo (pSrch (pNxt D g a b) (10 - c) c) → ∃ w', f_X12_layWays_L216 k166 k174 fu (Mo_s_read M w) (zn a) (zn b) (zn (g a b)) (zo c) = k174 (Mo_s_read M w') (zn a) (zn (b + 1)) ∧ pSm w0 w' ∧ pMm w' g ∧ pNi D g w' a (b + 1)
  | c, 0, w, h1, h2, h3, h4, h5, h6 => by omega
  | 0, fu + 1, w, h1, h2, h3, h4, h5, h6 => by
    show ∃ w', f_X12_layWays_H216 (Mo_s_read M w) k166 k174 (f_X12_layWays_L216 k166 k174 fu) (zn a) (zn b) (zn (g a b)) zm = _ ∧ _
    unfold f_X12_layWays_H216 f_X12_layWays_b295
    rw [if_pos (show zm < 0 by decide), show zn b + 1 = zn (b + 1) from zn_add b 1]
    refine ⟨w, rfl, h3, h4, fun x y hx hy h => ?_⟩
    by_cases q : x = a ∧ y = b
    · obtain ⟨rfl, rfl⟩ := q
      rw [h6]; unfold pNx0; rw [if_neg (by omega)]
    · exact h5 x y hx hy (by omega)
  | c + 1, fu + 1, w, h1, h2, h3, h4, h5, h6 => by
    show ∃ w', f_X12_layWays_H216 (Mo_s_read M w) k166 k174 (f_X12_layWays_L216 k166 k174 fu) (zn a) (zn b) (zn (g a b)) (zn c) = _ ∧ _
    have hc : c < 10 := by omega
    have l1 := hgl a b
    have l2 := hgl c b
    have gcb : w (243 + 10 * c + b) = zn (g c b) := h4 c b hc hb
    obtain ⟨r1, r2⟩ := pRm_lt hB ha hc
    have eS : pSrch (pNxt D g a b) (10 - c) c = if pNxt D g a b c = true then c + 1 else pSrch (pNxt D g a b) (10 - (c + 1)) (c + 1) := by
      rw [show 10 - c = (10 - (c + 1)) + 1 by omega]; rfl
    unfold f_X12_layWays_H216 f_X12_layWays_b289
    rw [if_neg (zn_ge0 (by omega)), if_neg (by rw [zn_eq (by omega) (by omega)]; exact hab), if_pos (by rw [zn_l100000, zn_lt (by omega) (by omega)]; omega), pm_roadMiles hB h0 h3 ha hc, ob_eq, ob_eq, zi243, zi343, zb_zn (by omega) (by omega), if_pos rfl, zb_zn (by omega) (by omega), if_pos rfl, zn_nat (by omega), zn_nat (by omega), zl_eq, show Mo_read (Mo_s_read M w) (243 + 10 * c + b) = zn (g c b) from gcb, zn_add, zo_dec]
    by_cases q1 : pD_rd D a c = 0
    · rw [if_neg (by rw [zn_l100000, zn_lt (by omega) (by omega)]; omega)]
      refine pm_lay216 hB h0 ha hb hgl hab hj c (fu := fu) (w := w) (by omega) (by omega) h3 h4 h5 ?_
      rw [h6, eS, if_neg (by unfold pNxt; simp [q1])]
    · rw [if_pos (by rw [zn_l100000, zn_lt (by omega) (by omega)]; omega)]
      have eR : pRm D a c = pD_ro D (pD_rd D a c - 1) 2 := by unfold pRm; rw [if_neg q1]
      by_cases q2 : pRm D a c + g c b = g a b
      · rw [if_pos (by rw [q2])]
        refine pm_lay216 hB h0 ha hb hgl hab hj c (fu := fu) (w := upd w (343 + 10 * a + b) (zn c)) (by omega) (by omega) (h3.upd (by omega) _) (h4.upd (by omega) _) (fun x y hx hy h => ?_) ?_
        · rw [pu_ne _ _ (by omega)]; exact h5 x y hx hy h
        · rw [pu_eq, eS, if_pos (by unfold pNxt; rw [← eR]; simp [q1, q2])]; rfl
      · rw [if_neg (by rw [zn_eq (by omega) (by omega)]; exact q2)]
        refine pm_lay216 hB h0 ha hb hgl hab hj c (fu := fu) (w := w) (by omega) (by omega) h3 h4 h5 ?_
        rw [h6, eS, if_neg (by unfold pNxt; rw [← eR]; simp [q2])]
theorem pm_lay174 (hB : pBt D) (h0 : pB0 D w0) {k166 : MoT → Int32 → Option MoT} {a : Nat} (ha : a < 10) {g : Nat → Nat → Nat} (hgl : ∀ x y, g x y ≤ 100000) : ∀ (d : Nat) {b fu : Nat} {w : Nat → Int32}, b + d = 10 → d + 1 ≤ fu → pSm w0 w → pMm w g → pNi D g w a b → ∃ w', f_X12_layWays_L174 k166 fu (Mo_s_read M w) (zn a) (zn b) = k166 (Mo_s_read M w') (zn (a + 1)) ∧ pSm w0 w' ∧ pMm w' g ∧ pNi D g w' (a + 1) 0
  | d, b, 0, w, h1, h2, h3, h4, h5 => by omega
  | 0, b, fu + 1, w, h1, h2, h3, h4, h5 => by
    show ∃ w', f_X12_layWays_H174 (Mo_s_read M w) k166 (f_X12_layWays_L174 k166 fu) (zn a) (zn b) = _ ∧ _
    unfold f_X12_layWays_H174
    rw [if_neg (by rw [zlt10 (by omega)]; omega), show zn a + 1 = zn (a + 1) from zn_add a 1]
    exact ⟨w, rfl, h3, h4, fun x y hx hy h => h5 x y hx hy (by omega)⟩
  | d + 1, b, fu + 1, w, h1, h2, h3, h4, h5 => by
    show ∃ w', f_X12_layWays_H174 (Mo_s_read M w) k166 (f_X12_layWays_L174 k166 fu) (zn a) (zn b) = _ ∧ _
    have hb : b < 10 := by omega
    have l1 := hgl a b
    unfold f_X12_layWays_H174
    rw [if_pos (by rw [zlt10 (by omega)]; omega), zi243, zi343, zb_zn (by omega) (by omega), if_pos rfl, zl_eq, zb_zn (by omega) (by omega), if_pos rfl, zl_eq, zn_nat (by omega), zn_nat (by omega), show Mo_read (Mo_s_read M w) (243 + 10 * a + b) = zn (g a b) from h4 a b ha hb]
    have hz : (-1 : Int32) = zo 0 := rfl
    have ni : pNi D g (upd w (343 + 10 * a + b) (-1)) a b := fun x y hx hy h => by rw [pu_ne _ _ (by omega)]; exact h5 x y hx hy h
    have go : ∃ w', f_X12_layWays_L216 k166 (f_X12_layWays_L174 k166 fu) zFU (Mo_s_read M (upd w (343 + 10 * a + b) (-1))) (zn a) (zn b) (zn (g a b)) 9 = f_X12_layWays_L174 k166 fu (Mo_s_read M w') (zn a) (zn (b + 1)) ∧ pSm w0 w' ∧ pMm w' g ∧ pNi D g w' a (b + 1) := by
      by_cases q : a = b ∨ g a b = 100000
      · have eF : zFU = 69999 + 1 := rfl
        rw [eF]
        generalize 69999 = z
        show ∃ w', f_X12_layWays_H216 (Mo_s_read M (upd w (343 + 10 * a + b) (-1))) k166 (f_X12_layWays_L174 k166 fu) (f_X12_layWays_L216 k166 (f_X12_layWays_L174 k166 fu) z) (zn a) (zn b) (zn (g a b)) 9 = _ ∧ _
        unfold f_X12_layWays_H216 f_X12_layWays_b295
        rw [if_neg (show ¬ (9 : Int32) < 0 by decide), show zn b + 1 = zn (b + 1) from zn_add b 1]
        refine ⟨upd w (343 + 10 * a + b) (-1), ?_, h3.upd (by omega) _, h4.upd (by omega) _, fun x y hx hy h => ?_⟩
        · by_cases q2 : a = b
          · rw [if_pos (by rw [q2])]
          · rw [if_neg (by rw [zn_eq (by omega) (by omega)]; exact q2), if_neg (by rw [zn_l100000, zn_lt (by omega) (by omega)]; omega)]
        · by_cases q2 : x = a ∧ y = b
          · obtain ⟨rfl, rfl⟩ := q2
            rw [pu_eq]; unfold pNx0; rw [if_pos q]; rfl
          · exact ni x y hx hy (by omega)
      · exact pm_lay216 hB h0 ha hb hgl (by omega) (by omega) 10 (fu := zFU) (by omega) (zFU_ge (by omega)) (h3.upd (by omega) _) (h4.upd (by omega) _) ni (by rw [pu_eq]; rfl)
    obtain ⟨w1, e1, e2, e3, e4⟩ := go
    rw [show Mo_s_read (Mo_s_read M w) (upd (Mo_read (Mo_s_read M w)) (343 + 10 * a + b) (-1)) = Mo_s_read M (upd w (343 + 10 * a + b) (-1)) from rfl, e1]
    exact pm_lay174 hB h0 ha hgl d (by omega) (by omega) e2 e3 e4
theorem pm_lay166 (hB : pBt D) (h0 : pB0 D w0) {g : Nat → Nat → Nat} (hgl : ∀ x y, g x y ≤ 100000) : ∀ (d : Nat) {a fu : Nat} {w : Nat → Int32}, a + d = 10 → d + 1 ≤ fu → pSm w0 w → pMm w g → pNi D g w a 0 → ∃ w', f_X12_layWays_L166 fu (Mo_s_read M w) (zn a) = some (Mo_s_read M w') ∧ pSm w0 w' ∧ pMm w' g ∧ pNi D g w' 10 0
  | d, a, 0, w, h1, h2, h3, h4, h5 => by omega
  | 0, a, fu + 1, w, h1, h2, h3, h4, h5 => by
    show ∃ w', f_X12_layWays_H166 (Mo_s_read M w) (f_X12_layWays_L166 fu) (zn a) = _ ∧ _
    unfold f_X12_layWays_H166
    rw [if_neg (by rw [zlt10 (by omega)]; omega)]
    have e : a = 10 := by omega
    subst e
    exact ⟨w, rfl, h3, h4, h5⟩
  | d + 1, a, fu + 1, w, h1, h2, h3, h4, h5 => by
    show ∃ w', f_X12_layWays_H166 (Mo_s_read M w) (f_X12_layWays_L166 fu) (zn a) = _ ∧ _
    unfold f_X12_layWays_H166
    rw [if_pos (by rw [zlt10 (by omega)]; omega)]
    obtain ⟨w1, e1, e2, e3, e4⟩ := pm_lay174 (M := M) hB h0 (k166 := f_X12_layWays_L166 fu) (a := a) (by omega) hgl 10 (b := 0) (fu := zFU) (by omega) (zFU_ge (by omega)) h3 h4 h5
    rw [show f_X12_layWays_L174 (f_X12_layWays_L166 fu) zFU (Mo_s_read M w) (zn a) 0 = _ from e1]
    exact pm_lay166 hB h0 hgl d (by omega) (by omega) e2 e3 e4
theorem pm_layWays (hB : pBt D) (h0 : pB0 D (Mo_read M)) : ∃ w', f_X12_layWays M = some (Mo_s_read M w') ∧ pSm (Mo_read M) w' ∧ pMm w' (pFw (pF0 D) 10) ∧ pNi D (pFw (pF0 D) 10) w' 10 0 := by
  unfold f_X12_layWays
  obtain ⟨w1, e1, e2, e3⟩ := pm_lay2 (M := M) hB h0 10 (a := 0) (fu := zFU) (w := Mo_read M) (by omega) (zFU_ge (by omega)) (fun j hj => rfl) (fun x y hx hy h => by omega)
  obtain ⟨w2, f1, f2, f3⟩ := pm_lay60 (M := M) (w0 := Mo_read M) hB 10 (k := 0) (fu := zFU) (w := w1) (by omega) (zFU_ge (by omega)) e2 (fun x y hx hy => e3 x y hx hy (by omega))
  obtain ⟨w3, g1, g2, g3, g4⟩ := pm_lay166 (M := M) hB h0 (pFw_lim hB 10) 10 (a := 0) (fu := zFU) (w := w2) (by omega) (zFU_ge (by omega)) f2 f3 (fun x y hx hy h => by omega)
  have e1' : f_X12_layWays_L2 zFU M 0 = f_X12_layWays_L60 zFU (Mo_s_read M w1) 0 := e1
  have f1' : f_X12_layWays_L60 zFU (Mo_s_read M w1) 0 = f_X12_layWays_L166 zFU (Mo_s_read M w2) 0 := f1
  have g1' : f_X12_layWays_L166 zFU (Mo_s_read M w2) 0 = some (Mo_s_read M w3) := g1
  exact ⟨w3, e1'.trans (f1'.trans g1'), g2, g3, g4⟩
end
