theorem zl_eq {α β : Type} (x : α) (f : α → Option β) : zlet x f = f x := Eq.trans rfl rfl
theorem ob_eq {α β : Type} (x : α) (f : α → Option β) : (some x).bind f = f x := Eq.trans rfl rfl
/-! copying loops -/
def pCpy (S T : Nat → Int32) (a b k n : Nat) : Nat → Int32 := fun j => if a + k ≤ j ∧ j < a + n then T (b + (j - a)) else S j
theorem pCpy_end (S T : Nat → Int32) (a b n : Nat) : pCpy S T a b n n = S := by
  funext j; unfold pCpy; rw [if_neg (by omega)]
theorem pCpy_step (S T : Nat → Int32) {a b k n : Nat} (h : k < n) : pCpy (upd S (a + k) (T (b + k))) T a b (k + 1) n = pCpy S T a b k n := by
  funext j
  unfold pCpy upd
  by_cases q : j = a + k
  · subst q
    rw [if_neg (by omega), if_pos rfl, if_pos (by omega)]; congr 1; omega
  · by_cases q2 : a + (k + 1) ≤ j ∧ j < a + n
    · rw [if_pos q2, if_pos (by omega)]
    · rw [if_neg q2, if_neg q, if_neg (by omega)]
theorem pCpy_in (S T : Nat → Int32) {a b n i : Nat} (h : i < n) : pCpy S T a b 0 n (a + i) = T (b + i) := by
  unfold pCpy; rw [if_pos (by omega)]; congr 1; omega
theorem pCpy_out (S T : Nat → Int32) {a b n j : Nat} (h : j < a ∨ a + n ≤ j) : pCpy S T a b 0 n j = S j := by
  unfold pCpy; rw [if_neg (by omega)]
theorem zn_div {a b : Nat} (ha : a < 2147483648) (hb : b < 2147483648) : zn a / zn b = zn (a / b) := by
  have h0 : zn a ≠ Int32.minValue := by
    intro e
    have e1 := congrArg Int32.toInt e
    rw [zn_toInt ha] at e1
    have : Int32.minValue.toInt = -2147483648 := by decide
    omega
  have h1 : a / b < 2147483648 := Nat.lt_of_le_of_lt (Nat.div_le_self a b) ha
  rw [← Int32.toInt_inj, Int32.toInt_div_of_ne_left _ _ h0, zn_toInt ha, zn_toInt hb, zn_toInt h1]
  rfl
theorem zn_rem {a b : Nat} (ha : a < 2147483648) (hb : b < 2147483648) : zr_rem (zn a) (zn b) = zn (a % b) := by
  unfold zr_rem
  have h := Nat.div_add_mod a b
  rw [zn_div ha hb, zn_mul, Nat.mul_comm (a / b) b, zn_sub (by omega)]
  congr 1; omega
theorem pc_copy {D : pD} (K2 K : FkT) : ∃ K', f_X1_copy K2 K = some K' ∧ ∀ F, pFc D F K → pV D → pFc D F K' := by
  refine ⟨_, rfl, fun F h hv => ⟨h.1, fun m i hm hi h6 => ?_⟩⟩
  have hm6 := Nat.lt_of_lt_of_le hm hv.nm
  have := pci_lt hi
  rw [← h.2 m i hm hi h6]
  show va_cpy (Fk_row K) (Fk_row K2) 0 0 78 (m * 13 + pci i) = _
  unfold va_cpy
  rw [if_pos (by omega)]; congr 1; omega
/-! history -/
def pHi (D : pD) (Hi : HiT) (H : H8T) (S : Nat → Int32) (n : Int32) : Prop :=
  ∃ fi sz, fi < 8 ∧ sz ≤ 8 ∧ Hi_first Hi = zn fi ∧ Hi_size Hi = zn sz ∧ n = zn sz ∧ ∀ i, i < sz → ∃ F, pFv D F ∧ pFc D F (H ((fi + i) % 8)) ∧ pFm D F (fun k => S (73 * i + (k - 443)))
theorem pFm.cg {D : pD} {F : pF} {w w' : Nat → Int32} (hv : pV D) (h : pFm D F w) (e : ∀ k, 443 ≤ k → k < 516 → w' k = w k) : pFm D F w' := by
  have := hv.nm
  refine ⟨by rw [e _ (by omega) (by omega)]; exact h.1, fun m i hm hi => ?_⟩
  rw [e _ (by omega) (by omega)]; exact h.2 m i hm hi
/-- the class keeps a state -/
theorem pc_keep {Hi : HiT} {H : H8T} {K : FkT} {fi sz : Nat} (hf : fi < 8) (hs : sz ≤ 8) (h1 : Hi_first Hi = zn fi) (h2 : Hi_size Hi = zn sz) : ∃ Hi' q, f_X2_keep Hi H K = some (Hi', va_up H ((fi + sz) % 8) q) ∧ f_X1_copy (H ((fi + sz) % 8)) K = some q ∧ ((sz < 8 ∧ Hi_first Hi' = zn fi ∧ Hi_size Hi' = zn (sz + 1)) ∨ (sz = 8 ∧ Hi_first Hi' = zn ((fi + 1) % 8) ∧ Hi_size Hi' = zn 8)) := by
  unfold f_X2_keep
  rw [h1, h2]
  simp (disch := omega) only [zn_l8, zn_add, zn_rem, zb_zn, zn_nat, if_true, zlet, zn_l1, zn_lt]
  obtain ⟨q, e, -⟩ := pc_copy (D := ((0, 0, 0, 0), (fun _ _ => 0, fun _ _ => 0, fun _ _ => 0), (fun _ _ => 0, fun _ _ => 0, fun _ _ => 0))) (H ((fi + sz) % 8)) K
  rw [e, ob_some]
  by_cases z : sz < 8
  · rw [if_pos z]
    exact ⟨_, q, rfl, rfl, Or.inl ⟨z, h1, rfl⟩⟩
  · rw [if_neg z]
    exact ⟨_, q, rfl, rfl, Or.inr ⟨by omega, rfl, by show Hi_size Hi = _; rw [h2]; congr 1; omega⟩⟩
/-- the reference keeps it -/
theorem pm_snap_loop (M : MoT) {sz : Nat} (hs : sz < 8) : ∀ (d : Nat) {k fu : Nat} (S : Nat → Int32), k + d = 73 → d + 1 ≤ fu → f_X12_snap_L51 fu (Mo_s_snapMany (Mo_s_snaps M S) (zn sz)) (zn k) = some (Mo_s_snapMany (Mo_s_snaps M (pCpy S (Mo_now M) (73 * sz) 443 k 73)) (zn (sz + 1)))
  | d, k, 0, S, h1, h2 => by omega
  | 0, k, fu + 1, S, h1, h2 => by
    show f_X12_snap_H51 (Mo_s_snapMany (Mo_s_snaps M S) (zn sz)) (f_X12_snap_L51 fu) (zn k) = _
    unfold f_X12_snap_H51
    have e : k = 73 := by omega
    subst e
    rw [if_neg (by decide)]
    simp only [zlet, pCpy_end]
    show some (Mo_s_snapMany (Mo_s_snapMany (Mo_s_snaps M S) (zn sz)) (zn sz + 1)) = _
    rw [zn_l1, zn_add]; rfl
  | d + 1, k, fu + 1, S, h1, h2 => by
    show f_X12_snap_H51 (Mo_s_snapMany (Mo_s_snaps M S) (zn sz)) (f_X12_snap_L51 fu) (zn k) = _
    unfold f_X12_snap_H51
    rw [if_pos (show zn k < (73 : Int32) by rw [zn_l73, zn_lt (by omega) (by omega)]; omega)]
    rw [show Mo_snapMany (Mo_s_snapMany (Mo_s_snaps M S) (zn sz)) = zn sz from rfl, show Mo_now (Mo_s_snapMany (Mo_s_snaps M S) (zn sz)) = Mo_now M from rfl, show Mo_snaps (Mo_s_snapMany (Mo_s_snaps M S) (zn sz)) = S from rfl]
    simp (disch := omega) only [zn_l443, zn_l73, zn_l1, zn_add, zn_mul, zb_zn, zn_nat, if_true, zlet]
    have := pm_snap_loop M hs d (k := k + 1) (fu := fu) (upd S (73 * sz + k) (Mo_now M (443 + k))) (by omega) (by omega)
    rw [pCpy_step _ _ (by omega)] at this
    exact this
theorem pm_shift_loop (M : MoT) (Z : Nat) : ∀ (d : Nat) {k fu : Nat} (S : Nat → Int32), Z = zFU → k + d = 511 → d + 1 ≤ fu → f_X12_snap_L11 fu (Mo_s_snapMany (Mo_s_snaps M S) (zn 8)) (zn k) = f_X12_snap_L51 Z (Mo_s_snapMany (Mo_s_snaps M (pCpy S S 0 73 k 511)) (zn 7)) (zn 0) := by
  intro d
  induction d with
  | zero =>
    intro k fu S hZ h1 h2
    cases fu with
    | zero => omega
    | succ fu =>
      show f_X12_snap_H11 (Mo_s_snapMany (Mo_s_snaps M S) (zn 8)) (f_X12_snap_L11 fu) (zn k) = _
      unfold f_X12_snap_H11
      have e : k = 511 := by omega
      subst e
      have e1 : (zn 8 - 1 : Int32) = zn 7 := by decide
      rw [if_neg (show ¬ zn 511 < (511 : Int32) by rw [zn_l511, zn_lt (by omega) (by omega)]; omega), pCpy_end]
      rw [zl_eq]
      unfold f_X12_snap_b49
      rw [show Mo_s_snapMany (Mo_s_snapMany (Mo_s_snaps M S) (zn 8)) (Mo_snapMany (Mo_s_snapMany (Mo_s_snaps M S) (zn 8)) - 1) = Mo_s_snapMany (Mo_s_snaps M S) (zn 7) from by rw [← e1]; rfl, zn_l0, hZ]
  | succ d ih =>
    intro k fu S hZ h1 h2
    cases fu with
    | zero => omega
    | succ fu =>
      show f_X12_snap_H11 (Mo_s_snapMany (Mo_s_snaps M S) (zn 8)) (f_X12_snap_L11 fu) (zn k) = _
      unfold f_X12_snap_H11
      rw [if_pos (show zn k < (511 : Int32) by rw [zn_l511, zn_lt (by omega) (by omega)]; omega)]
      rw [show Mo_snaps (Mo_s_snapMany (Mo_s_snaps M S) (zn 8)) = S from rfl]
      simp (disch := omega) only [zn_l73, zn_l1, zn_add, zb_zn, zn_nat, if_true, zlet]
      have := ih (k := k + 1) (fu := fu) (upd S k (S (k + 73))) hZ (by omega) (by omega)
      have e : pCpy (upd S k (S (k + 73))) (upd S k (S (k + 73))) 0 73 (k + 1) 511 = pCpy S S 0 73 k 511 := by
        rw [← pCpy_step S S (show k < 511 by omega)]
        funext j
        unfold pCpy
        rw [Nat.zero_add k, Nat.add_comm 73 k]
        split
        · unfold upd; rw [if_neg (by omega)]
        · rfl
      rw [e] at this
      exact this
theorem pm_snap (M : MoT) {sz : Nat} (hs : sz ≤ 8) (h : Mo_snapMany M = zn sz) : f_X12_snap M = some (if sz < 8 then Mo_s_snapMany (Mo_s_snaps M (pCpy (Mo_snaps M) (Mo_now M) (73 * sz) 443 0 73)) (zn (sz + 1)) else Mo_s_snapMany (Mo_s_snaps M (pCpy (pCpy (Mo_snaps M) (Mo_snaps M) 0 73 0 511) (Mo_now M) 511 443 0 73)) (zn 8)) := by
  have eM : M = Mo_s_snapMany (Mo_s_snaps M (Mo_snaps M)) (zn sz) := by rw [← h]; rfl
  unfold f_X12_snap
  rw [h, zn_l8]
  by_cases z : sz < 8
  · rw [if_pos z, if_neg (by rw [zn_eq (by omega) (by omega)]; omega)]
    unfold f_X12_snap_b49
    have := pm_snap_loop M z 73 (k := 0) (fu := zFU) (Mo_snaps M) (by omega) (zFU_ge (by omega))
    rw [← eM] at this
    exact this
  · have e8 : sz = 8 := by omega
    subst e8
    rw [if_neg z, if_pos rfl]
    have := pm_shift_loop M zFU 511 (k := 0) (fu := zFU) (Mo_snaps M) rfl (by omega) (zFU_ge (by omega))
    rw [← eM] at this
    refine Eq.trans this ?_
    have e2 := pm_snap_loop M (sz := 7) (by omega) 73 (k := 0) (fu := zFU) (pCpy (Mo_snaps M) (Mo_snaps M) 0 73 0 511) (by omega) (zFU_ge (by omega))
    exact e2
