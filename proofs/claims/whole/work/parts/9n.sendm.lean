/-! SENT: the reference -/
def pE (M : MoT) (gi gv he : Nat → Int32) (sl : Int32) : MoT := Mo_s_sentLeast (Mo_s_held (Mo_s_given (Mo_s_giving M gi) gv) he) sl
theorem pE_now (M : MoT) (gi gv he : Nat → Int32) (sl : Int32) : Mo_now (pE M gi gv he sl) = Mo_now M := by unfold pE Mo_now; rfl
theorem pE_giving (M : MoT) (gi gv he : Nat → Int32) (sl : Int32) : Mo_giving (pE M gi gv he sl) = gi := by unfold pE Mo_giving; rfl
theorem pE_given (M : MoT) (gi gv he : Nat → Int32) (sl : Int32) : Mo_given (pE M gi gv he sl) = gv := by unfold pE Mo_given; rfl
theorem pE_held (M : MoT) (gi gv he : Nat → Int32) (sl : Int32) : Mo_held (pE M gi gv he sl) = he := by unfold pE Mo_held; rfl
theorem pE_sl (M : MoT) (gi gv he : Nat → Int32) (sl : Int32) : Mo_sentLeast (pE M gi gv he sl) = sl := by unfold pE Mo_sentLeast; rfl
theorem pE_s_giving (M : MoT) (gi gv he x : Nat → Int32) (sl : Int32) : Mo_s_giving (pE M gi gv he sl) x = pE M x gv he sl := by simp only [pE, Mo_s_giving, Mo_s_given, Mo_s_held, Mo_s_sentLeast]
theorem pE_s_given (M : MoT) (gi gv he x : Nat → Int32) (sl : Int32) : Mo_s_given (pE M gi gv he sl) x = pE M gi x he sl := by simp only [pE, Mo_s_giving, Mo_s_given, Mo_s_held, Mo_s_sentLeast]
theorem pE_s_held (M : MoT) (gi gv he x : Nat → Int32) (sl : Int32) : Mo_s_held (pE M gi gv he sl) x = pE M gi gv x sl := by simp only [pE, Mo_s_giving, Mo_s_given, Mo_s_held, Mo_s_sentLeast]
theorem pE_s_sl (M : MoT) (gi gv he : Nat → Int32) (sl x : Int32) : Mo_s_sentLeast (pE M gi gv he sl) x = pE M gi gv he x := by simp only [pE, Mo_s_giving, Mo_s_given, Mo_s_held, Mo_s_sentLeast]
/-- the best so far -/
def pBs (s : Nat) (G0 gv : Nat → Int32) (W : Nat) : Prop :=
  (W = 100000000000 ∧ ∀ i, i < 6 → gv i = G0 i) ∨ (W < 100000000000 ∧ ∀ k, k < 6 → gv k = if s.testBit k = true then zn (W / 10 ^ (5 - k) % 10) else zm)
def pEx (s i : Nat) (g f : Nat → Nat) : Prop := ∀ m, m < i → s.testBit m = true → f m = g m
def pDgs (s : Nat) (g : Nat → Nat) (i : Nat) : Nat := pSu (fun m => g m * 10 ^ (5 - m)) s i
def pFar (D : pD) (F : pF) (s : Nat) (g : Nat → Nat) (i : Nat) : Nat := pSu (fun m => pD_far D (pF_o F m 4) (g m)) s i
def pHe (s : Nat) (g : Nat → Nat) (i p : Nat) : Nat := pSu (fun m => if g m = p then 1 else 0) s i
/-- those told so far -/
def pSi (D : pD) (F : pF) (s i : Nat) (g : Nat → Nat) (gi he : Nat → Int32) : Prop :=
  (∀ m, m < i → gi m = if s.testBit m = true then zn (g m) else zm) ∧ (∀ p, p < pD_np D → he p = zn (pHe s g i p)) ∧ (∀ m, m < i → s.testBit m = true → g m < pD_np D ∧ pD_pl D (g m) 0 = 2 ∧ pD_far D (pF_o F m 4) (g m) ≠ 100000) ∧ (∀ p, p < pD_np D → pD_pl D p 0 = 2 → pHe s g i p ≤ pD_pl D p 3)
def pPost (D : pD) (F : pF) (s : Nat) (M : MoT) (G0 : Nat → Int32) (i k : Nat) (g : Nat → Nat) (gi he : Nat → Int32) (W : Nat) (r : Option MoT) : Prop :=
  ∃ gi' gv' he' W', r = some (pE M gi' gv' he' (zn (W' / 1000000))) ∧ pBs s G0 gv' W' ∧ (∀ p, p < pD_np D → he' p = he p) ∧ (∀ m, m < i → gi' m = gi m) ∧ W' ≤ W ∧ (∀ f, pAs D F s (pD_np D) f → pEx s i g f → k ≤ f i → W' ≤ pAW D F s f) ∧ (W' = W ∨ ∃ f, pAs D F s (pD_np D) f ∧ pEx s i g f ∧ W' = pAW D F s f)
theorem pEx_sum {s i : Nat} {g f : Nat → Nat} (h : pEx s i g f) (u : Nat → Nat → Nat) : pSu (fun m => u m (f m)) s i = pSu (fun m => u m (g m)) s i := pSu_cg1 i (fun m hm hb => by show u m (f m) = u m (g m); rw [h m hm hb])
theorem pFar_le {D : pD} {F : pF} (hv : pV D) (hV : pFv D F) {s i : Nat} (hi : i ≤ 6) {g : Nat → Nat} (hs2 : ∀ i, s.testBit i = true → i < pD_nm D) (h : ∀ m, m < i → s.testBit m = true → g m < pD_np D ∧ pD_pl D (g m) 0 = 2 ∧ pD_far D (pF_o F m 4) (g m) ≠ 100000) : pFar D F s g i ≤ 1620 := by
  have : pFar D F s g i ≤ i * 270 := pSu_bd 270 i (fun m hm hb => by
    obtain ⟨a1, a2, a3⟩ := h m hm hb
    have := hv.far (hV.2 m (hs2 m hb)).2.1.1 a1
    omega)
  omega
section
variable {D : pD} {F : pF}
theorem pm_leaf_copy (hv : pV D) (R : MoT → Int32 → Int32 → Option MoT) {M : MoT} (hm : pLm D (Mo_now M)) (gi he : Nat → Int32) (sl : Int32) : ∀ (d : Nat) {k fu : Nat} (gv : Nat → Int32), k + d = 6 → d + 1 ≤ fu →
    ∃ gv', f_B_X12_sendFrom_L65 R fu (pE M gi gv he sl) (zn k) = some (pE M gi gv' he sl) ∧ ∀ j, j < 6 → gv' j = if k ≤ j then (if j < pD_nm D then gi j else zm) else gv j := by
  have hnm := hv.nm
  intro d
  induction d with
  | zero =>
    intro k fu gv h1 h2
    cases fu with
    | zero => omega
    | succ fu =>
      refine ⟨gv, ?_, fun j hj => by rw [if_neg (by omega)]⟩
      show f_B_X12_sendFrom_H65 R (pE M gi gv he sl) (f_B_X12_sendFrom_L65 R fu) (zn k) = _
      unfold f_B_X12_sendFrom_H65
      rw [if_neg (by rw [zn_l6, zn_lt (by omega) (by omega)]; omega)]
  | succ d ih =>
    intro k fu gv h1 h2
    cases fu with
    | zero => omega
    | succ fu =>
      show ∃ gv', f_B_X12_sendFrom_H65 R (pE M gi gv he sl) (f_B_X12_sendFrom_L65 R fu) (zn k) = _ ∧ _
      unfold f_B_X12_sendFrom_H65 f_B_X12_sendFrom_b100
      rw [if_pos (by rw [zn_l6, zn_lt (by omega) (by omega)]; omega), pE_now, show Mo_now M (2 : Int32).toNatClampNeg = zn (pD_nm D) from hm.1.2.2.1, ifn_lt (by omega) (by omega), zb_zn (by omega) (by omega), if_pos rfl, if_pos rfl, if_pos rfl, zl_eq, zl_eq, pE_giving, pE_given, pE_s_given, pE_s_given, zn_nat (by omega), show zn k + 1 = zn (k + 1) from zn_add k 1]
      by_cases q : k < pD_nm D
      · rw [if_pos q]
        obtain ⟨gv', e, h⟩ := ih (k := k + 1) (fu := fu) (upd gv k (gi k)) (by omega) (by omega)
        refine ⟨gv', e, fun j hj => ?_⟩
        rw [h j hj]
        by_cases y : j = k
        · rw [if_neg (by omega), if_pos (by omega), y, if_pos q, pu_eq]
        · rw [pu_ne _ _ y]
          by_cases w : k ≤ j
          · rw [if_pos (by omega), if_pos w]
          · rw [if_neg (by omega), if_neg w]
      · rw [if_neg q]
        obtain ⟨gv', e, h⟩ := ih (k := k + 1) (fu := fu) (upd gv k (-1)) (by omega) (by omega)
        refine ⟨gv', e, fun j hj => ?_⟩
        rw [h j hj]
        by_cases y : j = k
        · rw [if_neg (by omega), if_pos (by omega), y, if_neg q, pu_eq]; rfl
        · rw [pu_ne _ _ y]
          by_cases w : k ≤ j
          · rw [if_pos (by omega), if_pos w]
          · rw [if_neg (by omega), if_neg w]
theorem pm_leaf (hv : pV D) (hV : pFv D F) (R : MoT → Int32 → Int32 → Option MoT) {M : MoT} (hm : pLm D (Mo_now M)) {s : Nat} (hs2 : ∀ i, s.testBit i = true → i < pD_nm D) {G0 gi gv he : Nat → Int32} {W : Nat} {g : Nat → Nat} (hS : pSi D F s (pD_nm D) g gi he) (hlt : pFar D F s g (pD_nm D) < W / 1000000) (hW : W ≤ 100000000000) (k : Nat) :
    pPost D F s M G0 (pD_nm D) k g gi he W (zlet (Mo_s_sentLeast (pE M gi gv he (zn (W / 1000000))) (zn (pFar D F s g (pD_nm D)))) fun y18 => f_B_X12_sendFrom_L65 R zFU y18 (0 : Int32)) := by
  have hnm := hv.nm
  have hnp := hv.np
  obtain ⟨gv', e, h⟩ := pm_leaf_copy hv R hm gi he (zn (pFar D F s g (pD_nm D))) 6 (k := 0) (fu := zFU) gv (by omega) (zFU_ge (by omega))
  have hA : pAs D F s (pD_np D) g := ⟨fun m hb => hS.2.2.1 m (hs2 m hb) hb, fun q hq hq2 => by
    have := hS.2.2.2 q hq hq2
    unfold pHe at this
    have e6 : pSu (fun m => if g m = q then 1 else 0) s 6 = pSu (fun m => if g m = q then 1 else 0) s (pD_nm D) := (pSu_more (n := 6) hs2 hnm).symm
    rw [e6]; exact this⟩
  have e1 : pFar D F s g 6 = pFar D F s g (pD_nm D) := (pSu_more (n := 6) hs2 hnm).symm
  have d9 : ∀ m, s.testBit m = true → g m ≤ 9 := fun m hb => by have := (hA.1 m hb).1; omega
  have hd := pDgt d9 (pFar D F s g 6)
  have eW : pAW D F s g = pFar D F s g 6 * 1000000 + pDgs s g 6 := pAW_parts
  have hd1 : pDgs s g 6 < 1000000 := hd.1
  have hfl := pFar_le hv hV (i := 6) (by omega) hs2 (fun m _ hb => hA.1 m hb)
  have hq : pAW D F s g / 1000000 = pFar D F s g (pD_nm D) := by rw [eW, e1]; omega
  refine ⟨gi, gv', he, pAW D F s g, ?_, Or.inr ⟨by omega, fun k hk => ?_⟩, fun _ _ => rfl, fun _ _ => rfl, by omega, fun f f1 f2 _ => ?_, Or.inr ⟨g, hA, fun _ _ _ => rfl, rfl⟩⟩
  · rw [zl_eq, pE_s_sl, hq]; exact e
  · rw [h k hk, if_pos (by omega)]
    have a := hd.2 k hk
    change (pFar D F s g 6 * 1000000 + pDgs s g 6) / 10 ^ (5 - k) % 10 = _ at a
    rw [eW, a]
    by_cases b : s.testBit k = true
    · rw [if_pos (hs2 k b), hS.1 k (hs2 k b), if_pos b, if_pos b, if_pos b]
    · rw [if_neg b]
      by_cases c : k < pD_nm D
      · rw [if_pos c, hS.1 k c, if_neg b]
      · rw [if_neg c]
  · refine Nat.le_of_eq ?_
    refine pSu_cg1 6 (fun m _ hb => ?_)
    unfold pAw
    rw [f2 m (hs2 m hb) hb]
end
