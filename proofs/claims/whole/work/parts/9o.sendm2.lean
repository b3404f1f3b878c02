theorem pEx_step {s i : Nat} {g f : Nat → Nat} {p : Nat} (h : pEx s i g f) (hp : f i = p) : pEx s (i + 1) (fun m => if m = i then p else g m) f := by
  intro m hm hb
  show f m = if m = i then p else g m
  by_cases q : m = i
  · rw [if_pos q, q, hp]
  · rw [if_neg q]; exact h m (by omega) hb
theorem pEx_back {s i : Nat} {g f : Nat → Nat} {p : Nat} (h : pEx s (i + 1) (fun m => if m = i then p else g m) f) : pEx s i g f := by
  intro m hm hb
  have := h m (by omega) hb
  simp only [if_neg (show ¬ m = i by omega)] at this
  exact this
theorem pSu_new {s i p : Nat} {g : Nat → Nat} (u : Nat → Nat → Nat) (hb : s.testBit i = true) : pSu (fun m => u m (if m = i then p else g m)) s (i + 1) = pSu (fun m => u m (g m)) s i + u i p := by
  rw [pSu_succ, if_pos hb]
  simp only [if_true]
  congr 1
  exact pSu_cg1 i (fun m hm _ => by show u m (if m = i then p else g m) = u m (g m); rw [if_neg (by omega)])
section
variable {D : pD} {F : pF}
/-- the next man: what the recursive call gives -/
def pRec (D : pD) (F : pF) (s : Nat) (M : MoT) (G0 : Nat → Int32) (R : MoT → Int32 → Int32 → Option MoT) (i : Nat) : Prop :=
  ∀ (g : Nat → Nat) (gi gv he : Nat → Int32) (W : Nat), pSi D F s i g gi he → pBs s G0 gv W → (W = 100000000000 ∨ W % 1000000 ≤ pDgs s g i) → pPost D F s M G0 i 0 g gi he W (R (pE M gi gv he (zn (W / 1000000))) (zn i) (zn (pFar D F s g i)))
theorem pBs_le {s : Nat} {G0 gv : Nat → Int32} {W : Nat} (h : pBs s G0 gv W) : W ≤ 100000000000 := by
  rcases h with h | h <;> omega
theorem pm_ports (hv : pV D) (hV : pFv D F) (R : MoT → Int32 → Int32 → Option MoT) {M : MoT} (hm : pLm D (Mo_now M)) (hF : pFm D F (Mo_now M)) {s i : Nat} (hs2 : ∀ i, s.testBit i = true → i < pD_nm D) (hi : s.testBit i = true) {G0 : Nat → Int32} {g : Nat → Nat} (hR : pRec D F s M G0 R (i + 1)) : ∀ (d : Nat) {k fu : Nat} (gi gv he : Nat → Int32) (W : Nat), k + d = pD_np D → d + 1 ≤ fu → pSi D F s i g gi he → pBs s G0 gv W → (W = 100000000000 ∨ W % 1000000 ≤ pDgs s g i + k * 10 ^ (5 - i)) →
    pPost D F s M G0 i k g gi he W (f_B_X12_sendFrom_L111 R fu (pE M gi gv he (zn (W / 1000000))) (zn (pFar D F s g i)) (zn i) (zn k)) := by
  have hnm := hv.nm
  have hnp := hv.np
  have him := hs2 i hi
  have hh := (hV.2 i him).2.1.1
  intro d
  induction d with
  | zero =>
    intro k fu gi gv he W h1 h2 hS hB hW
    cases fu with
    | zero => omega
    | succ fu =>
      refine ⟨gi, gv, he, W, ?_, hB, fun _ _ => rfl, fun _ _ => rfl, Nat.le_refl _, fun f f1 f2 f3 => ?_, Or.inl rfl⟩
      · show f_B_X12_sendFrom_H111 R (pE M gi gv he (zn (W / 1000000))) (f_B_X12_sendFrom_L111 R fu) (zn (pFar D F s g i)) (zn i) (zn k) = _
        unfold f_B_X12_sendFrom_H111
        rw [pE_now, show Mo_now M (0 : Int32).toNatClampNeg = zn (pD_np D) from hm.1.1, if_neg (by rw [zn_lt (by omega) (by omega)]; omega)]
      · have := (f1.1 i hi).1; omega
  | succ d ih =>
    intro k fu gi gv he W h1 h2 hS hB hW
    cases fu with
    | zero => omega
    | succ fu =>
      have hk : k < pD_np D := by omega
      have hpl := hv.pl hk
      have hfar := hv.far hh hk
      have hWl := pBs_le hB
      have e10 : (k + 1) * 10 ^ (5 - i) = k * 10 ^ (5 - i) + 10 ^ (5 - i) := by rw [Nat.add_mul]; omega
      have hhe : pHe s g i k < 100 := by
        have : pHe s g i k ≤ i * 1 := pSu_bd 1 i (fun m _ _ => by split <;> omega)
        omega
      -- a port that can't be
      have skip : ∀ (gi2 : Nat → Int32), pSi D F s i g gi2 he → (∀ f, pAs D F s (pD_np D) f → pEx s i g f → f i ≠ k) → (∀ m, m < i → gi2 m = gi m) → pPost D F s M G0 i k g gi he W (f_B_X12_sendFrom_b234 R (pE M gi2 gv he (zn (W / 1000000))) (f_B_X12_sendFrom_L111 R fu) (zn (pFar D F s g i)) (zn i) (zn k)) := by
        intro gi2 hS2 hno hg
        unfold f_B_X12_sendFrom_b234
        rw [show zn k + 1 = zn (k + 1) from zn_add k 1]
        obtain ⟨gi', gv', he', W', p1, p2, p3, p4, p5, p6, p7⟩ := ih (k := k + 1) (fu := fu) gi2 gv he W (by omega) (by omega) hS2 hB (by
          rcases hW with q | q
          · exact Or.inl q
          · exact Or.inr (Nat.le_trans q (Nat.add_le_add_left (Nat.mul_le_mul_right _ (Nat.le_succ k)) _)))
        refine ⟨gi', gv', he', W', p1, p2, p3, fun m hm => by rw [p4 m hm, hg m hm], p5, fun f f1 f2 f3 => ?_, p7⟩
        have := hno f f1 f2
        exact p6 f f1 f2 (by omega)
      show pPost D F s M G0 i k g gi he W (f_B_X12_sendFrom_H111 R (pE M gi gv he (zn (W / 1000000))) (f_B_X12_sendFrom_L111 R fu) (zn (pFar D F s g i)) (zn i) (zn k))
      unfold f_B_X12_sendFrom_H111
      rw [pE_now, show Mo_now M (0 : Int32).toNatClampNeg = zn (pD_np D) from hm.1.1, if_pos (by rw [zn_lt (by omega) (by omega)]; omega)]
      simp (disch := omega) only [zn_l4, zn_l34, zn_l468, zn_l2, zn_add, zb_zn, zn_nat, if_true, (hm.2.1 k hk).1, (hm.2.1 k hk).2.2.2, zn_eq, pE_held, hS.2.1 k hk, hF.g4 him]
      by_cases c1 : pD_pl D k 0 = 2
      · rw [if_pos c1]
        by_cases c2 : pHe s g i k = pD_pl D k 3
        · rw [if_pos c2]
          refine skip gi hS (fun f f1 f2 e => ?_) (fun _ _ => rfl)
          have a := f1.2 k hk c1
          have b : pSu (fun m => if f m = k then 1 else 0) s (i + 1) ≤ pSu (fun m => if f m = k then 1 else 0) s 6 := pSu_mono (by omega)
          rw [pSu_succ, if_pos hi, if_pos e] at b
          have c : pSu (fun m => if f m = k then 1 else 0) s i = pHe s g i k := pEx_sum f2 (fun _ x => if x = k then 1 else 0)
          omega
        · have hmE : pLm D (Mo_now (pE M gi gv he (zn (W / 1000000)))) := by rw [pE_now]; exact hm
          rw [if_neg c2, pm_farOf hv hmE hh hk, ob_eq, zn_l100000, ifn_lt (by omega) (by omega)]
          by_cases c3 : pD_far D (pF_o F i 4) k < 100000
          · rw [if_pos c3, zl_eq, zl_eq]
            simp only [pE_giving, pE_held, pE_s_giving, pE_s_held, pE_now]
            have hmE2 : ∀ x y, pLm D (Mo_now (pE M x gv y (zn (W / 1000000)))) := fun x y => by rw [pE_now]; exact hm
            simp (disch := omega) only [hF.g4 him, pm_farOf hv (hmE2 _ _) hh hk, ob_eq, zn_l1, zn_add, zn_nat, hS.2.1 k hk]
            have ef : pFar D F s g i + pD_far D (pF_o F i 4) k = pFar D F s (fun m => if m = i then k else g m) (i + 1) := (pSu_new (fun m x => pD_far D (pF_o F m 4) x) hi).symm
            have ed : pDgs s g i + k * 10 ^ (5 - i) = pDgs s (fun m => if m = i then k else g m) (i + 1) := (pSu_new (fun m x => x * 10 ^ (5 - m)) hi).symm
            have eh : ∀ p, pHe s (fun m => if m = i then k else g m) (i + 1) p = pHe s g i p + (if k = p then 1 else 0) := fun p => pSu_new (fun m x => if x = p then 1 else 0) hi
            have hS2 : pSi D F s (i + 1) (fun m => if m = i then k else g m) (upd gi i (zn k)) (upd he k (zn (pHe s g i k + 1))) := by
              refine ⟨fun m hm => ?_, fun p hp => ?_, fun m hm hb => ?_, fun p hp hp2 => ?_⟩
              · by_cases q : m = i
                · rw [q, pu_eq, if_pos hi]; simp
                · rw [pu_ne _ _ q]; simp only [if_neg q]; exact hS.1 m (by omega)
              · rw [eh]
                by_cases q : p = k
                · rw [q, pu_eq, if_pos rfl]
                · rw [pu_ne _ _ q, if_neg (by omega)]; exact hS.2.1 p hp
              · by_cases q : m = i
                · simp only [if_pos q]; rw [q]; exact ⟨hk, c1, by omega⟩
                · simp only [if_neg q]; exact hS.2.2.1 m (by omega) hb
              · rw [eh]
                have := hS.2.2.2 p hp hp2
                by_cases q : k = p
                · rw [if_pos q]; rw [q] at c2; omega
                · rw [if_neg q]; exact this
            obtain ⟨gi1, gv1, he1, W1, p1, p2, p3, p4, p5, p6, p7⟩ := hR (fun m => if m = i then k else g m) (upd gi i (zn k)) gv (upd he k (zn (pHe s g i k + 1))) W hS2 hB (by rw [← ed]; exact hW)
            rw [← ef] at p1
            rw [p1, ob_eq, zl_eq, pE_held, pE_s_held]
            have hk1 : he1 k = zn (pHe s g i k + 1) := by rw [p3 k hk, pu_eq]
            rw [hk1, zn_sub (by omega), Nat.add_sub_cancel]
            have hW1 : W1 = 100000000000 ∨ W1 % 1000000 ≤ pDgs s g i + (k + 1) * 10 ^ (5 - i) := by
              rcases p7 with p7 | ⟨f, f1, f2, f3⟩
              · rw [p7]
                rcases hW with q | q
                · exact Or.inl q
                · exact Or.inr (Nat.le_trans q (Nat.add_le_add_left (Nat.mul_le_mul_right _ (Nat.le_succ k)) _))
              · right
                have d9 : ∀ m, s.testBit m = true → f m ≤ 9 := fun m hb => by have := (f1.1 m hb).1; omega
                have a1 := (pDgt d9 0).1
                have a2 := pDigB d9 (5 - i) (j := i + 1) (by omega)
                have a3 : pSu (fun m => f m * 10 ^ (5 - m)) s (i + 1) = pDgs s g i + k * 10 ^ (5 - i) := (pEx_sum f2 (fun m x => x * 10 ^ (5 - m))).trans ed.symm
                have a4 : pAW D F s f = _ := pAW_parts
                rw [f3, a4, e10]
                omega
            have hS3 : pSi D F s i g gi1 (upd he1 k (zn (pHe s g i k))) := by
              refine ⟨fun m hm => ?_, fun p hp => ?_, hS.2.2⟩
              · rw [p4 m (by omega), pu_ne _ _ (by omega)]; exact hS.1 m hm
              · by_cases q : p = k
                · rw [q, pu_eq]
                · rw [pu_ne _ _ q, p3 p hp, pu_ne _ _ q]; exact hS.2.1 p hp
            unfold f_B_X12_sendFrom_b234
            rw [show zn k + 1 = zn (k + 1) from zn_add k 1]
            obtain ⟨gi2, gv2, he2, W2, r1, r2, r3, r4, r5, r6, r7⟩ := ih (k := k + 1) (fu := fu) gi1 gv1 (upd he1 k (zn (pHe s g i k))) W1 (by omega) (by omega) hS3 p2 hW1
            refine ⟨gi2, gv2, he2, W2, r1, r2, fun p hp => ?_, fun m hm => ?_, by omega, fun f f1 f2 f3 => ?_, ?_⟩
            · rw [r3 p hp, hS3.2.1 p hp, hS.2.1 p hp]
            · rw [r4 m hm, hS3.1 m hm, hS.1 m hm]
            · by_cases q : f i = k
              · have := p6 f f1 (pEx_step f2 q) (Nat.zero_le _); omega
              · exact r6 f f1 f2 (by omega)
            · rcases r7 with r7 | r7
              · rcases p7 with p7 | ⟨f, f1, f2, f3⟩
                · left; omega
                · right; exact ⟨f, f1, pEx_back f2, by omega⟩
              · exact Or.inr r7
          · rw [if_neg c3]
            exact skip gi hS (fun f f1 f2 e => by have := (f1.1 i hi).2.2; rw [e] at this; omega) (fun _ _ => rfl)
      · rw [if_neg c1]
        exact skip gi hS (fun f f1 f2 e => by have := (f1.1 i hi).2.1; rw [e] at this; exact c1 this) (fun _ _ => rfl)
/-- past those who are not safe -/
theorem pm_skips (hv : pV D) (hV : pFv D F) (R : MoT → Int32 → Int32 → Option MoT) {M : MoT} (hm : pLm D (Mo_now M)) (hF : pFm D F (Mo_now M)) {s : Nat} (hs2 : ∀ i, s.testBit i = true ↔ i < pD_nm D ∧ pF_o F i 0 = 0) {G0 : Nat → Int32} : ∀ (d : Nat) {i fu : Nat} (g : Nat → Nat) (gi gv he : Nat → Int32) (W : Nat), (∀ j, i ≤ j → j < pD_nm D → pRec D F s M G0 R (j + 1)) → i + d = pD_nm D → d + 1 ≤ fu → pSi D F s i g gi he → pBs s G0 gv W → (W = 100000000000 ∨ W % 1000000 ≤ pDgs s g i) → pFar D F s g i < W / 1000000 →
    pPost D F s M G0 i 0 g gi he W (f_B_X12_sendFrom_L11 R fu (pE M gi gv he (zn (W / 1000000))) (zn (pFar D F s g i)) (zn i)) := by
  have hnm := hv.nm
  have hnp := hv.np
  have hs3 : ∀ i, s.testBit i = true → i < pD_nm D := fun i h => ((hs2 i).mp h).1
  intro d
  induction d with
  | zero =>
    intro i fu g gi gv he W hR h1 h2 hS hB hW hlt
    cases fu with
    | zero => omega
    | succ fu =>
      have e : i = pD_nm D := by omega
      subst e
      have c : ¬ zn (pD_nm D) < zn (pD_nm D) := by rw [zn_lt (by omega) (by omega)]; omega
      show pPost D F s M G0 (pD_nm D) 0 g gi he W (f_B_X12_sendFrom_H11 R (pE M gi gv he (zn (W / 1000000))) (f_B_X12_sendFrom_L11 R fu) (zn (pFar D F s g (pD_nm D))) (zn (pD_nm D)))
      unfold f_B_X12_sendFrom_H11 f_B_X12_sendFrom_b47
      rw [pE_now, show Mo_now M (2 : Int32).toNatClampNeg = zn (pD_nm D) from hm.1.2.2.1, if_neg c, if_neg c]
      exact pm_leaf hv hV R hm hs3 hS hlt (pBs_le hB) 0
  | succ d ih =>
    intro i fu g gi gv he W hR h1 h2 hS hB hW hlt
    cases fu with
    | zero => omega
    | succ fu =>
      have him : i < pD_nm D := by omega
      have c : zn i < zn (pD_nm D) := by rw [zn_lt (by omega) (by omega)]; omega
      have h5 := (hV.2 i him).1.1
      show pPost D F s M G0 i 0 g gi he W (f_B_X12_sendFrom_H11 R (pE M gi gv he (zn (W / 1000000))) (f_B_X12_sendFrom_L11 R fu) (zn (pFar D F s g i)) (zn i))
      unfold f_B_X12_sendFrom_H11 f_B_X12_sendFrom_b47
      rw [pE_now, show Mo_now M (2 : Int32).toNatClampNeg = zn (pD_nm D) from hm.1.2.2.1, if_pos c, if_pos c]
      simp (disch := omega) only [zn_l444, zn_l0, zn_add, zb_zn, zn_nat, if_true, hF.g0 him, zn_eq]
      by_cases q : pF_o F i 0 = 0
      · rw [if_pos q]
        have hb := (hs2 i).mpr ⟨him, q⟩
        exact pm_ports hv hV R hm hF hs3 hb (hR i (Nat.le_refl _) him) (pD_np D) (k := 0) (fu := zFU) gi gv he W (by omega) (zFU_ge (by omega)) hS hB (by omega)
      · rw [if_neg q, zl_eq, pE_giving, pE_s_giving, show zn i + 1 = zn (i + 1) from zn_add i 1]
        have hb : ¬ s.testBit i = true := fun b => q ((hs2 i).mp b).2
        have ef : ∀ u : Nat → Nat, pSu u s (i + 1) = pSu u s i := fun u => by rw [pSu_succ, if_neg hb]; rfl
        have e1 : pFar D F s g i = pFar D F s g (i + 1) := (ef _).symm
        have e2 : pDgs s g i = pDgs s g (i + 1) := (ef _).symm
        have e3 : ∀ p, pHe s g (i + 1) p = pHe s g i p := fun p => ef _
        rw [e1] at hlt ⊢
        rw [e2] at hW
        have hS2 : pSi D F s (i + 1) g (upd gi i (-1)) he := by
          refine ⟨fun m hm => ?_, fun p hp => by rw [e3]; exact hS.2.1 p hp, fun m hm hb2 => ?_, fun p hp hp2 => by rw [e3]; exact hS.2.2.2 p hp hp2⟩
          · by_cases y : m = i
            · rw [y, pu_eq, if_neg hb]; rfl
            · rw [pu_ne _ _ y]; exact hS.1 m (by omega)
          · by_cases y : m = i
            · rw [y] at hb2; exact absurd hb2 hb
            · exact hS.2.2.1 m (by omega) hb2
        obtain ⟨gi', gv', he', W', p1, p2, p3, p4, p5, p6, p7⟩ := ih (i := i + 1) (fu := fu) g (upd gi i (-1)) gv he W (fun j hj => hR j (by omega)) (by omega) (by omega) hS2 hB hW hlt
        refine ⟨gi', gv', he', W', p1, p2, p3, fun m hm => by rw [p4 m (by omega), pu_ne _ _ (by omega)], p5, fun f f1 f2 f3 => p6 f f1 (fun m hm hb2 => ?_) (Nat.zero_le _), ?_⟩
        · by_cases y : m = i
          · rw [y] at hb2; exact absurd hb2 hb
          · exact f2 m (by omega) hb2
        · rcases p7 with p7 | ⟨f, f1, f2, f3⟩
          · exact Or.inl p7
          · exact Or.inr ⟨f, f1, fun m hm hb2 => f2 m (by omega) hb2, f3⟩
theorem pm_sendFrom (hv : pV D) (hV : pFv D F) {M : MoT} (hm : pLm D (Mo_now M)) (hF : pFm D F (Mo_now M)) {s : Nat} (hs2 : ∀ i, s.testBit i = true ↔ i < pD_nm D ∧ pF_o F i 0 = 0) {G0 : Nat → Int32} : ∀ (d : Nat) {i : Nat}, i ≤ pD_nm D → 7 ≤ d + i → pRec D F s M G0 (fG_X12_sendFrom d) i := by
  have hnm := hv.nm
  have hs3 : ∀ i, s.testBit i = true → i < pD_nm D := fun i h => ((hs2 i).mp h).1
  intro d
  induction d with
  | zero => intro i h1 h2; omega
  | succ d ih =>
    intro i h1 h2 g gi gv he W hS hB hW
    show pPost D F s M G0 i 0 g gi he W (f_B_X12_sendFrom (fG_X12_sendFrom d) (pE M gi gv he (zn (W / 1000000))) (zn i) (zn (pFar D F s g i)))
    unfold f_B_X12_sendFrom
    have hWl := pBs_le hB
    have hfl := pFar_le hv hV (i := i) (by omega) hs3 hS.2.2.1
    rw [pE_sl, ifn_lt (by omega) (by omega)]
    by_cases q : pFar D F s g i < W / 1000000
    · rw [if_pos q]
      exact pm_skips hv hV (fG_X12_sendFrom d) hm hF hs2 (pD_nm D - i) (fu := zFU) g gi gv he W (fun j j1 j2 => ih (by omega) (by omega)) (by omega) (zFU_ge (by omega)) hS hB hW q
    · rw [if_neg q]
      refine ⟨gi, gv, he, W, rfl, hB, fun _ _ => rfl, fun _ _ => rfl, Nat.le_refl _, fun f f1 f2 _ => ?_, Or.inl rfl⟩
      have a4 : pAW D F s f = _ := pAW_parts
      have a5 : pSu (fun m => pD_far D (pF_o F m 4) (f m)) s i = pFar D F s g i := pEx_sum f2 (fun m x => pD_far D (pF_o F m 4) x)
      have a6 : pSu (fun m => f m * 10 ^ (5 - m)) s i = pDgs s g i := pEx_sum f2 (fun m x => x * 10 ^ (5 - m))
      have a7 : pSu (fun m => pD_far D (pF_o F m 4) (f m)) s i ≤ pSu (fun m => pD_far D (pF_o F m 4) (f m)) s 6 := pSu_mono (by omega)
      have a8 : pSu (fun m => f m * 10 ^ (5 - m)) s i ≤ pSu (fun m => f m * 10 ^ (5 - m)) s 6 := pSu_mono (by omega)
      rw [a4]
      omega
end
