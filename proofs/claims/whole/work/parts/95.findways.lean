theorem pSrch_cong {f g : Nat → Bool} : ∀ d k, (∀ p, k ≤ p → p < k + d → f p = g p) → pSrch f d k = pSrch g d k
  | 0, k, h => rfl
  | d + 1, k, h => by
    simp only [pSrch]
    rw [h k (by omega) (by omega), pSrch_cong d (k + 1) (fun p p1 p2 => h p (by omega) (by omega))]
/-- miles and next places -/
def pFa (D : pD) : Nat → Nat → Nat := pFw (pF0 D) (pD_np D)
def pNe (D : pD) (a b : Nat) : Nat := if a = b ∨ pFa D a b = 100000 then 0 else pSrch (pNxt D (pFa D) a b) (pD_np D) 0
/-- the land, laid -/
def pLay (D : pD) : pD := ((pD_np D, pD_nr D, pD_nm D, pD_no D), (pD_pl D, pD_ro D, pD_me D), (pD_rd D, pFa D, pNe D))
theorem pFa_10 {D : pD} (hB : pBt D) {a b : Nat} (ha : a < pD_np D) (hb : b < pD_np D) : pFw (pF0 D) 10 a b = pFa D a b := by
  have := pFw_more (f := pF0 D) (n := pD_np D) hB.le (fun a b h1 h2 => pBt.out a b h1 h2) ha hb (10 - pD_np D)
  have h := hB.1
  rw [show pD_np D + (10 - pD_np D) = 10 by omega] at this
  exact this
theorem pBt.rdout {D : pD} (hB : pBt D) {a p : Nat} (ha : a < 10) (hp : p < 10) (h : pD_np D ≤ p) : pD_rd D a p = 0 := by
  by_cases q : pD_rd D a p = 0
  · exact q
  · have h1 := hB.2.2.2 a p ha hp (pD_rd D a p - 1) (by omega)
    have h2 := (hB.2.2.1 _ h1.1).1
    rcases h1.2 with ⟨z1, z2⟩ | ⟨z1, z2⟩ <;> omega
theorem pNe_10 {D : pD} (hB : pBt D) {a b : Nat} (ha : a < pD_np D) (hb : b < pD_np D) : pNx0 D (pFw (pF0 D) 10) a b = pNe D a b := by
  have h := hB.1
  unfold pNx0 pNe
  rw [pFa_10 hB ha hb]
  by_cases q : a = b ∨ pFa D a b = 100000
  · rw [if_pos q, if_pos q]
  · rw [if_neg q, if_neg q]
    have e1 : pSrch (pNxt D (pFw (pF0 D) 10) a b) 10 0 = pSrch (pNxt D (pFa D) a b) 10 0 := pSrch_cong 10 0 fun p p1 p2 => by
      unfold pNxt
      rw [pFa_10 hB ha hb]
      by_cases q2 : p < pD_np D
      · rw [pFa_10 hB q2 hb]
      · rw [hB.rdout (by omega) (by omega) (by omega)]; simp
    have e2 := pSrch_more (pNxt D (pFa D) a b) (10 - pD_np D) (pD_np D) 0 fun p p1 p2 => by
      unfold pNxt
      rw [hB.rdout (by omega) (by omega) (by omega)]; simp
    rw [e1, ← e2]; congr 1; omega
theorem pFa_le {D : pD} (hB : pBt D) (a b : Nat) : pFa D a b ≤ 100000 := pFw_lim hB _ a b
theorem pFa_tri (D : pD) {a b c : Nat} (hc : c < pD_np D) : pFa D a b ≤ pFa D a c + pFa D c b := pFw_tri _ _ c a b hc
/-- there is a first step -/
theorem pFa_step {D : pD} (hB : pBt D) {a b : Nat} (ha : a < pD_np D) (hb : b < pD_np D) (hab : a ≠ b) (hj : pFa D a b ≠ 100000) : ∃ p, p < pD_np D ∧ pNxt D (pFa D) a b p = true := by
  have hl := pFa_le hB a b
  have h10 := hB.1
  obtain ⟨p, p1, p2, p3, p4⟩ := pFw_first (f := pF0 D) (n := pD_np D) (fun a _ => pBt.diag a) (pD_np D) a b (Nat.le_refl _) ha hb hab (by show pFa D a b < 100000; omega)
  have p4' : pF0 D a p + pFa D p b ≤ pFa D a b := p4
  have t := pFa_tri D (a := a) (b := b) p2
  have t2 : pFa D a p ≤ pF0 D a p := pFw_le0 _ _ _ _
  refine ⟨p, p2, ?_⟩
  have e : pF0 D a p = if a < pD_np D ∧ p < pD_np D ∧ pD_rd D a p ≠ 0 then pD_ro D (pD_rd D a p - 1) 2 else 100000 := by
    unfold pF0; rw [if_neg (fun z => p1 z.symm)]
  by_cases q : pD_rd D a p = 0
  · rw [if_neg (fun z => z.2.2 q)] at e; omega
  · rw [if_pos ⟨ha, p2, q⟩] at e
    unfold pNxt
    rw [decide_eq_true_eq]
    exact ⟨q, by omega⟩
theorem pNe_spec {D : pD} (hB : pBt D) {a b : Nat} (ha : a < pD_np D) (hb : b < pD_np D) : (pNe D a b = 0 ↔ (a = b ∨ pFa D a b = 100000)) ∧ ∀ p, pNe D a b = p + 1 → p < pD_np D ∧ ∃ r, pD_rd D a p = r + 1 ∧ pD_ro D r 2 + pFa D p b = pFa D a b := by
  unfold pNe
  by_cases q : a = b ∨ pFa D a b = 100000
  · rw [if_pos q]; exact ⟨⟨fun _ => q, fun _ => rfl⟩, fun p h => by omega⟩
  · rw [if_neg q]
    rcases pSrch_spec (pNxt D (pFa D) a b) (pD_np D) 0 with ⟨h1, h2⟩ | ⟨p, h1, h2, h3, h4⟩
    · obtain ⟨p, p1, p2⟩ := pFa_step hB ha hb (fun z => q (Or.inl z)) (fun z => q (Or.inr z))
      rw [h2 p (by omega) (by omega)] at p2; exact absurd p2 (by decide)
    · rw [h1]
      refine ⟨⟨fun z => by omega, fun z => absurd z q⟩, fun p' hp' => ?_⟩
      obtain rfl : p = p' := by omega
      unfold pNxt at h4
      rw [decide_eq_true_eq] at h4
      refine ⟨by omega, pD_rd D a p - 1, by omega, h4.2⟩
theorem pFa_near {D : pD} (hB : pBt D) {b : Nat} (hb : b < pD_np D) : ∀ (n : Nat) {a : Nat}, a < pD_np D → pFa D a b < n → pFa D a b ≠ 100000 → pFa D a b ≤ 30 * pCl (pLay D) b a
  | 0, a, ha, h1, h2 => by omega
  | n + 1, a, ha, h1, h2 => by
    have h10 := hB.1
    by_cases q : a = b
    · have : pFa D a b = 0 := by rw [q]; exact pFw_diag (pBt.diag b) _
      omega
    · obtain ⟨p, p1, p2⟩ := pFa_step hB ha hb q h2
      unfold pNxt at p2
      rw [decide_eq_true_eq] at p2
      have hr := hB.2.2.2 a p (by omega) (by omega) (pD_rd D a p - 1) (by omega)
      have hr2 := hB.2.2.1 _ hr.1
      have hl := pFa_le hB a b
      have i := pFa_near hB hb n p1 (by omega) (by omega)
      have c : pCl (pLay D) b p < pCl (pLay D) b a := pCl_lt (D := pLay D) p1 (by show pFa D p b < pFa D a b; omega)
      omega
theorem pFa_270 {D : pD} (hB : pBt D) {a b : Nat} (ha : a < pD_np D) (hb : b < pD_np D) : pFa D a b ≤ 270 ∨ pFa D a b = 100000 := by
  by_cases q : pFa D a b = 100000
  · exact Or.inr q
  · left
    have i := pFa_near hB hb (pFa D a b + 1) ha (by omega) q
    have h1 : pCl (pLay D) b a < pCnt (fun _ => true) (pD_np D) := pCnt_lt (fun _ _ => rfl) (j := a) rfl (by simp) _ ha
    have h2 := pCnt_le (fun _ => true) (pD_np D)
    have := hB.1
    omega
theorem pLq.bt {D : pD} {L : LdT} {w : Nat → Int32} {N : Nat → Int64} (h : pLq D L w N) : pBt D := by
  obtain ⟨⟨b1, b2, b3, b4⟩, -, -, hP, hR, hM, hK, hBt, hF⟩ := h
  exact ⟨b1, b2, fun r hr => ⟨(hR r hr).2.2.1, (hR r hr).2.2.2.1, (hR r hr).2.2.2.2.1, (hR r hr).2.2.2.2.2.2.2.1, (hR r hr).2.2.2.2.2.2.2.2⟩, fun a b ha hb => (hBt a b ha hb).2.2⟩
theorem pLq.v {D : pD} {L : LdT} {w : Nat → Int32} {N : Nat → Int64} (h : pLq D L w N) : pV (pLay D) := by
  have hB := h.bt
  obtain ⟨⟨b1, b2, b3, b4⟩, -, -, hP, hR, hM, hK, hBt, hF⟩ := h
  refine ⟨⟨b1, b2, b3, by show pD_no D ≤ 10; omega⟩, fun p hp => (hP p hp).2.2.1, fun r hr => (hR r hr).2.2, fun m hm => (hM m hm).2.2.1, ?_, ?_, ?_, ?_, ?_⟩
  · intro a b r hr ha hb
    have ha' : a < pD_np D := ha
    have hb' : b < pD_np D := hb
    exact hB.2.2.2 a b (by omega) (by omega) r hr
  · intro a ha; exact pFw_diag (pBt.diag a) _
  · intro a b ha hb; exact pFa_270 hB ha hb
  · intro a b ha hb; exact (pNe_spec hB ha hb).1
  · intro a b p ha hb hp; exact (pNe_spec hB ha hb).2 p hp
/-! the class -/
section
variable {D : pD} {L : LdT}
/-- what is known of the land when the ways are sought -/
def pLb (D : pD) (L : LdT) : Prop := Ld_places L = zn (pD_np D) ∧ (∀ r, r < pD_nr D → Ld_roadRows L (r * 5 + 2) = zn (pD_ro D r 2)) ∧ (∀ a b, a < 10 → b < 10 → Ld_between L (a * 10 + b) = zo (pD_rd D a b)) ∧ pMl (pD_np D) (Ld_miles L) (pFa D)
theorem pLb.road (h : pLb D L) {a b : Nat} (ha : a < 10) (hb : b < 10) : f_X3_roadBetween L (zn a) (zn b) = some (zo (pD_rd D a b)) := by
  rw [pr_roadBetween L (show a * 10 + b < 100 by omega), h.2.2.1 a b ha hb]
theorem pc_firstStep (hB : pBt D) (h : pLb D L) {a b : Nat} (ha : a < pD_np D) (hb : b < pD_np D) : ∀ (d : Nat) {k fu : Nat}, k + d = pD_np D → d + 1 ≤ fu → f_X3_firstStep_L2 L fu (zn a) (zn b) (zn k) = some (zo (pSrch (pNxt D (pFa D) a b) d k))
  | d, k, 0, h1, h2 => by omega
  | 0, k, fu + 1, h1, h2 => by
    have h10 := hB.1
    show f_X3_firstStep_H2 L (f_X3_firstStep_L2 L fu) (zn a) (zn b) (zn k) = _
    unfold f_X3_firstStep_H2
    rw [h.1, if_neg (by rw [zn_lt (by omega) (by omega)]; omega)]; rfl
  | d + 1, k, fu + 1, h1, h2 => by
    have h10 := hB.1
    have h16 := hB.2.1
    show f_X3_firstStep_H2 L (f_X3_firstStep_L2 L fu) (zn a) (zn b) (zn k) = _
    unfold f_X3_firstStep_H2 f_X3_firstStep_b49
    have hk : k < pD_np D := by omega
    have l1 := pFa_le hB a b
    have l2 := pFa_le hB k b
    have mi : ∀ x y, x < pD_np D → y < pD_np D → f_X3_milesBetween L (zn x) (zn y) = some (zn (pFa D x y)) := fun x y hx hy => by
      rw [pr_milesBetween L (show x * 10 + y < 100 by omega), h.2.2.2 x y hx hy]
    rw [if_pos (by rw [h.1, zn_lt (by omega) (by omega)]; omega), h.road (by omega) (by omega), ob_eq, mi k b hk hb, mi a b ha hb, show zn k + 1 = zn (k + 1) from zn_add k 1, pc_firstStep hB h ha hb d (by omega) (by omega)]
    have hb1 : pD_rd D a k ≤ 16 := by
      by_cases q : pD_rd D a k = 0
      · omega
      · have := (hB.2.2.2 a k (by omega) (by omega) (pD_rd D a k - 1) (by omega)).1; omega
    simp only [pSrch]
    by_cases q : pD_rd D a k = 0
    · rw [if_pos (by rw [zo_m1 (by omega)]; exact q), if_neg (by unfold pNxt; simp [q])]
    · have hr := (hB.2.2.2 a k (by omega) (by omega) (pD_rd D a k - 1) (by omega)).1
      have hr2 := (hB.2.2.1 _ hr).2.2.1
      have of2 : f_X3_ofRoad L (zo (pD_rd D a k)) 2 = some (zn (pD_ro D (pD_rd D a k - 1) 2)) := by
        rw [show zo (pD_rd D a k) = zn (pD_rd D a k - 1) from by
          obtain ⟨z, hz⟩ : ∃ z, pD_rd D a k = z + 1 := ⟨pD_rd D a k - 1, by omega⟩
          rw [hz]; rfl]
        rw [zn_l2, pr_ofRoad L (show (pD_rd D a k - 1) * 5 + 2 < 80 by omega), h.2.1 _ hr]
      rw [if_neg (by rw [zo_m1 (by omega)]; exact q), of2, ob_eq, ob_eq, ob_eq, zn_add]
      by_cases q2 : pD_ro D (pD_rd D a k - 1) 2 + pFa D k b = pFa D a b
      · rw [if_pos (by rw [q2]), if_pos (by unfold pNxt; simp [q, q2])]; rfl
      · rw [if_neg (by rw [zn_eq (by omega) (by omega)]; exact q2), if_neg (by unfold pNxt; simp [q2])]
/-- the ways so far -/
def pWy (D : pD) (n t : Nat → Int32) (a b : Nat) : Prop := ∀ x y, x < pD_np D → y < pD_np D → (x < a ∨ (x = a ∧ y < b)) → n (x * 10 + y) = zo (pNe D x y) ∧ t (x * 10 + y) = (if pNe D x y = 0 then zm else zo (pD_rd D x (pNe D x y - 1)))
theorem pc_find12 (hB : pBt D) (h : pLb D L) {k2 : LdT → Int32 → Option LdT} {a : Nat} (ha : a < pD_np D) : ∀ (d : Nat) {b fu : Nat} {n t : Nat → Int32}, b + d = pD_np D → d + 1 ≤ fu → pWy D n t a b → ∃ n' t', f_X3_findWays_L12 k2 fu (Ld_s_towards (Ld_s_nexts L n) t) (zn a) (zn b) = k2 (Ld_s_towards (Ld_s_nexts L n') t') (zn (a + 1)) ∧ pWy D n' t' (a + 1) 0
  | d, b, 0, n, t, h1, h2, h3 => by omega
  | 0, b, fu + 1, n, t, h1, h2, h3 => by
    have h10 := hB.1
    show ∃ n' t', f_X3_findWays_H12 (Ld_s_towards (Ld_s_nexts L n) t) k2 (f_X3_findWays_L12 k2 fu) (zn a) (zn b) = _ ∧ _
    unfold f_X3_findWays_H12
    rw [if_neg (show ¬ zn b < Ld_places (Ld_s_towards (Ld_s_nexts L n) t) from by show ¬ zn b < Ld_places L; rw [h.1, zn_lt (by omega) (by omega)]; omega), show zn a + 1 = zn (a + 1) from zn_add a 1]
    exact ⟨n, t, rfl, fun x y hx hy q => h3 x y hx hy (by omega)⟩
  | d + 1, b, fu + 1, n, t, h1, h2, h3 => by
    have h10 := hB.1
    have hb : b < pD_np D := by omega
    have hs : ∀ n t, pLb D (Ld_s_towards (Ld_s_nexts L n) t) := fun n t => h
    have b44 : ∀ z : Nat, z = pNe D a b → ∃ n' t', f_X3_findWays_b44 (Ld_s_towards (Ld_s_nexts L n) t) k2 (f_X3_findWays_L12 k2 fu) (zn a) (zn b) (zo z) = k2 (Ld_s_towards (Ld_s_nexts L n') t') (zn (a + 1)) ∧ pWy D n' t' (a + 1) 0 := by
      intro z hz
      have hz10 : z ≤ 10 := by
        cases z with
        | zero => omega
        | succ p => have := ((pNe_spec hB ha hb).2 p hz.symm).1; omega
      unfold f_X3_findWays_b44 f_X3_findWays_b82
      rw [zn_l10, zn_mul, zn_add, zb_zn (by omega) (by omega), if_pos rfl, zl_eq, zn_nat (by omega), show Ld_s_nexts (Ld_s_towards (Ld_s_nexts L n) t) (upd (Ld_nexts (Ld_s_towards (Ld_s_nexts L n) t)) (a * 10 + b) (zo z)) = Ld_s_towards (Ld_s_nexts L (upd n (a * 10 + b) (zo z))) t from rfl]
      have fin : ∀ v : Int32, v = (if z = 0 then zm else zo (pD_rd D a (z - 1))) → ∃ n' t', f_X3_findWays_L12 k2 fu (Ld_s_towards (Ld_s_nexts L (upd n (a * 10 + b) (zo z))) (upd t (a * 10 + b) v)) (zn a) (zn (b + 1)) = k2 (Ld_s_towards (Ld_s_nexts L n') t') (zn (a + 1)) ∧ pWy D n' t' (a + 1) 0 := fun v hv =>
        pc_find12 hB h ha d (b := b + 1) (fu := fu) (by omega) (by omega) fun x y hx hy q => by
          by_cases q2 : x = a ∧ y = b
          · obtain ⟨rfl, rfl⟩ := q2
            rw [pu_eq, pu_eq, hv, ← hz]; exact ⟨rfl, rfl⟩
          · rw [pu_ne _ _ (by omega), pu_ne _ _ (by omega)]; exact h3 x y hx hy (by omega)
      by_cases q : z = 0
      · rw [if_pos (by rw [zo_m1 (by omega)]; exact q), zl_eq, show zn b + 1 = zn (b + 1) from zn_add b 1]
        exact fin (-1) (by rw [if_pos q]; rfl)
      · obtain ⟨p, rfl⟩ : ∃ p, z = p + 1 := ⟨z - 1, by omega⟩
        rw [if_neg (by rw [zo_m1 (by omega)]; omega), show f_X3_roadBetween (Ld_s_towards (Ld_s_nexts L (upd n (a * 10 + b) (zo (p + 1)))) t) (zn a) (zo (p + 1)) = some (zo (pD_rd D a p)) from (hs _ _).road (b := p) (by omega) (by omega), ob_eq]
        simp only [if_true]
        rw [zl_eq, show zn b + 1 = zn (b + 1) from zn_add b 1]
        exact fin _ (by rw [if_neg (by omega)]; rfl)
    show ∃ n' t', f_X3_findWays_H12 (Ld_s_towards (Ld_s_nexts L n) t) k2 (f_X3_findWays_L12 k2 fu) (zn a) (zn b) = _ ∧ _
    unfold f_X3_findWays_H12 f_X3_findWays_b43
    rw [if_pos (show zn b < Ld_places (Ld_s_towards (Ld_s_nexts L n) t) from by show zn b < Ld_places L; rw [h.1, zn_lt (by omega) (by omega)]; omega)]
    by_cases q : a = b
    · rw [if_pos (by rw [q])]
      exact b44 0 (by unfold pNe; rw [if_pos (Or.inl q)])
    · rw [if_neg (by rw [zn_eq (by omega) (by omega)]; exact q), show f_X3_joined (Ld_s_towards (Ld_s_nexts L n) t) (zn a) (zn b) = some (if pFa D a b = 100000 then 0 else 1) from pc_joinedOf (L := Ld_s_towards (Ld_s_nexts L n) t) (m := Ld_miles L) (by omega) (by omega) (h.2.2.2 a b ha hb) (pFa_le hB a b), ob_eq]
      by_cases q2 : pFa D a b = 100000
      · rw [if_pos q2, if_pos rfl]
        exact b44 0 (by unfold pNe; rw [if_pos (Or.inr q2)])
      · have fs : f_X3_firstStep (Ld_s_towards (Ld_s_nexts L n) t) (zn a) (zn b) = some (zo (pSrch (pNxt D (pFa D) a b) (pD_np D) 0)) := pc_firstStep hB (hs n t) ha hb (pD_np D) (k := 0) (fu := zFU) (by omega) (zFU_ge (by omega))
        rw [if_neg q2, if_neg n10, fs, ob_eq]
        exact b44 _ (by unfold pNe; rw [if_neg (by rintro (z | z) <;> contradiction)])
theorem pc_find2 (hB : pBt D) (h : pLb D L) : ∀ (d : Nat) {a fu : Nat} {n t : Nat → Int32}, a + d = pD_np D → d + 1 ≤ fu → pWy D n t a 0 → ∃ n' t', f_X3_findWays_L2 fu (Ld_s_towards (Ld_s_nexts L n) t) (zn a) = some (Ld_s_towards (Ld_s_nexts L n') t') ∧ pWy D n' t' (pD_np D) 0
  | d, a, 0, n, t, h1, h2, h3 => by omega
  | 0, a, fu + 1, n, t, h1, h2, h3 => by
    have h10 := hB.1
    show ∃ n' t', f_X3_findWays_H2 (Ld_s_towards (Ld_s_nexts L n) t) (f_X3_findWays_L2 fu) (zn a) = _ ∧ _
    unfold f_X3_findWays_H2
    rw [if_neg (show ¬ zn a < Ld_places (Ld_s_towards (Ld_s_nexts L n) t) from by show ¬ zn a < Ld_places L; rw [h.1, zn_lt (by omega) (by omega)]; omega)]
    have e : a = pD_np D := by omega
    subst e
    exact ⟨n, t, rfl, h3⟩
  | d + 1, a, fu + 1, n, t, h1, h2, h3 => by
    have h10 := hB.1
    show ∃ n' t', f_X3_findWays_H2 (Ld_s_towards (Ld_s_nexts L n) t) (f_X3_findWays_L2 fu) (zn a) = _ ∧ _
    unfold f_X3_findWays_H2
    rw [if_pos (show zn a < Ld_places (Ld_s_towards (Ld_s_nexts L n) t) from by show zn a < Ld_places L; rw [h.1, zn_lt (by omega) (by omega)]; omega)]
    obtain ⟨n1, t1, e1, e2⟩ := pc_find12 hB h (k2 := f_X3_findWays_L2 fu) (a := a) (by omega) (pD_np D) (b := 0) (fu := zFU) (n := n) (t := t) (by omega) (zFU_ge (by omega)) h3
    rw [show f_X3_findWays_L12 (f_X3_findWays_L2 fu) zFU (Ld_s_towards (Ld_s_nexts L n) t) (zn a) 0 = _ from e1]
    exact pc_find2 hB h d (by omega) (by omega) e2
theorem q_findWays (hB : pBt D) (h : pLb D L) : ∃ n' t', f_X3_findWays L = some (Ld_s_towards (Ld_s_nexts L n') t') ∧ pWy D n' t' (pD_np D) 0 := by
  unfold f_X3_findWays
  obtain ⟨n1, t1, e1, e2⟩ := pc_find2 hB h (pD_np D) (a := 0) (fu := zFU) (n := Ld_nexts L) (t := Ld_towards L) (by omega) (zFU_ge (by have := hB.1; omega)) (fun x y hx hy q => by omega)
  have e1' : f_X3_findWays_L2 zFU L 0 = some (Ld_s_towards (Ld_s_nexts L n1) t1) := e1
  exact ⟨n1, t1, e1', e2⟩
end
/-- a land that is told: both lay it -/
theorem q_laid {D : pD} {L : LdT} {M : MoT} (h : pLq D L (Mo_read M) (Mo_readName M)) : ∃ m n t w', f_X3_measure L = some (Ld_s_miles L m) ∧ f_X3_findWays (Ld_s_miles L m) = some (Ld_s_towards (Ld_s_nexts (Ld_s_miles L m) n) t) ∧ f_X12_layWays M = some (Mo_s_read M w') ∧ pLc (pLay D) (Ld_s_towards (Ld_s_nexts (Ld_s_miles L m) n) t) ∧ pLm (pLay D) w' := by
  have hB := h.bt
  obtain ⟨⟨b1, b2, b3, b4⟩, ⟨c1, c2, c3, c4⟩, ⟨d1, d2, d3, d4⟩, hP, hR, hM, hK, hBt, hF⟩ := h
  obtain ⟨m, e1, e2⟩ := q_measure hB c1 c2 fun r k hr hk => (hR r hr).1 k hk
  obtain ⟨n, t, f1, f2⟩ := q_findWays (D := D) (L := Ld_s_miles L m) hB ⟨c1, fun r hr => (hR r hr).1 2 (by omega), fun a b ha hb => (hBt a b ha hb).1, e2⟩
  obtain ⟨w', g1, g2, g3, g4⟩ := pm_layWays (D := D) (M := M) hB ⟨fun a b ha hb => (hBt a b ha hb).2.1, fun r hr => (hR r hr).2.1.2.2.1⟩
  refine ⟨m, n, t, w', e1, f1, g1, ⟨⟨c1, c2, c3, c4⟩, fun p k hp hk => (hP p hp).1 k hk, fun r k hr hk => (hR r hr).1 k hk, fun m k hm hk => (hM m hm).1 k hk, fun a b ha hb => ?_⟩, ?_⟩
  · have ha' : a < pD_np D := ha
    have hb' : b < pD_np D := hb
    obtain ⟨z1, z2⟩ := f2 a b ha' hb' (Or.inl ha')
    exact ⟨(hBt a b (by omega) (by omega)).1, e2 a b ha' hb', z1, z2⟩
  · refine ⟨⟨?_, ?_, ?_, ?_⟩, fun p hp => ?_, fun r hr => ?_, fun m hm => ?_, ?_, fun a b ha hb => ?_⟩
    · rw [g2 _ (by omega)]; exact d1
    · rw [g2 _ (by omega)]; exact d2
    · rw [g2 _ (by omega)]; exact d3
    · rw [g2 _ (by omega)]; exact d4
    · have hp' : p < pD_np D := hp
      rw [g2 _ (by omega), g2 _ (by omega), g2 _ (by omega), g2 _ (by omega)]; exact (hP p hp').2.1
    · have hr' : r < pD_nr D := hr
      rw [g2 _ (by omega), g2 _ (by omega), g2 _ (by omega), g2 _ (by omega), g2 _ (by omega)]; exact (hR r hr').2.1
    · have hm' : m < pD_nm D := hm
      rw [g2 _ (by omega), g2 _ (by omega), g2 _ (by omega)]; exact (hM m hm').2.1
    · obtain ⟨kb, k1, k2, k3, k4⟩ := hK
      exact ⟨kb, k1, by rw [g2 _ (by omega)]; exact k2, k3⟩
    · have ha' : a < pD_np D := ha
      have hb' : b < pD_np D := hb
      refine ⟨?_, ?_, ?_⟩
      · rw [g2 _ (by omega)]; exact (hBt a b (by omega) (by omega)).2.1
      · rw [g3 a b (by omega) (by omega), pFa_10 hB ha' hb']; rfl
      · rw [g4 a b (by omega) (by omega) (Or.inl (by omega)), pNe_10 hB ha' hb']; rfl
