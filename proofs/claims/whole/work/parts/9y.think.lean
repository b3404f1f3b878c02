/-! PLAN: the class thinks -/
section
variable {lv : Nat → Nat} {pace all : Nat}
theorem pc_rows (L : LdT) (K : FkT) (hl : ∀ g, lv g ≤ 12) (ha : all ≤ 270) (hp : pace ≤ 20) {days from_ : Nat} (hd : days ≤ 12) (hf : from_ < all) (x3 : Int32) : ∀ (d : Nat) {l fu : Nat} (P : PlT), l + d = days + 1 → d + 1 ≤ fu → pSv lv all P → pCa lv pace all days from_ l P →
    ∃ c, f_X6_think_L92 L K fu P x3 (zn days) (zn all) (zn from_) (zn pace) (zq (12 ^ (min l days))) (zn l) = f_X6_think_H92 (Pl_s_cases P c) L K (f_X6_think_L92 L K 0) x3 (zn days) (zn all) (zn from_) (zn pace) (zq (12 ^ days)) (zn (days + 1)) ∧ pCa lv pace all days from_ (days + 1) (Pl_s_cases P c) := by
  intro d
  induction d with
  | zero =>
    intro l fu P h1 h2 hs hc
    cases fu with
    | zero => omega
    | succ fu =>
      have e : l = days + 1 := by omega
      subst e
      refine ⟨Pl_cases P, ?_, hc⟩
      rw [Nat.min_eq_right (by omega)]
      show f_X6_think_H92 P L K (f_X6_think_L92 L K fu) x3 (zn days) (zn all) (zn from_) (zn pace) (zq (12 ^ days)) (zn (days + 1)) = f_X6_think_H92 P L K (f_X6_think_L92 L K 0) x3 (zn days) (zn all) (zn from_) (zn pace) (zq (12 ^ days)) (zn (days + 1))
      unfold f_X6_think_H92
      have c : zn days < zn (days + 1) := by rw [zn_lt (by omega) (by omega)]; omega
      rw [if_pos c, if_pos c]
  | succ d ih =>
    intro l fu P h1 h2 hs hc
    cases fu with
    | zero => omega
    | succ fu =>
      have hld : l ≤ days := by omega
      have hmul : (days - l) * pace ≤ 12 * 20 := Nat.mul_le_mul (by omega) hp
      have hmul1 : 1 ≤ l → (days - (l - 1)) * pace = (days - l) * pace + pace := fun q => by rw [show days - (l - 1) = days - l + 1 by omega, Nat.add_mul]; omega
      obtain ⟨c, e1, e2, e3⟩ := pc_weighDay (lv := lv) (pace := pace) (all := all) hl ha hp (k := l) (t := min (all - 1) (from_ + (days - l) * pace)) (by omega) (by omega) (min (all - 1) (from_ + (days - l) * pace) + 1 - from_) (g := from_) (fu := zFU) P (by omega) (zFU_ge (by omega)) hs (fun k1 h n q1 q2 q3 q4 q5 => by
        have := hmul1 k1
        exact hc (l - 1) (by omega) (h + n) (by omega) q5 (Or.inl (by omega)))
      obtain ⟨c2, f1, f2⟩ := ih (l := l + 1) (fu := fu) (Pl_s_cases P (vp_updL c (l * 271 + all) (zq (12 ^ l)))) (by omega) (by omega) hs (fun l' hl' g g1 g2 g3 => by
        show vp_updL c (l * 271 + all) (zq (12 ^ l)) (l' * 271 + g) = _
        by_cases z : l' = l
        · subst z
          by_cases y : g = all
          · rw [y, vu_eq, pWv_all]
          · rw [vu_ne _ _ (by omega)]
            exact e2 g g1 (by omega)
        · rw [vu_ne _ _ (by omega), e3 _ (by omega)]
          exact hc l' (by omega) g g1 g2 g3)
      refine ⟨c2, ?_, f2⟩
      show f_X6_think_H92 P L K (f_X6_think_L92 L K fu) x3 (zn days) (zn all) (zn from_) (zn pace) (zq (12 ^ min l days)) (zn l) = _
      have e0 : zr_mminF (zn all - (1 : Int32)) (zn from_ + ((zn days - zn l) * zn pace)) = zn (min (all - 1) (from_ + (days - l) * pace)) := by
        rw [zn_l1, zn_sub (by omega), zn_sub hld, zn_mul, zn_add, zr_min_zn (by omega) (by omega)]
      refine Eq.trans ?_ f1
      unfold f_X6_think_H92 f_X6_think_b158
      unfold f_X6_weighDay f_X6_index
      rw [ifn_lt (by omega) (by omega), if_neg (by omega), e0, e1, ob_eq, ob_eq, zn_l271, zn_mul, zn_add, zb_zn (by omega) (by omega), if_pos rfl, zl_eq, zn_nat (by omega), Nat.min_eq_left hld, ifn_lt (by omega) (by omega), show zn l + 1 = zn (l + 1) from zn_add l 1]
      by_cases z : l < days
      · rw [if_pos z, zq_l12, zq_mul, Nat.min_eq_left (show l + 1 ≤ days by omega), ← Nat.pow_succ]; rfl
      · rw [if_neg z, show min (l + 1) days = l by omega]; rfl
end
section
variable {D : pD} {L : LdT} {F : pF} {K : FkT}
/-- he walks: what the plan is of -/
def pWk (D : pD) (f : Nat → Nat) (b : Nat) : Prop := (f 3 = b + 1 ∧ b < pD_np D ∧ f 4 < pD_np D ∧ pD_far D (f 4) b ≠ 100000 ∧ f 6 = pD_far D (f 4) b ∧ f 6 ≤ 270) ∧ f 5 < f 6 ∧ 1 ≤ f 7 ∧ f 9 ≤ 1
theorem pMv.wk {D : pD} {f : Nat → Nat} (hv : pV D) (h : pMv D f) (h0 : f 0 = 1) : ∃ b, pWk D f b := by
  obtain ⟨h1, h2, h3, h4, h5, h6, h7⟩ := h
  obtain ⟨g1, g2, g3⟩ := h4 (by omega)
  obtain ⟨k1, k2, k3, k4, -⟩ := h6 h0
  have k5 := (h3 g1).1
  have := hv.far h2.1 k5
  exact ⟨f 3 - 1, ⟨by omega, k5, h2.1, g2, g3, by omega⟩, k1, k2, k4⟩
theorem pLv_goal {D : pD} (hv : pV D) {m b a : Nat} (ha : a < pD_np D) (hb : b < pD_np D) (hj : pD_far D a b ≠ 100000) : pLv D m b a (pD_far D a b) = 12 := by
  have h1 := (pWalk_goal hv hb ha hj (Nat.le_refl _)).mpr rfl
  have h2 := (pWalk_props hv hb ha hj _ (Nat.le_refl _)).2.2.1
  have h0 := hv.far0 hb
  unfold pLv
  rw [if_pos]
  rw [h1, h0] at h2
  omega
theorem pc_think (hv : pV D) (hc : pLc D L) (hK : pFc D F K) (hV : pFv D F) {m b : Nat} (hm : m < pD_nm D) (h0 : pF_o F m 0 = 1) (hw : pWk D (pF_o F m) b) (h7 : pF_o F m 7 ≤ 12) (P : PlT) {xs : List Nat} (hx : pPt (pLv D m b (pF_o F m 4)) (pD_me D m 1) (pF_o F m 6) (decide (pWv (pLv D m b (pF_o F m 4)) (pD_me D m 1) (pF_o F m 6) (pF_o F m 7) (pF_o F m 5) ≠ 0)) (pF_o F m 7) (pF_o F m 5) (pF_o F m 9) xs) :
    ∃ P', f_X6_think P L K (zn m) = some P' ∧ Pl_above P' = zq (pWv (pLv D m b (pF_o F m 4)) (pD_me D m 1) (pF_o F m 6) (pF_o F m 7) (pF_o F m 5) / Nat.gcd (pWv (pLv D m b (pF_o F m 4)) (pD_me D m 1) (pF_o F m 6) (pF_o F m 7) (pF_o F m 5)) (12 ^ pF_o F m 7)) ∧ Pl_below P' = zq (12 ^ pF_o F m 7 / Nat.gcd (pWv (pLv D m b (pF_o F m 4)) (pD_me D m 1) (pF_o F m 6) (pF_o F m 7) (pF_o F m 5)) (12 ^ pF_o F m 7)) ∧ ∀ j, j < 12 → Pl_chosen P' j = if j < xs.length then zn (xs.getD j 0) else zm := by
  obtain ⟨⟨w1, w2, w3, w4, w5, w6⟩, w7, w8, w9⟩ := hw
  have hMv := hV.2 m hm
  have hme := hv.me hm
  have hl := pLv_le D m b (pF_o F m 4)
  obtain ⟨sv, s1, s2⟩ := pc_weighMilestones hv hc hK hm w2 w1 w3 w4 P
  obtain ⟨c, c1, c2⟩ := pc_rows (lv := pLv D m b (pF_o F m 4)) (pace := pD_me D m 1) (all := pF_o F m 6) L K hl w6 hme.2.2.2.1 (days := pF_o F m 7) (from_ := pF_o F m 5) h7 w7 (zn m) (pF_o F m 7 + 1) (l := 0) (fu := zFU) (Pl_s_survives P sv) (by omega) (zFU_ge (by omega)) (fun g hg => s2 g (by omega)) (fun l hl => by omega)
  have hn : pF_o F m 9 < 2147483648 := by omega
  obtain ⟨ch, k1, k2⟩ := pc_choose hl w6 hme.2.2.2.1 h7 w7 (Pl_s_cases (Pl_s_survives P sv) c) (fun g hg => s2 g (by omega)) c2 w9 hx
  have hca := c2 (pF_o F m 7) (by omega) (pF_o F m 5) (Nat.le_refl _) (by omega) (Or.inl (Nat.le_add_right _ _))
  have b1 : pWv (pLv D m b (pF_o F m 4)) (pD_me D m 1) (pF_o F m 6) (pF_o F m 7) (pF_o F m 5) < 9223372036854775808 := by
    have := Nat.le_trans (pWv_bd (pace := pD_me D m 1) (all := pF_o F m 6) hl (pF_o F m 7) (pF_o F m 5)) (pPow12 (k := pF_o F m 7) (by omega))
    omega
  have b2 : 12 ^ pF_o F m 7 < 9223372036854775808 := by have := pPow12 (k := pF_o F m 7) (by omega); omega
  have b3 : 0 < 12 ^ pF_o F m 7 := Nat.pow_pos (by omega)
  have bg := Nat.gcd_pos_of_pos_right (pWv (pLv D m b (pF_o F m 4)) (pD_me D m 1) (pF_o F m 6) (pF_o F m 7) (pF_o F m 5)) b3
  have bg2 := Nat.gcd_le_right (pWv (pLv D m b (pF_o F m 4)) (pD_me D m 1) (pF_o F m 6) (pF_o F m 7) (pF_o F m 5)) b3
  unfold f_X6_think f_X6_think_b32
  rw [show f_X1_daysYet K (zn m) = some (zn (pF_o F m 7)) from by rw [pc_daysYet hv hK hm hMv.1.1, if_pos h0], ob_eq, pc_allMiles hv hc hK hm hMv, ob_eq, pc_of5 hv hK hm, ob_eq, show f_X3_ofMan L (zn m) (1 : Int32) = some (zn (pD_me D m 1)) from pc_ofMan (k := 1) hv hc hm (by omega), ob_eq, s1, ob_eq]
  rw [zn_l12, zn_l270, zr_min_zn (by omega) (by omega), zr_min_zn (by omega) (by omega), zr_min_zn (by omega) (by omega), Nat.min_eq_right (show pF_o F m 7 ≤ 12 by omega), Nat.min_eq_right (show pF_o F m 6 ≤ 270 by omega), Nat.min_eq_right (show pF_o F m 5 ≤ pF_o F m 6 by omega)]
  rw [show (1 : Int64) = zq (12 ^ min 0 (pF_o F m 7)) from by rw [Nat.zero_min]; rfl, show (0 : Int32) = zn 0 from rfl, c1]
  unfold f_X6_think_H92
  rw [if_pos (show zn (pF_o F m 7) < zn (pF_o F m 7 + 1) by rw [zn_lt (by omega) (by omega)]; omega), show f_X1_of K (zn m) (8 : Int32) = some (zn (pF_o F m 9)) from pc_of8 hv hK hm, ob_eq]
  have kk : ∀ z0 : Int32, z0 = (if 0 < pF_o F m 9 then 1 else 0) → f_X6_choose (Pl_s_cases (Pl_s_survives P sv) c) (zn (pF_o F m 7)) (zn (pF_o F m 5)) (zn (pF_o F m 6)) (zn (pD_me D m 1)) z0 = some (Pl_s_chosen (Pl_s_cases (Pl_s_survives P sv) c) ch) := fun z0 e => by rw [e]; exact k1
  have tail : ∀ z0 : Int32, z0 = (if 0 < pF_o F m 9 then 1 else 0) → ∃ P', f_X6_think_b188 (Pl_s_cases (Pl_s_survives P sv) c) L K (zn (pF_o F m 7)) (zn (pF_o F m 5)) (zq (12 ^ pF_o F m 7)) z0 (zn (pD_me D m 1)) (zn (pF_o F m 6)) (zn (pF_o F m 5)) (zn (pF_o F m 7)) = some P' ∧ Pl_above P' = zq (pWv (pLv D m b (pF_o F m 4)) (pD_me D m 1) (pF_o F m 6) (pF_o F m 7) (pF_o F m 5) / Nat.gcd (pWv (pLv D m b (pF_o F m 4)) (pD_me D m 1) (pF_o F m 6) (pF_o F m 7) (pF_o F m 5)) (12 ^ pF_o F m 7)) ∧ Pl_below P' = zq (12 ^ pF_o F m 7 / Nat.gcd (pWv (pLv D m b (pF_o F m 4)) (pD_me D m 1) (pF_o F m 6) (pF_o F m 7) (pF_o F m 5)) (12 ^ pF_o F m 7)) ∧ ∀ j, j < 12 → Pl_chosen P' j = if j < xs.length then zn (xs.getD j 0) else zm := by
    intro z0 e
    unfold f_X6_think_b188 f_X6_index
    rw [kk z0 e, ob_eq, ob_eq, zn_l271, zn_mul, zn_add, zb_zn (by omega) (by omega), if_pos rfl, zl_eq, zl_eq, zn_nat (by omega)]
    rw [show Pl_cases (Pl_s_chosen (Pl_s_cases (Pl_s_survives P sv) c) ch) (pF_o F m 7 * 271 + pF_o F m 5) = _ from hca]
    generalize hy : Pl_s_chosen (Pl_s_cases (Pl_s_survives P sv) c) ch = Y
    have hch : Pl_chosen Y = ch := by rw [← hy]; rfl
    generalize pWv (pLv D m b (pF_o F m 4)) (pD_me D m 1) (pF_o F m 6) (pF_o F m 7) (pF_o F m 5) = V at *
    rw [show Pl_above (Pl_s_below (Pl_s_above Y (zq V)) (zq (12 ^ pF_o F m 7))) = zq V from rfl, show Pl_below (Pl_s_below (Pl_s_above Y (zq V)) (zq (12 ^ pF_o F m 7))) = zq (12 ^ pF_o F m 7) from rfl, pc_div b1 b2 b3, ob_eq, zq_nz (by omega) (by omega), if_pos rfl, zl_eq, zl_eq, zq_div b1 (by omega)]
    refine ⟨_, rfl, rfl, ?_, fun j hj => ?_⟩
    · show zq (12 ^ pF_o F m 7) / zq (Nat.gcd V (12 ^ pF_o F m 7)) = _
      exact zq_div b2 (by omega)
    · show Pl_chosen Y j = _
      rw [hch]; exact k2 j hj
  by_cases z : 0 < pF_o F m 9
  · rw [if_pos (show (0 : Int32) < zn (pF_o F m 9) by rw [zn_pos (by omega)]; exact z)]
    exact tail 1 (by rw [if_pos z])
  · rw [if_neg (show ¬ (0 : Int32) < zn (pF_o F m 9) by rw [zn_pos (by omega)]; exact z)]
    exact tail 0 (by rw [if_neg z])
end
