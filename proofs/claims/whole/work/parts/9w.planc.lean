/-! PLAN: the class -/
def pDaN (D : pD) (m p b : Nat) : Nat := if pD_me D m 3 = 1 then pD_ro D (pRd D p b) 3 / 2 else pD_ro D (pRd D p b) 3
/-- of 12, how many leave him alive where he is with g miles gone -/
def pLv (D : pD) (m b a g : Nat) : Nat := if (pWalk D b 10 a g).2 = 0 then 12 else 12 - pDaN D m (pWalk D b 10 a g).1 b
theorem pLv_le (D : pD) (m b a g : Nat) : pLv D m b a g ≤ 12 := by unfold pLv; split <;> omega
theorem pDan_N {D : pD} (hv : pV D) {m p b : Nat} (hp : p < pD_np D) (hb : b < pD_np D) (hpb : p ≠ b) (hj : pD_far D p b ≠ 100000) : pDan D m p b = zn (pDaN D m p b) ∧ pDaN D m p b ≤ 12 := by
  obtain ⟨-, ⟨-, hr⟩, -⟩ := hv.stp hp hb hpb hj
  have := (hv.ro hr).2.2.2.1
  unfold pDan pDaN
  split
  · exact ⟨zn_div (b := 2) (by omega) (by omega), by omega⟩
  · exact ⟨rfl, this⟩
section
variable {D : pD} {L : LdT} {F : pF} {K : FkT}
theorem pc_weigh_road (hv : pV D) (hc : pLc D L) (K : FkT) (k22 : PlT → Int32 → Int32 → Int32 → Int32 → Int32 → Option PlT) (x3 : Int32) {a b v ps kk : Nat} (ha : a < pD_np D) (hb : b < pD_np D) (hab : a ≠ b) (hj : pD_far D a b ≠ 100000) (hps : ps + pLen D a b ≤ 270) : ∀ (d : Nat) {i fu : Nat} (P : PlT), i + d = pLen D a b → d + 1 ≤ fu →
    ∃ sv, f_X6_weighMilestones_L97 L K k22 fu P x3 (zn b) (zn a) (zn ps) (zn kk) (zn (pLen D a b)) (zn v) (zn i) = k22 (Pl_s_survives P sv) x3 (zn b) (zn (pNx D a b)) (zn (ps + pLen D a b)) (zn (kk + 1)) ∧ (∀ j, ps + i ≤ j → j < ps + pLen D a b → sv j = zn v) ∧ ∀ j, j < ps + i → sv j = Pl_survives P j := by
  have hlen := (hv.stp ha hb hab hj).2.2.2.2.2.1
  intro d
  induction d with
  | zero =>
    intro i fu P h1 h2
    cases fu with
    | zero => omega
    | succ fu =>
      refine ⟨Pl_survives P, ?_, fun j j1 j2 => by omega, fun j _ => rfl⟩
      show f_X6_weighMilestones_H97 P L K k22 (f_X6_weighMilestones_L97 L K k22 fu) x3 (zn b) (zn a) (zn ps) (zn kk) (zn (pLen D a b)) (zn v) (zn i) = _
      unfold f_X6_weighMilestones_H97
      rw [if_neg (by rw [zn_lt (by omega) (by omega)]; omega), pc_next hv hc ha hb hab hj, ob_eq, zn_add, show zn kk + 1 = zn (kk + 1) from zn_add kk 1]
      rfl
  | succ d ih =>
    intro i fu P h1 h2
    cases fu with
    | zero => omega
    | succ fu =>
      obtain ⟨sv, e, s1, s2⟩ := ih (i := i + 1) (fu := fu) (Pl_s_survives P (upd (Pl_survives P) (ps + i) (zn v))) (by omega) (by omega)
      refine ⟨sv, ?_, fun j j1 j2 => ?_, fun j j1 => ?_⟩
      · show f_X6_weighMilestones_H97 P L K k22 (f_X6_weighMilestones_L97 L K k22 fu) x3 (zn b) (zn a) (zn ps) (zn kk) (zn (pLen D a b)) (zn v) (zn i) = _
        unfold f_X6_weighMilestones_H97
        rw [if_pos (by rw [zn_lt (by omega) (by omega)]; omega), zn_add, zb_zn (by omega) (by omega), if_pos rfl, zl_eq, zn_nat (by omega), show zn i + 1 = zn (i + 1) from zn_add i 1]
        exact e
      · by_cases z : j = ps + i
        · rw [s2 j (by omega), z]; exact pu_eq _ _ _
        · exact s1 j (by omega) j2
      · rw [s2 j (by omega)]
        exact pu_ne _ _ (by omega)
theorem pc_weigh_ways (hv : pV D) (hc : pLc D L) (hK : pFc D F K) {m b : Nat} (hm : m < pD_nm D) (hb : b < pD_np D) (hg : pF_o F m 3 = b + 1) : ∀ (n : Nat) {a ps k fu : Nat} (P : PlT), a < pD_np D → pD_far D a b ≠ 100000 → pCl D b a < n → k + n ≤ 10 → n ≤ fu → ps + pD_far D a b ≤ 270 →
    ∃ sv, f_X6_weighMilestones_L22 L K fu P (zn m) (zn b) (zn a) (zn ps) (zn k) = some (Pl_s_survives P sv) ∧ (∀ g, g ≤ pD_far D a b → sv (ps + g) = zn (pLv D m b a g)) ∧ ∀ j, j < ps → sv j = Pl_survives P j := by
  have hnp := hv.np
  intro n
  induction n with
  | zero => intro a ps k fu P ha hj h1; omega
  | succ n ih =>
    intro a ps k fu P ha hj h1 h2 h3 h4
    cases fu with
    | zero => omega
    | succ fu =>
      show ∃ sv, f_X6_weighMilestones_H22 P L K (f_X6_weighMilestones_L22 L K fu) (zn m) (zn b) (zn a) (zn ps) (zn k) = _ ∧ _
      unfold f_X6_weighMilestones_H22 f_X6_weighMilestones_b145
      rw [if_pos (show zn k < (10 : Int32) by rw [zn_l10, zn_lt (by omega) (by omega)]; omega), ifn_eq (by omega) (by omega)]
      by_cases q : a = b
      · have h0 := hv.far0 hb
        rw [if_pos q, zb_zn (by omega) (by omega), if_pos rfl, zl_eq, zn_nat (by omega)]
        refine ⟨_, rfl, fun g hg2 => ?_, fun j hj2 => pu_ne _ _ (by omega)⟩
        rw [q, h0] at hg2
        have e : g = 0 := by omega
        subst e
        rw [Nat.add_zero]
        have : pLv D m b a 0 = 12 := by unfold pLv; rw [pWalk_stay (Or.inl q), if_pos rfl]
        rw [this]; exact pu_eq _ _ _
      · obtain ⟨-, -, -, s4, s5, s6, s7, s8⟩ := hv.stp ha hb q hj
        have s1 := (hv.stp ha hb q hj).1.2
        have hrn := (hv.stp ha hb q hj).2.1.2
        have hnr := hv.nr
        obtain ⟨d1, d2⟩ := pDan_N (m := m) hv ha hb q hj
        have h12 : (12 : Int32) - zn (pDaN D m a b) = zn (12 - pDaN D m a b) := zn_sub (a := 12) d2
        rw [if_neg q, pc_toward hv hc ha hb q hj, ob_eq, if_neg (show ¬ zn (pRd D a b) = (-1 : Int32) from fun h => (zm_eq (by omega)).mp h), ob_eq, pc_length hv hc ha hb q hj, ob_eq, pc_dangerFor hv hc hK hm hb hg ha q hj, ob_eq, show (270 : Int32) - zn ps = zn (270 - ps) from zn_sub (a := 270) (by omega), zr_min_zn (by omega) (by omega), Nat.min_eq_right (show pLen D a b ≤ 270 - ps by omega), zb_zn (by omega) (by omega), if_pos rfl, zl_eq, zn_nat (by omega), d1, h12]
        obtain ⟨sv, e1, e2, e3⟩ := pc_weigh_road hv hc K (f_X6_weighMilestones_L22 L K fu) (zn m) (v := 12 - pDaN D m a b) (ps := ps) (kk := k) ha hb q hj (by omega) (pLen D a b - 1) (i := 1) (fu := zFU) (Pl_s_survives P (upd (Pl_survives P) ps 12)) (by omega) (zFU_ge (by omega))
        rw [show (1 : Int32) = zn 1 from rfl, e1]
        obtain ⟨sv2, f1, f2, f3⟩ := ih (a := pNx D a b) (ps := ps + pLen D a b) (k := k + 1) (fu := fu) (Pl_s_survives (Pl_s_survives P (upd (Pl_survives P) ps 12)) sv) s1 s7 (by omega) (by omega) (by omega) (by omega)
        refine ⟨sv2, f1, fun g hg2 => ?_, fun j hj2 => ?_⟩
        · by_cases l : pLen D a b ≤ g
          · have := f2 (g - pLen D a b) (by omega)
            rw [show ps + pLen D a b + (g - pLen D a b) = ps + g by omega] at this
            rw [this]
            unfold pLv
            rw [pWalk_on hv ha hb q hj l]
          · rw [f3 (ps + g) (by omega)]
            show sv (ps + g) = _
            unfold pLv
            rw [pWalk_stay (Or.inr (by omega))]
            by_cases z : g = 0
            · rw [z, Nat.add_zero, e3 ps (by omega), if_pos rfl]; exact pu_eq _ _ _
            · rw [e2 (ps + g) (by omega) (by omega), if_neg z]
        · rw [f3 j (by omega)]
          show sv j = _
          rw [e3 j (by omega)]
          exact pu_ne _ _ (by omega)
theorem pc_weighMilestones (hv : pV D) (hc : pLc D L) (hK : pFc D F K) {m b : Nat} (hm : m < pD_nm D) (hb : b < pD_np D) (hg : pF_o F m 3 = b + 1) (ha : pF_o F m 4 < pD_np D) (hj : pD_far D (pF_o F m 4) b ≠ 100000) (P : PlT) :
    ∃ sv, f_X6_weighMilestones P L K (zn m) = some (Pl_s_survives P sv) ∧ ∀ g, g ≤ pD_far D (pF_o F m 4) b → sv g = zn (pLv D m b (pF_o F m 4) g) := by
  have hnp := hv.np
  have hcl := pCl_le hv (b := b) ha
  have hfar := hv.far ha hb
  unfold f_X6_weighMilestones
  rw [pc_of3 hv hK hm, ob_eq, pc_of4 hv hK hm, ob_eq, hg]
  obtain ⟨sv, e1, e2, -⟩ := pc_weigh_ways hv hc hK hm hb hg 10 (a := pF_o F m 4) (ps := 0) (k := 0) (fu := zFU) P ha hj (by omega) (by omega) (zFU_ge (by omega)) (by omega)
  refine ⟨sv, e1, fun g hg2 => ?_⟩
  have := e2 g hg2
  rwa [Nat.zero_add] at this
end
theorem zr_maxl {a b : Nat} (ha : a < 9223372036854775808) (hb : b < 9223372036854775808) : zr_mmaxlF (zq a) (zq b) = zq (max a b) := by
  unfold zr_mmaxlF
  simp only [zq_lt hb ha]
  by_cases q : b < a
  · rw [if_pos q, Nat.max_eq_left (by omega)]
  · rw [if_neg q, Nat.max_eq_right (by omega)]
section
variable {lv : Nat → Nat} {pace all : Nat}
theorem pPow12 {k : Nat} (h : k ≤ 13) : 12 ^ k ≤ 106993205379072 := by
  have := Nat.pow_le_pow_right (show 0 < 12 by omega) h
  exact Nat.le_trans this (Nat.le_of_ble_eq_true rfl)
/-- survival is told up to the goal -/
def pSv (lv : Nat → Nat) (all : Nat) (P : PlT) : Prop := ∀ g, g ≤ all → Pl_survives P g = zn (lv g)
theorem pc_worth (hl : ∀ g, lv g ≤ 12) (ha : all ≤ 270) {P : PlT} (hs : pSv lv all P) {k g n : Nat} (hk1 : 1 ≤ k) (hk : k ≤ 12) (hg : g + n ≤ all) (hc : Pl_cases P ((k - 1) * 271 + (g + n)) = zq (pWv lv pace all (k - 1) (g + n))) : f_X6_worth P (zn k) (zn g) (zn n) = some (zq (lv (g + n) * pWv lv pace all (k - 1) (g + n))) := by
  have h12 := hl (g + n)
  unfold f_X6_worth f_X6_index
  rw [zn_add, zb_zn (by omega) (by omega), if_pos rfl, ob_eq, zn_l1, zn_sub hk1, zn_l271, zn_mul, zn_add, zb_zn (by omega) (by omega), if_pos rfl, zn_nat (by omega), zn_nat (by omega), hs _ hg, hc, zn_toL (by omega), zq_mul]
theorem pc_weighDay_in (hl : ∀ g, lv g ≤ 12) (ha : all ≤ 270) (hp : pace ≤ 20) (k3 : PlT → Int32 → Int32 → Int32 → Int32 → Int32 → Option PlT) (x3 : Int32) {P : PlT} (hs : pSv lv all P) {k g : Nat} (hk : k ≤ 12) (hg : g < all) (hc : 1 ≤ k → ∀ n, 1 ≤ n → n ≤ pace → g + n ≤ all → Pl_cases P ((k - 1) * 271 + (g + n)) = zq (pWv lv pace all (k - 1) (g + n))) : ∀ (d : Nat) {c fu : Nat}, c + d = min pace (all - g) → d + 1 ≤ fu → (k = 0 → c = 0) →
    f_X6_weighDay_L15 k3 fu P (zn k) x3 (zn all) (zn pace) (zn g) (zq (pMr (fun n => lv (g + n) * pWv lv pace all (k - 1) (g + n)) 1 c)) (zn (1 + c)) = k3 (Pl_s_cases P (vp_updL (Pl_cases P) (k * 271 + g) (zq (pWv lv pace all k g)))) (zn k) x3 (zn all) (zn pace) (zn (g + 1)) := by
  have fin : ∀ v : Nat, v = pWv lv pace all k g → f_X6_weighDay_b58 P k3 (zn k) x3 (zn all) (zn pace) (zn g) (zq v) = k3 (Pl_s_cases P (vp_updL (Pl_cases P) (k * 271 + g) (zq (pWv lv pace all k g)))) (zn k) x3 (zn all) (zn pace) (zn (g + 1)) := by
    intro v e
    unfold f_X6_weighDay_b58 f_X6_index
    rw [ob_eq, zn_l271, zn_mul, zn_add, zb_zn (by omega) (by omega), if_pos rfl, zl_eq, zn_nat (by omega), e, show zn g + 1 = zn (g + 1) from zn_add g 1]
  intro d
  induction d with
  | zero =>
    intro c fu h1 h2 h3
    cases fu with
    | zero => omega
    | succ fu =>
      show f_X6_weighDay_H15 P k3 (f_X6_weighDay_L15 k3 fu) (zn k) x3 (zn all) (zn pace) (zn g) _ (zn (1 + c)) = _
      unfold f_X6_weighDay_H15
      rw [zn_add, ifn_lt (by omega) (by omega), ifn_lt (by omega) (by omega)]
      have e : pMr (fun n => lv (g + n) * pWv lv pace all (k - 1) (g + n)) 1 c = pWv lv pace all k g := by
        cases k with
        | zero => rw [h3 rfl, pWv_zero (by omega)]; rfl
        | succ k => rw [pWv_succ (by omega), show c = min pace (all - g) by omega]; rfl
      by_cases q : pace < 1 + c
      · rw [if_pos q]; exact fin _ e
      · rw [if_neg q, if_pos (by omega)]; exact fin _ e
  | succ d ih =>
    intro c fu h1 h2 h3
    cases fu with
    | zero => omega
    | succ fu =>
      show f_X6_weighDay_H15 P k3 (f_X6_weighDay_L15 k3 fu) (zn k) x3 (zn all) (zn pace) (zn g) _ (zn (1 + c)) = _
      unfold f_X6_weighDay_H15
      rw [zn_add, ifn_lt (by omega) (by omega), ifn_lt (by omega) (by omega), if_neg (by omega), if_neg (by omega)]
      by_cases z : k = 0
      · have ec := h3 z
        subst z
        rw [if_neg (by decide), ec]
        exact fin _ (pWv_zero (by omega)).symm
      · have b1 := pWv_bd (pace := pace) (all := all) hl (k - 1) (g + (1 + c))
        have b2 : pMr (fun n => lv (g + n) * pWv lv pace all (k - 1) (g + n)) 1 c ≤ 12 * 106993205379072 := pMr_bd (fun j _ _ => Nat.mul_le_mul (hl _) (Nat.le_trans (pWv_bd hl (k - 1) (g + j)) (pPow12 (by omega))))
        have b3 := Nat.mul_le_mul (hl (g + (1 + c))) (Nat.le_trans b1 (pPow12 (k := k - 1) (by omega)))
        rw [if_pos (by rw [zn_pos (by omega)]; omega), pc_worth hl ha hs (by omega) hk (by omega) (hc (by omega) (1 + c) (by omega) (by omega) (by omega)), ob_eq, zr_maxl (by omega) (by omega), show zn (1 + c) + 1 = zn (1 + c + 1) from zn_add (1 + c) 1]
        exact ih (c := c + 1) (fu := fu) (by omega) (by omega) (fun w => absurd w z)
theorem pc_weighDay (hl : ∀ g, lv g ≤ 12) (ha : all ≤ 270) (hp : pace ≤ 20) {k t : Nat} (hk : k ≤ 12) (ht : t < all) : ∀ (d : Nat) {g fu : Nat} (P : PlT), g + d = t + 1 → d + 1 ≤ fu → pSv lv all P → (1 ≤ k → ∀ h n, g ≤ h → h ≤ t → 1 ≤ n → n ≤ pace → h + n ≤ all → Pl_cases P ((k - 1) * 271 + (h + n)) = zq (pWv lv pace all (k - 1) (h + n))) →
    ∃ c, f_X6_weighDay_L3 fu P (zn k) (zn t) (zn all) (zn pace) (zn g) = some (Pl_s_cases P c) ∧ (∀ h, g ≤ h → h ≤ t → c (k * 271 + h) = zq (pWv lv pace all k h)) ∧ ∀ j, j < k * 271 + g → c j = Pl_cases P j := by
  intro d
  induction d with
  | zero =>
    intro g fu P h1 h2 hs hc
    cases fu with
    | zero => omega
    | succ fu =>
      refine ⟨Pl_cases P, ?_, fun h q1 q2 => by omega, fun _ _ => rfl⟩
      show f_X6_weighDay_H3 P (f_X6_weighDay_L3 fu) (zn k) (zn t) (zn all) (zn pace) (zn g) = _
      unfold f_X6_weighDay_H3
      rw [if_pos (by rw [zn_lt (by omega) (by omega)]; omega)]; rfl
  | succ d ih =>
    intro g fu P h1 h2 hs hc
    cases fu with
    | zero => omega
    | succ fu =>
      have hin := pc_weighDay_in hl ha hp (f_X6_weighDay_L3 fu) (zn t) hs hk (g := g) (by omega) (fun k1 n n1 n2 n3 => hc k1 g n (Nat.le_refl _) (by omega) n1 n2 n3) (min pace (all - g)) (c := 0) (fu := zFU) (by omega) (zFU_ge (by omega)) (fun _ => rfl)
      obtain ⟨c, e1, e2, e3⟩ := ih (g := g + 1) (fu := fu) (Pl_s_cases P (vp_updL (Pl_cases P) (k * 271 + g) (zq (pWv lv pace all k g)))) (by omega) (by omega) hs (fun k1 h n q1 q2 q3 q4 q5 => by
        show vp_updL (Pl_cases P) (k * 271 + g) _ ((k - 1) * 271 + (h + n)) = _
        rw [vu_ne _ _ (by omega)]
        exact hc k1 h n (by omega) q2 q3 q4 q5)
      refine ⟨c, ?_, fun h q1 q2 => ?_, fun j hj => ?_⟩
      · show f_X6_weighDay_H3 P (f_X6_weighDay_L3 fu) (zn k) (zn t) (zn all) (zn pace) (zn g) = _
        unfold f_X6_weighDay_H3
        rw [if_neg (by rw [zn_lt (by omega) (by omega)]; omega)]
        exact hin.trans e1
      · by_cases z : h = g
        · rw [z, e3 _ (by omega)]; exact vu_eq _ _ _
        · exact e2 h (by omega) q2
      · rw [e3 j (by omega)]; exact vu_ne _ _ (by omega)
end
