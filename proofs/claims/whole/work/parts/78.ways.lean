section
variable {D : pD} {L : LdT} {M : MoT} {F : pF} {K : FkT}
def pWay (X : XxT) (M : MoT) : Prop := ∃ n, n ≤ 10 ∧ Xx_latestWayLength X = zn n ∧ Mo_goingMany M = zn n ∧ ∀ i, i < n → Xx_latestWay X i = Mo_going M i
theorem q_way_loop (hv : pV D) (hc : pLc D L) (M : MoT) (hm : pLm D (Mo_now M)) (X : XxT) {b : Nat} (hb : b < pD_np D) : ∀ (n : Nat) {a k f1 f2 : Nat} (W G : Nat → Int32), a < pD_np D → pD_far D a b ≠ 100000 → pCl D b a < n → k + n ≤ 11 → 1 ≤ k → n ≤ f1 → n ≤ f2 → (∀ i, i < k → W i = G i) → G (k - 1) = zn a →
    ∃ k' W' G', f_X11_way_L48 L f1 (Xx_s_latestWay X W) (zn b) (zn a) (zn k) = some (zn k', Xx_s_latestWayLength (Xx_s_latestWay X W') (zn k')) ∧ f_X12_way_L46 f2 (Mo_s_going (Mo_s_goingMany M (zn k)) G) (zn b) = some (zn k', Mo_s_going (Mo_s_goingMany M (zn k')) G') ∧ k' ≤ 10 ∧ ∀ i, i < k' → W' i = G' i
  | 0, a, k, f1, f2, W, G, ha, hj, h1, h2, h3, h4, h5, h6, h7 => by omega
  | n + 1, a, k, 0, f2, W, G, ha, hj, h1, h2, h3, h4, h5, h6, h7 => by omega
  | n + 1, a, k, f1 + 1, 0, W, G, ha, hj, h1, h2, h3, h4, h5, h6, h7 => by omega
  | n + 1, a, k, f1 + 1, f2 + 1, W, G, ha, hj, h1, h2, h3, h4, h5, h6, h7 => by
    have hnp := hv.np
    have hX : pLm D (Mo_now (Mo_s_going (Mo_s_goingMany M (zn k)) G)) := hm
    show ∃ k' W' G', f_X11_way_H48 (Xx_s_latestWay X W) L (f_X11_way_L48 L f1) (zn b) (zn a) (zn k) = _ ∧ f_X12_way_H46 (Mo_s_going (Mo_s_goingMany M (zn k)) G) (f_X12_way_L46 f2) (zn b) = _ ∧ _
    unfold f_X11_way_H48 f_X12_way_H46 f_X11_way_b89
    rw [show Mo_goingMany (Mo_s_going (Mo_s_goingMany M (zn k)) G) = zn k from rfl, show Mo_going (Mo_s_going (Mo_s_goingMany M (zn k)) G) = G from rfl, show Xx_latestWay (Xx_s_latestWay X W) = W from rfl]
    simp (disch := omega) only [zn_dec', zb_zn, zn_nat, if_true, h7, zn_eq, zl_eq]
    by_cases q : a = b
    · simp only [if_pos q, ite_self]
      exact ⟨k, W, G, rfl, rfl, by omega, h6⟩
    · have hcl := hv.stp ha hb q hj
      have c1 : zn k < (10 : Int32) := by rw [zn_l10, zn_lt (by omega) (by omega)]; omega
      have c2 : ¬ zn a = (-1 : Int32) := by show ¬ zn a = zm; rw [zm_eq (by omega)]; exact id
      simp only [if_neg q, if_pos c1, if_neg c2]
      rw [pc_next hv hc ha hb q hj, ob_eq, pm_next hv hX ha hb q hj, ob_eq]
      simp (disch := omega) only [zb_zn, zn_nat, if_true, zl_eq]
      rw [show zn k + 1 = zn (k + 1) from zn_add k 1]
      obtain ⟨k', W', G', i1, i2, i3, i4⟩ := q_way_loop hv hc M hm X hb n (a := pNx D a b) (k := k + 1) (f1 := f1) (f2 := f2) (upd W k (zn (pNx D a b))) (upd G k (zn (pNx D a b))) hcl.1.2 hcl.2.2.2.2.2.2.1 (by omega) (by omega) (by omega) (by omega) (by omega) (fun i hi => by
        unfold upd
        by_cases z : i = k
        · rw [if_pos z, if_pos z]
        · rw [if_neg z, if_neg z]; exact h6 i (by omega)) (by unfold upd; rw [if_pos (by omega)])
      refine ⟨k', W', G', i1, ?_, i3, i4⟩
      rw [← i2]
      show f_X12_way_L46 f2 (Mo_s_goingMany (Mo_s_going (Mo_s_going (Mo_s_goingMany M (zn k)) G) (upd G k (zn (pNx D a b)))) (zn k + 1)) (zn b) = _
      rw [show zn k + 1 = zn (k + 1) from zn_add k 1]; rfl
theorem q_way (hv : pV D) (hc : pLc D L) (hm : pLm D (Mo_now M)) (X : XxT) (hw : pWay X M) (x1 x2 : Int32) : ∃ r X' G' n', f_X11_way X L x1 x2 = some (r, X') ∧ f_X12_way M x1 x2 = some (r, Mo_s_going (Mo_s_goingMany (Mo_s_thrown M 0) n') G') ∧ pWay X' (Mo_s_going (Mo_s_goingMany (Mo_s_thrown M 0) n') G') := by
  have hm' : pLm D (Mo_now (Mo_s_thrown M 0)) := hm
  have hnp := hv.np
  have no : ∃ r X' G' n', some ((-1 : Int32), X) = some (r, X') ∧ some ((-1 : Int32), Mo_s_thrown M 0) = some (r, Mo_s_going (Mo_s_goingMany (Mo_s_thrown M 0) n') G') ∧ pWay X' (Mo_s_going (Mo_s_goingMany (Mo_s_thrown M 0) n') G') := ⟨_, _, Mo_going M, Mo_goingMany M, rfl, rfl, hw⟩
  unfold f_X11_way f_X12_way
  rw [zl_eq (Mo_s_thrown M 0)]
  rcases zn_lim x1 (pD_np D) (by omega) with h1 | ⟨a, rfl, h1⟩
  · rw [pc_hasPlace0 hc h1, ob_eq, pm_isPlace0 hv hm' h1, ob_eq, if_pos rfl, if_pos rfl]; exact no
  rw [pc_hasPlace1 hv hc h1, ob_eq, pm_isPlace1 hv hm' h1, ob_eq, if_neg n10, if_neg n10]
  rcases zn_lim x2 (pD_np D) (by omega) with h2 | ⟨b, rfl, h2⟩
  · rw [pc_hasPlace0 hc h2, ob_eq, pm_isPlace0 hv hm' h2, ob_eq, if_pos rfl, if_pos rfl]; exact no
  rw [pc_hasPlace1 hv hc h2, ob_eq, pm_isPlace1 hv hm' h2, ob_eq, if_neg n10, if_neg n10, pc_joined hv hc h1 h2, ob_eq, pm_farOf hv hm' h1 h2, ob_eq]
  have hf := hv.far h1 h2
  by_cases q : pD_far D a b = 100000
  · simp only [if_pos q, if_true]
    rw [if_neg (show ¬ zn (pD_far D a b) < (100000 : Int32) by rw [zn_l100000, zn_lt (by omega) (by omega)]; omega)]
    exact no
  · simp only [if_neg q, if_neg n10]
    rw [if_pos (show zn (pD_far D a b) < (100000 : Int32) by rw [zn_l100000, zn_lt (by omega) (by omega)]; omega)]
    simp only [zl_eq]
    have hcl := pCl_le hv (b := b) h1
    obtain ⟨k', W', G', i1, i2, i3, i4⟩ := q_way_loop hv hc (Mo_s_thrown M 0) hm X h2 10 (a := a) (k := 1) (f1 := zFU) (f2 := zFU) (upd (Xx_latestWay X) 0 (zn a)) (upd (Mo_going M) 0 (zn a)) h1 q (by omega) (by omega) (by omega) (zFU_ge (by omega)) (zFU_ge (by omega)) (fun i hi => by
      unfold upd
      rw [if_pos (by omega), if_pos (by omega)]) (by unfold upd; rw [if_pos rfl])
    exact ⟨_, _, G', _, i1, i2, k', i3, rfl, rfl, i4⟩
theorem q_wayAt (X : XxT) (hw : pWay X M) (x1 : Int32) : ∃ r, f_X11_wayAt X x1 = some r ∧ f_X12_wayAt M x1 = some (r, Mo_s_thrown M 0) := by
  obtain ⟨n, hn, e1, e2, e3⟩ := hw
  unfold f_X11_wayAt f_X12_wayAt f_X11_wayAt_b12
  rw [zl_eq, show Mo_goingMany (Mo_s_thrown M 0) = zn n from e2, e1]
  rcases zn_lim x1 n (by omega) with h | ⟨k, rfl, h⟩
  · rw [pm_bound (by omega), if_pos h, ob_eq, if_pos rfl]
    refine ⟨-1, ?_, rfl⟩
    rcases h with h | h
    · rw [if_pos h]
    · rw [if_neg h, ite_self]
  · rw [pm_bound1 (by omega) h, ob_eq, if_neg n10, if_neg (zn_ge0 (by omega)), if_pos (by rw [zn_lt (by omega) (by omega)]; exact h)]
    simp (disch := omega) only [zb_zn, zn_nat, if_true]
    exact ⟨_, rfl, by rw [e3 k h]; rfl⟩
theorem q_worst_loop (hv : pV D) (hc : pLc D L) (hm : pLm D (Mo_now M)) (X : XxT) {b : Nat} (hb : b < pD_np D) : ∀ (n : Nat) {a k f1 f2 : Nat} (fo : Nat), a < pD_np D → pD_far D a b ≠ 100000 → pCl D b a < n → k + n ≤ 11 → n ≤ f1 → n ≤ f2 → (fo = 0 ∨ fo - 1 < pD_nr D) →
    ∃ r, f_X11_worst_L49 X L f1 (zn b) (zo fo) (zn a) (zn k) = some r ∧ f_X12_worst_L44 f2 M (zn b) (zo fo) (zn a) = some (r, M)
  | 0, a, k, f1, f2, fo, ha, hj, h1, h2, h3, h4, h5 => by omega
  | n + 1, a, k, 0, f2, fo, ha, hj, h1, h2, h3, h4, h5 => by omega
  | n + 1, a, k, f1 + 1, 0, fo, ha, hj, h1, h2, h3, h4, h5 => by omega
  | n + 1, a, k, f1 + 1, f2 + 1, fo, ha, hj, h1, h2, h3, h4, h5 => by
    have hnp := hv.np
    have hnr := hv.nr
    show ∃ r, f_X11_worst_H49 X L (f_X11_worst_L49 X L f1) (zn b) (zo fo) (zn a) (zn k) = some r ∧ f_X12_worst_H44 M (f_X12_worst_L44 f2) (zn b) (zo fo) (zn a) = some (r, M)
    unfold f_X11_worst_H49 f_X12_worst_H44 f_X11_worst_b107 f_X11_worst_b110 f_X12_worst_b94 f_X12_worst_b97
    simp (disch := omega) only [zn_eq]
    by_cases q : a = b
    · simp only [if_pos q, ite_self]
      exact ⟨_, rfl, rfl⟩
    · obtain ⟨⟨-, s1⟩, ⟨-, sr⟩, -, -, -, -, s7, s8⟩ := hv.stp ha hb q hj
      have hro := hv.ro sr
      have c1 : zn k < (10 : Int32) := by rw [zn_l10, zn_lt (by omega) (by omega)]; omega
      have c2 : ¬ zn a = (-1 : Int32) := by show ¬ zn a = zm; rw [zm_eq (by omega)]; exact id
      simp only [if_neg q, if_pos c1, if_neg c2]
      rw [pc_toward hv hc ha hb q hj, ob_eq, pm_next hv hm ha hb q hj, ob_eq, pm_road hv hm ha hb q hj, ob_eq, ob_eq, pc_next hv hc ha hb q hj, ob_eq, show zn k + 1 = zn (k + 1) from zn_add k 1]
      have go := fun fo h => q_worst_loop hv hc hm X hb n (a := pNx D a b) (k := k + 1) (f1 := f1) (f2 := f2) fo s1 s7 (by omega) (by omega) (by omega) (by omega) h
      cases fo with
      | zero =>
        rw [if_pos (show zo 0 = (-1 : Int32) from rfl), if_pos (show zo 0 = (-1 : Int32) from rfl)]
        exact go (pRd D a b + 1) (Or.inr sr)
      | succ f =>
        have hf : f < pD_nr D := by omega
        have hrf := hv.ro hf
        have e1 : ¬ zo (f + 1) = (-1 : Int32) := by show ¬ zn f = zm; rw [zm_eq (by omega)]; exact id
        rw [if_neg e1, if_neg e1, show zo (f + 1) = zn f from rfl, pc_ofRoadL hv hc sr (k := 3) (x := (3 : Int32)) (by omega) rfl, ob_eq, pc_ofRoadL hv hc hf (k := 3) (x := (3 : Int32)) (by omega) rfl, ob_eq]
        simp (disch := omega) only [zn_l160, zn_add, zb_zn, zn_nat, if_true, (hm.2.2.1 _ sr).2.2.2.1, (hm.2.2.1 _ hf).2.2.2.1, zn_lt]
        by_cases q3 : pD_ro D f 3 < pD_ro D (pRd D a b) 3
        · rw [if_pos q3, if_pos q3]
          exact go (pRd D a b + 1) (Or.inr sr)
        · rw [if_neg q3, if_neg q3]
          exact go (f + 1) (Or.inr hf)
theorem q_worst (hv : pV D) (hc : pLc D L) (hm : pLm D (Mo_now M)) (X : XxT) (x1 x2 : Int32) : ∃ r, f_X11_worst X L x1 x2 = some r ∧ f_X12_worst M x1 x2 = some (r, Mo_s_thrown M 0) := by
  have hm' : pLm D (Mo_now (Mo_s_thrown M 0)) := hm
  have hnp := hv.np
  have no : ∃ r, some (-1 : Int32) = some r ∧ some ((-1 : Int32), Mo_s_thrown M 0) = some (r, Mo_s_thrown M 0) := ⟨_, rfl, rfl⟩
  unfold f_X11_worst f_X12_worst
  rw [zl_eq]
  rcases zn_lim x1 (pD_np D) (by omega) with h1 | ⟨a, rfl, h1⟩
  · rw [pc_hasPlace0 hc h1, ob_eq, pm_isPlace0 hv hm' h1, ob_eq, if_pos rfl, if_pos rfl]; exact no
  rw [pc_hasPlace1 hv hc h1, ob_eq, pm_isPlace1 hv hm' h1, ob_eq, if_neg n10, if_neg n10]
  rcases zn_lim x2 (pD_np D) (by omega) with h2 | ⟨b, rfl, h2⟩
  · rw [pc_hasPlace0 hc h2, ob_eq, pm_isPlace0 hv hm' h2, ob_eq, if_pos rfl, if_pos rfl]; exact no
  rw [pc_hasPlace1 hv hc h2, ob_eq, pm_isPlace1 hv hm' h2, ob_eq, if_neg n10, if_neg n10]
  by_cases hab : zn a = zn b
  · rw [if_pos hab, if_pos hab]; exact no
  rw [if_neg hab, if_neg hab, pc_joined hv hc h1 h2, ob_eq, pm_farOf hv hm' h1 h2, ob_eq]
  have hf := hv.far h1 h2
  by_cases q : pD_far D a b = 100000
  · simp only [if_pos q, if_true]
    rw [if_neg (show ¬ zn (pD_far D a b) < (100000 : Int32) by rw [zn_l100000, zn_lt (by omega) (by omega)]; omega)]
    exact no
  · simp only [if_neg q, if_neg n10]
    rw [if_pos (show zn (pD_far D a b) < (100000 : Int32) by rw [zn_l100000, zn_lt (by omega) (by omega)]; omega)]
    have hcl := pCl_le hv (b := b) h1
    exact q_worst_loop hv hc hm' X h2 10 (a := a) (k := 0) (f1 := zFU) (f2 := zFU) 0 h1 q (by omega) (by omega) (zFU_ge (by omega)) (zFU_ge (by omega)) (Or.inl rfl)
theorem q_there (hv : pV D) (hc : pLc D L) (hm : pLm D (Mo_now M)) (hK : pFc D F K) (hF : pFm D F (Mo_now M)) (hV : pFv D F) (X : XxT) (x1 : Int32) : ∃ r, f_X11_there X L K x1 = some r ∧ f_X12_there M x1 = some (r, Mo_s_thrown M 0) := by
  have hm' : pLm D (Mo_now (Mo_s_thrown M 0)) := hm
  have hF' : pFm D F (Mo_now (Mo_s_thrown M 0)) := hF
  have hnm := hv.nm
  have no : ∃ r, some (-1 : Int32) = some r ∧ some ((-1 : Int32), Mo_s_thrown M 0) = some (r, Mo_s_thrown M 0) := ⟨_, rfl, rfl⟩
  unfold f_X11_there f_X12_there f_X11_there_b111 f_X12_there_b118
  rw [zl_eq]
  rcases zn_lim x1 (pD_nm D) (by omega) with h1 | ⟨m, rfl, h1⟩
  · rw [pc_hasMan0 hc h1, ob_eq, pm_isMan0 hv hm' h1, ob_eq, if_pos rfl, if_pos rfl]; exact no
  have hMv := hV.2 m h1
  have hM := hMv.1
  rw [pc_hasMan1 hv hc h1, ob_eq, pm_isMan1 hv hm' h1, ob_eq, if_neg n10, if_neg n10, show f_X1_of K (zn m) 0 = some (zn (pF_o F m 0)) from pc_of0 hv hK h1, ob_eq]
  by_cases q1 : pF_o F m 0 = 1
  · have hw := hMv.2.2.2.2.2.1 q1
    have h6 := ((hMv.mt q1).pos hv).2.2.2.2.2
    have hd := hV.1
    have c1 : zn (pF_o F m 0) = 1 := by rw [q1]; rfl
    rw [if_pos c1, pc_of7 hv hK h1, ob_eq, pc_allMiles hv hc hK h1 hMv, ob_eq, pc_of5 hv hK h1, ob_eq, pc_daysYet hv hK h1 hMv.1.1, if_pos q1]
    unfold f_X1_today
    rw [hK.1]
    simp only [ob_eq]
    by_cases q8 : pF_o F m 8 = 0
    · rw [if_pos (show zn (pF_o F m 8) < (1 : Int32) by rw [zn_l1, zn_lt (by omega) (by omega)]; omega)]
      simp (disch := omega) only [zn_l444, zn_l492, zn_add, zb_zn, zn_nat, if_true, hF'.g0 h1, hF'.g8 h1, if_pos c1, zn_eq0]
      rw [if_pos q8]; exact no
    · rw [if_neg (show ¬ zn (pF_o F m 8) < (1 : Int32) by rw [zn_l1, zn_lt (by omega) (by omega)]; omega)]
      have e0 : ¬ zn (pF_o F m 8) = (0 : Int32) := by rw [zn_eq0 (by omega)]; exact q8
      rw [show Mo_now (Mo_s_thrown M 0) (443 : Int32).toNatClampNeg = zn (pF_day F) from hF.1]
      simp (disch := omega) only [zn_l444, zn_l492, zn_l480, zn_l474, zn_l486, zn_add, zb_zn, zn_nat, if_true, hF'.g0 h1, hF'.g8 h1, hF'.g6 h1, hF'.g5 h1, hF'.g7 h1, if_pos c1, if_neg e0, zn_nz, zn_sub, zn_dec', zn_div, zl_eq]
      have hdv : (pF_o F m 6 - pF_o F m 5 + pF_o F m 8 - 1) / pF_o F m 8 ≤ 290 := Nat.le_trans (Nat.div_le_self _ _) (by omega)
      have hdp : 1 ≤ (pF_o F m 6 - pF_o F m 5 + pF_o F m 8 - 1) / pF_o F m 8 := Nat.div_pos (by omega) (by omega)
      generalize (pF_o F m 6 - pF_o F m 5 + pF_o F m 8 - 1) / pF_o F m 8 = e at hdv hdp ⊢
      simp (disch := omega) only [zn_add, zn_dec', zn_l400, zn_lt]
      by_cases z : pF_o F m 7 < e
      · rw [if_pos z, if_pos z]; exact no
      · rw [if_neg z, if_neg z]
        by_cases z2 : 400 < pF_day F + e
        · rw [if_pos z2, if_neg (by omega)]; exact no
        · rw [if_neg z2, if_pos (by omega)]; exact ⟨_, rfl, rfl⟩
  · have c1 : ¬ zn (pF_o F m 0) = 1 := by rw [zn_eq1 (by omega)]; exact q1
    rw [if_neg c1]
    simp (disch := omega) only [zn_l444, zn_add, zb_zn, zn_nat, if_true, hF'.g0 h1, if_neg c1]
    exact no
end
