theorem pPow {a k : Nat} (ha : a ≤ 12) (hk : k ≤ 8) : a ^ k ≤ 429981696 := by
  have h1 : a ^ k ≤ 12 ^ k := Nat.pow_le_pow_left ha k
  have h2 : 12 ^ k ≤ 12 ^ 8 := Nat.pow_le_pow_right (by omega) hk
  have h3 : 12 ^ 8 = 429981696 := by decide
  omega
theorem pPow0 (k : Nat) : 0 < 12 ^ k := Nat.pow_pos (by omega)
section
variable {D : pD} {L : LdT} {M : MoT} {F : pF} {K : FkT}
theorem q_ship_loop (hv : pV D) (hc : pLc D L) (X : XxT) (M : MoT) (hm : pLm D (Mo_now M)) {p n t : Nat} (hp : p < pD_np D) (hn : n ≤ 8) (ht : t ≤ 1) : ∀ (d : Nat) {k f1 f2 : Nat}, k + d = n → d + 1 ≤ f1 → d + 1 ≤ f2 →
    ∃ r, f_X11_ship_L47 X L f1 (zn p) (zn n) (zn t) (zq (12 ^ k)) (zq ((12 - pD_pl D p 1) ^ k)) (zn k) = some (some r) ∧ f_X12_ship_L46 f2 M (zn p) (zn n) (zn t) (zn ((12 - pD_pl D p 1) ^ k)) (zn (12 ^ k)) (zn k) = some (r, M)
  | d, k, 0, f2, h1, h2, h3 => by omega
  | d, k, f1 + 1, 0, h1, h2, h3 => by omega
  | 0, k, f1 + 1, f2 + 1, h1, h2, h3 => by
    have hk : k ≤ 8 := by omega
    have b1 := pPow (a := 12) (k := k) (by omega) hk
    have b2 := pPow (a := 12 - pD_pl D p 1) (k := k) (by omega) hk
    have b3 : (12 - pD_pl D p 1) ^ k ≤ 12 ^ k := Nat.pow_le_pow_left (by omega) k
    have b4 := pPow0 k
    show ∃ r, f_X11_ship_H47 X L (f_X11_ship_L47 X L f1) (zn p) (zn n) (zn t) (zq (12 ^ k)) (zq ((12 - pD_pl D p 1) ^ k)) (zn k) = some (some r) ∧ f_X12_ship_H46 M (f_X12_ship_L46 f2) (zn p) (zn n) (zn t) (zn ((12 - pD_pl D p 1) ^ k)) (zn (12 ^ k)) (zn k) = some (r, M)
    unfold f_X11_ship_H47 f_X12_ship_H46 f_X12_ship_b96
    have e : ¬ zn k < zn n := by rw [zn_lt (by omega) (by omega)]; omega
    rw [if_neg e, if_neg e, zq_sub b3, zn_sub b3]
    generalize 12 ^ k = A at b1 b3 b4 ⊢
    generalize (12 - pD_pl D p 1) ^ k = B at b2 b3 ⊢
    have g0 : 0 < Nat.gcd (A - B) A := Nat.gcd_pos_of_pos_right _ b4
    have g1 : Nat.gcd (A - B) A ≤ A := Nat.le_of_dvd b4 (Nat.gcd_dvd_right _ _)
    rw [pc_div (by omega) (by omega) b4, ob_eq, pm_common (by omega) (by omega), Nat.gcd_comm A (A - B)]
    have d1 : (A - B) / Nat.gcd (A - B) A ≤ A - B := Nat.div_le_self _ _
    have d2 : A / Nat.gcd (A - B) A ≤ A := Nat.div_le_self _ _
    simp (disch := omega) only [ob_eq, zq_nz, zn_nz, if_true, zq_div, zq_toI, zn_div]
    by_cases q : zn t = 0
    · rw [if_pos q, if_pos q]; exact ⟨_, rfl, rfl⟩
    · rw [if_neg q, if_neg q]; exact ⟨_, rfl, rfl⟩
  | d + 1, k, f1 + 1, f2 + 1, h1, h2, h3 => by
    have hnp := hv.np
    have hpl := hv.pl hp
    have hk : k ≤ 8 := by omega
    have b1 := pPow (a := 12) (k := k) (by omega) hk
    have b2 := pPow (a := 12 - pD_pl D p 1) (k := k) (by omega) hk
    show ∃ r, f_X11_ship_H47 X L (f_X11_ship_L47 X L f1) (zn p) (zn n) (zn t) (zq (12 ^ k)) (zq ((12 - pD_pl D p 1) ^ k)) (zn k) = some (some r) ∧ f_X12_ship_H46 M (f_X12_ship_L46 f2) (zn p) (zn n) (zn t) (zn ((12 - pD_pl D p 1) ^ k)) (zn (12 ^ k)) (zn k) = some (r, M)
    unfold f_X11_ship_H47 f_X12_ship_H46
    have e : zn k < zn n := by rw [zn_lt (by omega) (by omega)]; omega
    rw [if_pos e, if_pos e, show f_X3_ofPlace L (zn p) 1 = some (zn (pD_pl D p 1)) from pc_ofPlace hv hc hp (k := 1) (by omega), ob_eq]
    simp (disch := omega) only [zn_l14, zn_l12, zq_l12, zn_add, zb_zn, zn_nat, if_true, (hm.2.1 p hp).2.1, zl_eq, zn_sub, zn_toL, zq_mul, zn_mul]
    rw [show zn k + 1 = zn (k + 1) from zn_add k 1]
    have := q_ship_loop hv hc X M hm hp hn ht d (k := k + 1) (f1 := f1) (f2 := f2) (by omega) (by omega) (by omega)
    rw [Nat.pow_succ, Nat.pow_succ] at this
    exact this
theorem q_ship (hv : pV D) (hc : pLc D L) (hm : pLm D (Mo_now M)) (X : XxT) (x1 x2 x3 : Int32) : (f_X11_ship X L x1 x2 x3 = some none ∧ f_X12_ship M x1 x2 x3 = some (0, Mo_s_thrown M 1)) ∨ ∃ r, f_X11_ship X L x1 x2 x3 = some (some r) ∧ f_X12_ship M x1 x2 x3 = some (r, Mo_s_thrown M 0) := by
  have hm' : pLm D (Mo_now (Mo_s_thrown M 0)) := hm
  have hnp := hv.np
  have no : ∀ P : Prop, (some (none : Option Int32) = some none ∧ (f_X12_refuse (Mo_s_thrown M 0)).bind (fun q => some (q.1, q.2)) = some (0, Mo_s_thrown M 1)) ∨ P := fun P => Or.inl ⟨rfl, rfl⟩
  unfold f_X11_ship f_X12_ship f_X11_ship_b30
  rw [zl_eq]
  rcases zn_lim x1 (pD_np D) (by omega) with h1 | ⟨p, rfl, h1⟩
  · rw [pc_isPort0 hc h1, ob_eq, pm_isPort0 hv hm' h1, ob_eq, if_pos rfl, if_pos rfl]; exact no _
  rw [pc_isPort1 hv hc h1, ob_eq, pm_isPort1 hv hm' h1, ob_eq]
  by_cases hp : pD_pl D p 0 = 2
  · simp only [if_pos hp, if_neg n10]
    rcases zn_rng x2 0 8 (by omega) (by omega) with h2 | ⟨n, rfl, -, h2⟩
    · rw [pm_isIn0 (show x2 < (0 : Int32) ∨ (8 : Int32) < x2 from h2), ob_eq, if_pos rfl]
      rcases h2 with h2 | h2
      · rw [if_pos (show x2 < (0 : Int32) from h2)]; exact no _
      · rw [if_pos (show (8 : Int32) < x2 from h2), ite_self]; exact no _
    rw [show f_X12_isIn (zn n) 0 8 = some 1 from pm_isIn1 (lo := 0) (hi := 8) (by omega) h2 (by omega), ob_eq, if_neg n10, if_neg (zn_ge0 (by omega)), if_neg (show ¬ (8 : Int32) < zn n by rw [zn_l8, zn_lt (by omega) (by omega)]; omega)]
    rcases zn_rng x3 0 1 (by omega) (by omega) with h3 | ⟨t, rfl, -, h3⟩
    · rw [pm_isIn0 (show x3 < (0 : Int32) ∨ (1 : Int32) < x3 from h3), ob_eq, if_pos rfl]
      rcases h3 with h3 | h3
      · rw [if_pos (show x3 < (0 : Int32) from h3)]; exact no _
      · rw [if_pos (show (1 : Int32) < x3 from h3), ite_self]; exact no _
    rw [show f_X12_isIn (zn t) 0 1 = some 1 from pm_isIn1 (lo := 0) (hi := 1) (by omega) h3 (by omega), ob_eq, if_neg n10, if_neg (zn_ge0 (by omega)), if_neg (show ¬ (1 : Int32) < zn t by rw [zn_l1, zn_lt (by omega) (by omega)]; omega)]
    exact Or.inr (q_ship_loop hv hc X (Mo_s_thrown M 0) hm' h1 h2 h3 n (k := 0) (f1 := zFU) (f2 := zFU) (by omega) (zFU_ge (by omega)) (zFU_ge (by omega)))
  · rw [show (if pD_pl D p 0 = 2 then (1 : Int32) else 0) = 0 from if_neg hp, if_pos rfl, if_pos rfl]; exact no _
/-! laid aside -/
theorem pm_aside_loop (M : MoT) : ∀ (d : Nat) {k fu : Nat} (A : Nat → Int32), k + d = 73 → d + 1 ≤ fu → f_X12_layAside_L2 fu (Mo_s_aside M A) (zn k) = some (Mo_s_aside M (pCpy A (Mo_now M) 0 443 k 73))
  | d, k, 0, A, h1, h2 => by omega
  | 0, k, fu + 1, A, h1, h2 => by
    show f_X12_layAside_H2 (Mo_s_aside M A) (f_X12_layAside_L2 fu) (zn k) = _
    unfold f_X12_layAside_H2
    have e : k = 73 := by omega
    subst e
    rw [if_neg (by decide), pCpy_end]
  | d + 1, k, fu + 1, A, h1, h2 => by
    show f_X12_layAside_H2 (Mo_s_aside M A) (f_X12_layAside_L2 fu) (zn k) = _
    unfold f_X12_layAside_H2
    rw [if_pos (show zn k < (73 : Int32) by rw [zn_l73, zn_lt (by omega) (by omega)]; omega)]
    rw [show Mo_now (Mo_s_aside M A) = Mo_now M from rfl, show Mo_aside (Mo_s_aside M A) = A from rfl]
    simp (disch := omega) only [zn_l443, zn_l1, zn_add, zb_zn, zn_nat, if_true, zl_eq]
    have := pm_aside_loop M d (k := k + 1) (fu := fu) (upd A (0 + k) (Mo_now M (443 + k))) (by omega) (by omega)
    rw [pCpy_step _ _ (by omega), Nat.zero_add] at this
    exact this
theorem pm_layAside (M : MoT) : f_X12_layAside M = some (Mo_s_aside M (pCpy (Mo_aside M) (Mo_now M) 0 443 0 73)) :=
  pm_aside_loop M 73 (k := 0) (Mo_aside M) (by omega) (zFU_ge (by omega))
theorem pm_back_loop (M : MoT) : ∀ (d : Nat) {k fu : Nat} (w : Nat → Int32), k + d = 73 → d + 1 ≤ fu → f_X12_takeBack_L2 fu (Mo_s_now M w) (zn k) = some (Mo_s_now M (pCpy w (Mo_aside M) 443 0 k 73))
  | d, k, 0, w, h1, h2 => by omega
  | 0, k, fu + 1, w, h1, h2 => by
    show f_X12_takeBack_H2 (Mo_s_now M w) (f_X12_takeBack_L2 fu) (zn k) = _
    unfold f_X12_takeBack_H2
    have e : k = 73 := by omega
    subst e
    rw [if_neg (by decide), pCpy_end]
  | d + 1, k, fu + 1, w, h1, h2 => by
    show f_X12_takeBack_H2 (Mo_s_now M w) (f_X12_takeBack_L2 fu) (zn k) = _
    unfold f_X12_takeBack_H2
    rw [if_pos (show zn k < (73 : Int32) by rw [zn_l73, zn_lt (by omega) (by omega)]; omega)]
    rw [show Mo_now (Mo_s_now M w) = w from rfl, show Mo_aside (Mo_s_now M w) = Mo_aside M from rfl]
    simp (disch := omega) only [zn_l443, zn_l1, zn_add, zb_zn, zn_nat, if_true, zl_eq]
    have := pm_back_loop M d (k := k + 1) (fu := fu) (upd w (443 + k) (Mo_aside M (0 + k))) (by omega) (by omega)
    rw [pCpy_step _ _ (by omega), Nat.zero_add] at this
    exact this
theorem pm_takeBack (M : MoT) : f_X12_takeBack M = some (Mo_s_now M (pCpy (Mo_now M) (Mo_aside M) 443 0 0 73)) :=
  pm_back_loop M 73 (k := 0) (Mo_now M) (by omega) (zFU_ge (by omega))
/-! promise 34 -/
theorem q_sails_loop (hv : pV D) (hc : pLc D L) (M : MoT) {m n : Nat} (hm : m < pD_nm D) (hn : n ≤ 400) : ∀ (d : Nat) {k f1 f2 : Nat} {F : pF} {K : FkT} {w : Nat → Int32} (hK : pFc D F K) (hL : pLm D w) (hF : pFm D F w) (a b : Int32) (hV : pFv D F), pF_day F + d ≤ 400 → k + d = n → d + 1 ≤ f1 → d + 1 ≤ f2 →
    ∃ (v : Nat) (K' : FkT) (F' : pF) (w' : Nat → Int32) (s' a' b' : Int32), f_X1_sailsIn_L19 L f1 K (zn m) (zn n) (zn k) = some (zn v, K') ∧ f_X12_passDays_L25 f2 (pM M w (Fk_seed K) a b) (zn n) (zn k) = some (zn n, pM M w' s' a' b') ∧ pFm D F' w' ∧ pFv D F' ∧ pFr w w' ∧ ((v = 1 ∧ pF_o F' m 0 = 3) ∨ (v = 0 ∧ pF_o F' m 0 ≠ 3))
  | d, k, 0, f2, F, K, w, hK, hL, hF, a, b, hV, hd, h1, h2, h3 => by omega
  | d, k, f1 + 1, 0, F, K, w, hK, hL, hF, a, b, hV, hd, h1, h2, h3 => by omega
  | 0, k, f1 + 1, f2 + 1, F, K, w, hK, hL, hF, a, b, hV, hd, h1, h2, h3 => by
    have b0 := (hV.2 m hm).1.1
    show ∃ (v : Nat) (K' : FkT) (F' : pF) (w' : Nat → Int32) (s' a' b' : Int32), f_X1_sailsIn_H19 K L (f_X1_sailsIn_L19 L f1) (zn m) (zn n) (zn k) = _ ∧ f_X12_passDays_H25 (pM M w (Fk_seed K) a b) (f_X12_passDays_L25 f2) (zn n) (zn k) = _ ∧ _
    unfold f_X1_sailsIn_H19 f_X1_sailsIn_b57 f_X12_passDays_H25
    have e : ¬ zn k < zn n := by rw [zn_lt (by omega) (by omega)]; omega
    rw [if_neg e, if_neg e, show f_X1_of K (zn m) 0 = some (zn (pF_o F m 0)) from pc_of0 hv hK hm, ob_eq]
    by_cases q : pF_o F m 0 = 3
    · rw [if_pos (show zn (pF_o F m 0) = 3 by rw [q]; rfl)]
      exact ⟨1, K, F, w, _, a, b, rfl, rfl, hF, hV, pFr.rf w, Or.inl ⟨rfl, q⟩⟩
    · rw [if_neg (show ¬ zn (pF_o F m 0) = 3 by rw [zn_l3, zn_eq (by omega) (by omega)]; exact q)]
      exact ⟨0, K, F, w, _, a, b, rfl, rfl, hF, hV, pFr.rf w, Or.inr ⟨rfl, q⟩⟩
  | d + 1, k, f1 + 1, f2 + 1, F, K, w, hK, hL, hF, a, b, hV, hd, h1, h2, h3 => by
    have b0 := (hV.2 m hm).1.1
    by_cases q : pF_o F m 0 = 1 ∨ pF_o F m 0 = 2
    · show ∃ (v : Nat) (K' : FkT) (F' : pF) (w' : Nat → Int32) (s' a' b' : Int32), f_X1_sailsIn_H19 K L (f_X1_sailsIn_L19 L f1) (zn m) (zn n) (zn k) = _ ∧ f_X12_passDays_H25 (pM M w (Fk_seed K) a b) (f_X12_passDays_L25 f2) (zn n) (zn k) = _ ∧ _
      unfold f_X1_sailsIn_H19 f_X1_sailsIn_b46 f_X12_passDays_H25
      have e : zn k < zn n := by rw [zn_lt (by omega) (by omega)]; omega
      rw [if_pos e, if_pos e, show f_X1_of K (zn m) 0 = some (zn (pF_o F m 0)) from pc_of0 hv hK hm, ob_eq, ob_eq]
      obtain ⟨F1, K1, w1, a1, b1, i1, i2, i3, i4, i5, i6, i7, i8⟩ := q_day hv hc M hK hL hF a b hV (by omega)
      rw [i1, ob_eq, i2, ob_eq, show zn k + 1 = zn (k + 1) from zn_add k 1]
      obtain ⟨v, K', F', w', s', a', b', j1, j2, j3, j4, j5, j6⟩ := q_sails_loop hv hc M hm hn d (k := k + 1) (f1 := f1) (f2 := f2) i3 (hL.fr' hv i6) i4 a1 b1 i5 (by omega) (by omega) (by omega) (by omega)
      refine ⟨v, K', F', w', s', a', b', ?_, j2, j3, j4, i6.tr j5, j6⟩
      rcases q with q | q
      · rw [if_pos (show zn (pF_o F m 0) = 1 by rw [q]; rfl)]; exact j1
      · rw [if_neg (show ¬ zn (pF_o F m 0) = 1 by rw [q]; decide), if_pos (show zn (pF_o F m 0) = 2 by rw [q]; rfl)]; exact j1
    · obtain ⟨F', K', w', a', b', j1, j2, j3, j4, j5, j6, j7, j8⟩ := q_days_loop hv hc M n hn (d + 1) (k := k) (fu := f2 + 1) hK hL hF a b hV (by omega) (by omega) (by omega)
      have e8 := j8 m (fun z => q (Or.inl z)) (fun z => q (Or.inr z))
      have c1 : f_X1_sailsIn_L19 L (f1 + 1) K (zn m) (zn n) (zn k) = some (zn (if pF_o F m 0 = 3 then 1 else 0), K) := by
        show f_X1_sailsIn_H19 K L (f_X1_sailsIn_L19 L f1) (zn m) (zn n) (zn k) = _
        unfold f_X1_sailsIn_H19 f_X1_sailsIn_b57
        have e : zn k < zn n := by rw [zn_lt (by omega) (by omega)]; omega
        rw [if_pos e, show f_X1_of K (zn m) 0 = some (zn (pF_o F m 0)) from pc_of0 hv hK hm, ob_eq, ob_eq, ob_eq, if_neg (show ¬ zn (pF_o F m 0) = 1 by rw [zn_eq1 (by omega)]; exact fun z => q (Or.inl z)), if_neg (show ¬ zn (pF_o F m 0) = 2 by rw [zn_eq2 (by omega)]; exact fun z => q (Or.inr z))]
        by_cases q3 : pF_o F m 0 = 3
        · rw [if_pos (show zn (pF_o F m 0) = 3 by rw [q3]; rfl), if_pos q3]; rfl
        · rw [if_neg (show ¬ zn (pF_o F m 0) = 3 by rw [zn_l3, zn_eq (by omega) (by omega)]; exact q3), if_neg q3]; rfl
      refine ⟨_, K, F', w', _, a', b', c1, j2, j4, j5, j6, ?_⟩
      rw [e8]
      by_cases q3 : pF_o F m 0 = 3
      · rw [if_pos q3]; exact Or.inl ⟨rfl, q3⟩
      · rw [if_neg q3]; exact Or.inr ⟨rfl, q3⟩
theorem q_odds_loop (hv : pV D) (hc : pLc D L) (X : XxT) (M : MoT) {w : Nat → Int32} (hL : pLm D w) (hK : pFc D F K) (hF : pFm D F w) (hV : pFv D F) (hA : ∀ i, i < 73 → Mo_aside M i = w (443 + i)) {m n : Nat} (hm : m < pD_nm D) (hn : n ≤ 30) (x : Int32) : ∀ (d : Nat) {k f1 f2 : Nat} (K2 : FkT) (c s a b : Int32), k + d = n → d + 1 ≤ f1 → d + 1 ≤ f2 →
    ∃ r K2' s' a' b', f_X11_odds_L30 X L K f1 K2 (zn m) (zn n) x c (zn k) = some (r, K2') ∧ f_X12_odds_L35 f2 (pM M w s a b) (zn m) (zn n) x c (zn k) = some (r, pM M w s' a' b')
  | d, k, 0, f2, K2, c, s, a, b, h1, h2, h3 => by omega
  | d, k, f1 + 1, 0, K2, c, s, a, b, h1, h2, h3 => by omega
  | 0, k, f1 + 1, f2 + 1, K2, c, s, a, b, h1, h2, h3 => by
    show ∃ r K2' s' a' b', f_X11_odds_H30 X L K2 K (f_X11_odds_L30 X L K f1) (zn m) (zn n) x c (zn k) = _ ∧ f_X12_odds_H35 (pM M w s a b) (f_X12_odds_L35 f2) (zn m) (zn n) x c (zn k) = _
    unfold f_X11_odds_H30 f_X12_odds_H35
    have e : ¬ zn k < zn n := by rw [zn_lt (by omega) (by omega)]; omega
    rw [if_neg e, if_neg e]
    exact ⟨_, _, _, _, _, rfl, rfl⟩
  | d + 1, k, f1 + 1, f2 + 1, K2, c, s, a, b, h1, h2, h3 => by
    have hnm := hv.nm
    have hd := hV.1
    show ∃ r K2' s' a' b', f_X11_odds_H30 X L K2 K (f_X11_odds_L30 X L K f1) (zn m) (zn n) x c (zn k) = _ ∧ f_X12_odds_H35 (pM M w s a b) (f_X12_odds_L35 f2) (zn m) (zn n) x c (zn k) = _
    unfold f_X11_odds_H30 f_X12_odds_H35 f_X11_odds_b71 f_X12_odds_b69
    have e : zn k < zn n := by rw [zn_lt (by omega) (by omega)]; omega
    obtain ⟨q3, c1, c2⟩ := pc_copy (D := D) K2 K
    rw [if_pos e, if_pos e, c1, ob_eq]
    obtain ⟨v, K', F', w', s', a', b', j1, j2, j3, j4, j5, j6⟩ := q_sails_loop hv hc M hm (n := min 30 (400 - pF_day F)) (by omega) (min 30 (400 - pF_day F)) (k := 0) (f1 := zFU) (f2 := zFU) (K := Fk_s_seed q3 (x + zn k)) ((c2 F hK hv).seed _) hL hF a b hV (by omega) (by omega) (zFU_ge (by omega)) (zFU_ge (by omega))
    have hs : f_X1_sailsIn q3 L (zn m) 30 (x + zn k) = some (zn v, K') := by
      unfold f_X1_sailsIn f_X1_daysToCome
      rw [zl_eq, ob_eq, show Fk_day (Fk_s_seed q3 (x + zn k)) = Fk_day q3 from rfl, (c2 F hK hv).1, zn_l400, zn_l30, zn_sub (by omega), zr_min_zn (by omega) (by omega)]
      exact j1
    have hp : f_X12_passDays (pM M w s a b) 30 (x + zn k) = some (zn (min 30 (400 - pF_day F)), pM M w' s' a' b') := by
      unfold f_X12_passDays
      rw [zl_eq, show Mo_now (Mo_s_seed (pM M w s a b) (x + zn k)) (443 : Int32).toNatClampNeg = zn (pF_day F) from hF.1, zn_l400, zn_l30, zn_sub (by omega), pm_least (by omega) (by omega), ob_eq]
      exact j2
    rw [hs, ob_eq, hp, ob_eq]
    have b0 := (j4.2 m hm).1.1
    simp (disch := omega) only [zn_l444, zn_add, zb_zn, zn_nat, if_true, pM_now, j3.g0 hm]
    have htb : f_X12_takeBack (pM M w' s' a' b') = some (pM M w s' a' b') := by
      rw [pm_takeBack]
      have : pCpy (Mo_now (pM M w' s' a' b')) (Mo_aside (pM M w' s' a' b')) 443 0 0 73 = w := by
        funext j
        show pCpy w' (Mo_aside M) 443 0 0 73 j = w j
        unfold pCpy
        by_cases z : 443 + 0 ≤ j ∧ j < 443 + 73
        · rw [if_pos z, hA _ (by omega)]
          exact congrArg w (by omega)
        · rw [if_neg z]; exact j5 j (by omega)
      rw [this]; rfl
    rw [htb, ob_eq, show zn k + 1 = zn (k + 1) from zn_add k 1]
    rcases j6 with ⟨v1, v2⟩ | ⟨v1, v2⟩
    · rw [v1, if_neg (show ¬ zn 1 = (0 : Int32) by decide), if_pos (show zn (pF_o F' m 0) = 3 by rw [v2]; rfl)]
      exact q_odds_loop hv hc X M hL hK hF hV hA hm hn x d K' _ s' a' b' (by omega) (by omega) (by omega)
    · rw [v1, if_pos (show zn 0 = (0 : Int32) from rfl), if_neg (show ¬ zn (pF_o F' m 0) = 3 by rw [zn_l3, zn_eq (by omega) (by omega)]; exact v2)]
      exact q_odds_loop hv hc X M hL hK hF hV hA hm hn x d K' _ s' a' b' (by omega) (by omega) (by omega)
theorem q_odds (hv : pV D) (hc : pLc D L) (hm : pLm D (Mo_now M)) (hK : pFc D F K) (hF : pFm D F (Mo_now M)) (hV : pFv D F) (X : XxT) (K2 : FkT) (x1 x2 x3 : Int32) : ∃ r K2' A s' a' b', f_X11_odds X L K2 K x1 x2 x3 = some (r, K2') ∧ f_X12_odds M x1 x2 x3 = some (r, pM (Mo_s_aside (Mo_s_thrown M 0) A) (Mo_now M) s' a' b') := by
  have hm' : pLm D (Mo_now (Mo_s_thrown M 0)) := hm
  have hnm := hv.nm
  have no : ∃ r K2' A s' a' b', some ((-1 : Int32), K2) = some (r, K2') ∧ some ((-1 : Int32), Mo_s_thrown M 0) = some (r, pM (Mo_s_aside (Mo_s_thrown M 0) A) (Mo_now M) s' a' b') := ⟨_, _, Mo_aside M, Mo_seed M, Mo_roadThere M, Mo_placeThere M, rfl, rfl⟩
  unfold f_X11_odds f_X12_odds
  rw [zl_eq]
  rcases zn_lim x1 (pD_nm D) (by omega) with h1 | ⟨m, rfl, h1⟩
  · rw [pc_hasMan0 hc h1, ob_eq, pm_isMan0 hv hm' h1, ob_eq, if_pos rfl, if_pos rfl]; exact no
  rw [pc_hasMan1 hv hc h1, ob_eq, pm_isMan1 hv hm' h1, ob_eq, if_neg n10, if_neg n10]
  rcases zn_rng x2 1 30 (by omega) (by omega) with h3 | ⟨d, rfl, h3, h4⟩
  · rw [pm_isIn0 (show x2 < (1 : Int32) ∨ (30 : Int32) < x2 from h3), ob_eq, if_pos rfl]
    rcases h3 with h3 | h3
    · rw [if_pos (show x2 < (1 : Int32) from h3)]; exact no
    · rw [if_pos (show (30 : Int32) < x2 from h3), ite_self]; exact no
  · rw [show f_X12_isIn (zn d) 1 30 = some 1 from pm_isIn1 (lo := 1) (hi := 30) h3 h4 (by omega), ob_eq, if_neg n10, if_neg (show ¬ zn d < (1 : Int32) by rw [zn_l1, zn_lt (by omega) (by omega)]; omega), if_neg (show ¬ (30 : Int32) < zn d by rw [zn_l30, zn_lt (by omega) (by omega)]; omega), pm_layAside, ob_eq]
    obtain ⟨r, K2', s', a', b', i1, i2⟩ := q_odds_loop hv hc X (Mo_s_aside (Mo_s_thrown M 0) (pCpy (Mo_aside M) (Mo_now M) 0 443 0 73)) (w := Mo_now M) hm hK hF hV (fun i hi => by
      show pCpy (Mo_aside M) (Mo_now M) 0 443 0 73 i = _
      have := pCpy_in (Mo_aside M) (Mo_now M) (a := 0) (b := 443) (n := 73) hi
      rw [Nat.zero_add] at this; exact this) h1 h4 x3 d (k := 0) (f1 := zFU) (f2 := zFU) K2 0 (Mo_seed M) (Mo_roadThere M) (Mo_placeThere M) (by omega) (zFU_ge (by omega)) (zFU_ge (by omega))
    exact ⟨r, K2', _, s', a', b', i1, i2⟩
end
