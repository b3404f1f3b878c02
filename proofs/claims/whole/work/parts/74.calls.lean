theorem zn_rng (x : Int32) (lo hi : Nat) (h1 : lo ≤ hi) (h2 : hi < 2147483648) : (x < zn lo ∨ zn hi < x) ∨ ∃ n, x = zn n ∧ lo ≤ n ∧ n ≤ hi := by
  rcases zn_get x with h | ⟨n, rfl, h⟩
  · left; left
    obtain ⟨a, rfl, a1, a2⟩ := zi_get x
    rw [zn_l0, ← zi_zn, zi_lt a1 a2 (by omega) (by omega)] at h
    rw [← zi_zn, zi_lt a1 a2 (by omega) (by omega)]; omega
  · by_cases q : n < lo
    · left; left; rw [zn_lt h (by omega)]; exact q
    · by_cases q2 : hi < n
      · left; right; rw [zn_lt h2 h]; exact q2
      · exact Or.inr ⟨n, rfl, by omega, by omega⟩
theorem pm_isIn1 {n lo hi : Nat} (h1 : lo ≤ n) (h2 : n ≤ hi) (h3 : hi < 2147483648) : f_X12_isIn (zn n) (zn lo) (zn hi) = some 1 := by
  rw [pm_isIn, if_neg]
  rw [zn_lt (by omega) (by omega), zn_lt (by omega) (by omega)]; omega
theorem pm_isIn0 {x a b : Int32} (h : x < a ∨ b < x) : f_X12_isIn x a b = some 0 := by rw [pm_isIn, if_pos h]
/-- an act or days: what comes of it -/
def pActOut (D : pD) (M : MoT) (cl : Option (Int32 × FkT × FkT × HiT × H8T)) (mo : Option (Int32 × MoT)) : Prop :=
  ∃ r K2 K' Hi' H' S' n' w' s' a' b' F', cl = some (r, K2, K', Hi', H') ∧ mo = some (r, pM (Mo_s_snapMany (Mo_s_snaps (Mo_s_thrown M 0) S') n') w' s' a' b') ∧ pHi D Hi' H' S' n' ∧ pFc D F' K' ∧ pFm D F' w' ∧ pFv D F' ∧ pFr (Mo_now M) w'
section
variable {D : pD} {L : LdT} {M : MoT} {F : pF} {K : FkT} {Hi : HiT} {H : H8T}
theorem pActOut_no (hHi : pHi D Hi H (Mo_snaps M) (Mo_snapMany M)) (hK : pFc D F K) (hF : pFm D F (Mo_now M)) (hV : pFv D F) (K2 : FkT) : pActOut D M (some (-1, K2, K, Hi, H)) (some (-1, Mo_s_thrown M 0)) :=
  ⟨_, _, _, _, _, Mo_snaps M, Mo_snapMany M, Mo_now M, Mo_seed M, Mo_roadThere M, Mo_placeThere M, F, rfl, rfl, hHi, hK, hF, hV, pFr.rf _⟩
theorem pActOut_yes (hv : pV D) (hHi : pHi D Hi H (Mo_snaps M) (Mo_snapMany M)) (hK : pFc D F K) (hF : pFm D F (Mo_now M)) (hV : pFv D F) (X : XxT) (K2 : FkT) {cl : Option (Int32 × FkT)} {c m x y : Int32} (h : pActR D F K (Mo_s_thrown M 0) (Mo_now M) (Mo_seed M) (Mo_roadThere M) (Mo_placeThere M) cl c m x y) :
    pActOut D M ((f_X1_copy K2 K).bind fun q3 => cl.bind fun q4 => (f_X11_keptIfDone X Hi q3 H q4.1).bind fun q5 => some (q5.1, q3, q4.2, q5.2.1, q5.2.2)) ((f_X12_act (Mo_s_thrown M 0) c m x y).bind fun q => some (q.1, q.2)) := by
  obtain ⟨q3, c1, c2⟩ := pc_copy (D := D) K2 K
  obtain ⟨r, K', Hi', H', S', n', w', a', b', F', h1, h2, h3, h4, h5, h6, h7, h8⟩ := q_act hv (M := Mo_s_thrown M 0) hHi (c2 F hK hv) hK hF hV X h
  rw [c1, h1, ob_eq, ob_eq, h2, ob_eq, show Mo_s_thrown M 0 = pM (Mo_s_thrown M 0) (Mo_now M) (Mo_seed M) (Mo_roadThere M) (Mo_placeThere M) from rfl, h3, ob_eq]
  exact ⟨_, _, _, _, _, S', n', w', _, a', b', F', rfl, rfl, h4, h5, h6, h7, h8⟩
variable (hv : pV D) (hc : pLc D L) (hm : pLm D (Mo_now M)) (hHi : pHi D Hi H (Mo_snaps M) (Mo_snapMany M)) (hK : pFc D F K) (hF : pFm D F (Mo_now M)) (hV : pFv D F)
theorem q_swear (hv : pV D) (hc : pLc D L) (hm : pLm D (Mo_now M)) (hHi : pHi D Hi H (Mo_snaps M) (Mo_snapMany M)) (hK : pFc D F K) (hF : pFm D F (Mo_now M)) (hV : pFv D F) (X : XxT) (K2 : FkT) (x1 x2 x3 : Int32) : pActOut D M (f_X11_swear X L K2 K Hi H x1 x2 x3) (f_X12_swear M x1 x2 x3) := by
  have hm' : pLm D (Mo_now (Mo_s_thrown M 0)) := hm
  have hnp := hv.np
  have hnm := hv.nm
  have no := pActOut_no hHi hK hF hV K2
  unfold f_X11_swear f_X12_swear f_X12_swear_b42
  rw [zl_eq]
  rcases zn_lim x1 (pD_nm D) (by omega) with h1 | ⟨m, rfl, h1⟩
  · rw [pc_hasMan0 hc h1, ob_eq, pm_isMan0 hv hm' h1, ob_eq, if_pos rfl, if_pos rfl]; exact no
  rw [pc_hasMan1 hv hc h1, ob_eq, pm_isMan1 hv hm' h1, ob_eq, if_neg (show ¬ (1 : Int32) = 0 by decide), if_neg (show ¬ (1 : Int32) = 0 by decide)]
  rcases zn_lim x2 (pD_np D) (by omega) with h2 | ⟨p, rfl, h2⟩
  · rw [pc_isPort0 hc h2, ob_eq, pm_isPort0 hv hm' h2, ob_eq, if_pos rfl, if_pos rfl]; exact no
  rw [pc_isPort1 hv hc h2, ob_eq, pm_isPort1 hv hm' h2, ob_eq]
  by_cases hp : pD_pl D p 0 = 2
  · simp only [if_pos hp, if_neg (show ¬ (1 : Int32) = 0 by decide)]
    rcases zn_rng x3 1 40 (by omega) (by omega) with h3 | ⟨d, rfl, h3, h4⟩
    · rw [pm_isIn0 (show x3 < (1 : Int32) ∨ (40 : Int32) < x3 from h3), ob_eq, if_pos rfl]
      rcases h3 with h3 | h3
      · rw [if_pos (show x3 < (1 : Int32) from h3)]; exact no
      · rw [if_pos (show (40 : Int32) < x3 from h3), ite_self]; exact no
    · rw [show f_X12_isIn (zn d) 1 40 = some 1 from pm_isIn1 (lo := 1) (hi := 40) h3 h4 (by omega), ob_eq, if_neg (show ¬ (1 : Int32) = 0 by decide), if_neg (show ¬ zn d < (1 : Int32) by rw [zn_l1, zn_lt (by omega) (by omega)]; omega), if_neg (show ¬ (40 : Int32) < zn d by rw [zn_l40, zn_lt (by omega) (by omega)]; omega)]
      exact pActOut_yes hv hHi hK hF hV X K2 (q_swear_a hv hc (Mo_s_thrown M 0) hK hm' hF _ _ _ hV h1 h2 hp h3 h4)
  · simp only [if_neg hp, if_true]; exact no
theorem q_order (hv : pV D) (hc : pLc D L) (hm : pLm D (Mo_now M)) (hHi : pHi D Hi H (Mo_snaps M) (Mo_snapMany M)) (hK : pFc D F K) (hF : pFm D F (Mo_now M)) (hV : pFv D F) (X : XxT) (K2 : FkT) (x1 x2 : Int32) : pActOut D M (f_X11_order X L K2 K Hi H x1 x2) (f_X12_order M x1 x2) := by
  have hm' : pLm D (Mo_now (Mo_s_thrown M 0)) := hm
  have hnm := hv.nm
  have no := pActOut_no hHi hK hF hV K2
  unfold f_X11_order f_X12_order f_X12_order_b34
  rw [zl_eq]
  rcases zn_lim x1 (pD_nm D) (by omega) with h1 | ⟨m, rfl, h1⟩
  · rw [pc_hasMan0 hc h1, ob_eq, pm_isMan0 hv hm' h1, ob_eq, if_pos rfl, if_pos rfl]; exact no
  rw [pc_hasMan1 hv hc h1, ob_eq, pm_isMan1 hv hm' h1, ob_eq, if_neg (show ¬ (1 : Int32) = 0 by decide), if_neg (show ¬ (1 : Int32) = 0 by decide)]
  rcases zn_rng x2 0 20 (by omega) (by omega) with h3 | ⟨d, rfl, h3, h4⟩
  · rw [pm_isIn0 (show x2 < (0 : Int32) ∨ (20 : Int32) < x2 from h3), ob_eq, if_pos rfl]
    rcases h3 with h3 | h3
    · rw [if_pos (show x2 < (0 : Int32) from h3)]; exact no
    · rw [if_pos (show (20 : Int32) < x2 from h3), ite_self]; exact no
  · rw [show f_X12_isIn (zn d) 0 20 = some 1 from pm_isIn1 (lo := 0) (hi := 20) h3 h4 (by omega), ob_eq, if_neg (show ¬ (1 : Int32) = 0 by decide), if_neg (show ¬ zn d < (0 : Int32) by rw [zn_l0, zn_lt (by omega) (by omega)]; omega), if_neg (show ¬ (20 : Int32) < zn d by rw [zn_l20, zn_lt (by omega) (by omega)]; omega)]
    exact pActOut_yes hv hHi hK hF hV X K2 (q_order_a hv hc (Mo_s_thrown M 0) hK hm' hF _ _ _ hV h1 h4 0)
theorem q_slip (hv : pV D) (hc : pLc D L) (hm : pLm D (Mo_now M)) (hHi : pHi D Hi H (Mo_snaps M) (Mo_snapMany M)) (hK : pFc D F K) (hF : pFm D F (Mo_now M)) (hV : pFv D F) (X : XxT) (K2 : FkT) (x1 : Int32) : pActOut D M (f_X11_slip X L K2 K Hi H x1) (f_X12_slip M x1) := by
  have hm' : pLm D (Mo_now (Mo_s_thrown M 0)) := hm
  have hnm := hv.nm
  have no := pActOut_no hHi hK hF hV K2
  unfold f_X11_slip f_X12_slip
  rw [zl_eq]
  rcases zn_lim x1 (pD_nm D) (by omega) with h1 | ⟨m, rfl, h1⟩
  · rw [pc_hasMan0 hc h1, ob_eq, pm_isMan0 hv hm' h1, ob_eq, if_pos rfl, if_pos rfl]; exact no
  rw [pc_hasMan1 hv hc h1, ob_eq, pm_isMan1 hv hm' h1, ob_eq, if_neg (show ¬ (1 : Int32) = 0 by decide), if_neg (show ¬ (1 : Int32) = 0 by decide)]
  exact pActOut_yes hv hHi hK hF hV X K2 (q_slip_a hv (Mo_s_thrown M 0) hK hF _ _ _ hV h1 0 0)
theorem q_enter (hv : pV D) (hc : pLc D L) (hm : pLm D (Mo_now M)) (hHi : pHi D Hi H (Mo_snaps M) (Mo_snapMany M)) (hK : pFc D F K) (hF : pFm D F (Mo_now M)) (hV : pFv D F) (X : XxT) (K2 : FkT) (x1 : Int32) : pActOut D M (f_X11_enter X L K2 K Hi H x1) (f_X12_enter M x1) := by
  have hm' : pLm D (Mo_now (Mo_s_thrown M 0)) := hm
  have hnm := hv.nm
  have no := pActOut_no hHi hK hF hV K2
  unfold f_X11_enter f_X12_enter
  rw [zl_eq]
  rcases zn_lim x1 (pD_nm D) (by omega) with h1 | ⟨m, rfl, h1⟩
  · rw [pc_hasMan0 hc h1, ob_eq, pm_isMan0 hv hm' h1, ob_eq, if_pos rfl, if_pos rfl]; exact no
  rw [pc_hasMan1 hv hc h1, ob_eq, pm_isMan1 hv hm' h1, ob_eq, if_neg (show ¬ (1 : Int32) = 0 by decide), if_neg (show ¬ (1 : Int32) = 0 by decide)]
  exact pActOut_yes hv hHi hK hF hV X K2 (q_enter_a hv hc (Mo_s_thrown M 0) hK hm' hF _ _ _ hV h1 0 0)
theorem q_get (hv : pV D) (hc : pLc D L) (hm : pLm D (Mo_now M)) (hHi : pHi D Hi H (Mo_snaps M) (Mo_snapMany M)) (hK : pFc D F K) (hF : pFm D F (Mo_now M)) (hV : pFv D F) (X : XxT) (K2 : FkT) (x1 x2 : Int32) : pActOut D M (f_X11_get X L K2 K Hi H x1 x2) (f_X12_get M x1 x2) := by
  have hm' : pLm D (Mo_now (Mo_s_thrown M 0)) := hm
  have hnm := hv.nm
  have no := pActOut_no hHi hK hF hV K2
  unfold f_X11_get f_X12_get f_X12_get_b34
  rw [zl_eq]
  rcases zn_lim x1 (pD_nm D) (by omega) with h1 | ⟨m, rfl, h1⟩
  · rw [pc_hasMan0 hc h1, ob_eq, pm_isMan0 hv hm' h1, ob_eq, if_pos rfl, if_pos rfl]; exact no
  rw [pc_hasMan1 hv hc h1, ob_eq, pm_isMan1 hv hm' h1, ob_eq, if_neg (show ¬ (1 : Int32) = 0 by decide), if_neg (show ¬ (1 : Int32) = 0 by decide)]
  rcases zn_rng x2 1 99 (by omega) (by omega) with h3 | ⟨d, rfl, h3, h4⟩
  · rw [pm_isIn0 (show x2 < (1 : Int32) ∨ (99 : Int32) < x2 from h3), ob_eq, if_pos rfl]
    rcases h3 with h3 | h3
    · rw [if_pos (show x2 < (1 : Int32) from h3)]; exact no
    · rw [if_pos (show (99 : Int32) < x2 from h3), ite_self]; exact no
  · rw [show f_X12_isIn (zn d) 1 99 = some 1 from pm_isIn1 (lo := 1) (hi := 99) h3 h4 (by omega), ob_eq, if_neg (show ¬ (1 : Int32) = 0 by decide), if_neg (show ¬ zn d < (1 : Int32) by rw [zn_l1, zn_lt (by omega) (by omega)]; omega), if_neg (show ¬ (99 : Int32) < zn d by rw [zn_l99, zn_lt (by omega) (by omega)]; omega)]
    exact pActOut_yes hv hHi hK hF hV X K2 (q_get_a hv (Mo_s_thrown M 0) hK hF _ _ _ hV h1 h4 0)
theorem q_days (hv : pV D) (hc : pLc D L) (hm : pLm D (Mo_now M)) (hHi : pHi D Hi H (Mo_snaps M) (Mo_snapMany M)) (hK : pFc D F K) (hF : pFm D F (Mo_now M)) (hV : pFv D F) (X : XxT) (K2 : FkT) (x1 x2 : Int32) : pActOut D M (f_X11_days X K2 K L Hi H x1 x2) (f_X12_days M x1 x2) := by
  have no := pActOut_no hHi hK hF hV K2
  have hd := hV.1
  unfold f_X11_days f_X12_days
  rw [zl_eq]
  rcases zn_rng x1 1 30 (by omega) (by omega) with h3 | ⟨d, rfl, h3, h4⟩
  · rw [pm_isIn0 (show x1 < (1 : Int32) ∨ (30 : Int32) < x1 from h3), ob_eq, if_pos rfl]
    rcases h3 with h3 | h3
    · rw [if_pos (show x1 < (1 : Int32) from h3)]; exact no
    · rw [if_pos (show (30 : Int32) < x1 from h3), ite_self]; exact no
  · rw [show f_X12_isIn (zn d) 1 30 = some 1 from pm_isIn1 (lo := 1) (hi := 30) h3 h4 (by omega), ob_eq, if_neg (show ¬ (1 : Int32) = 0 by decide), if_neg (show ¬ zn d < (1 : Int32) by rw [zn_l1, zn_lt (by omega) (by omega)]; omega), if_neg (show ¬ (30 : Int32) < zn d by rw [zn_l30, zn_lt (by omega) (by omega)]; omega)]
    rw [show Mo_now (Mo_s_thrown M 0) (443 : Int32).toNatClampNeg = zn (pF_day F) from hF.1, zn_l400]
    obtain ⟨q3, c1, c2⟩ := pc_copy (D := D) K2 K
    rw [c1, ob_eq]
    obtain ⟨Hi', H', S', n', k1, k2, k3⟩ := q_keep hv (M := Mo_s_thrown M 0) hHi (c2 F hK hv) hF hV
    obtain ⟨F', K', w', a', b', i1, i2, i3, i4, i5, i6, i7, i8⟩ := q_goDays hv hc (Mo_s_snapMany (Mo_s_snaps (Mo_s_thrown M 0) S') n') hK hm hF (Mo_seed M) (Mo_roadThere M) (Mo_placeThere M) hV h4 x2
    rw [i1, ob_eq]
    simp only
    by_cases z : pF_day F = 400
    · have c0 : ¬ (0 : Int32) < zn (min d (400 - pF_day F)) := by rw [zn_pos (by omega)]; omega
      rw [if_neg c0, if_pos (by rw [z])]
      obtain ⟨F2, K3, w2, a2, b2, j1, j2, j3, j4, j5, j6, j7, j8⟩ := q_goDays hv hc M hK hm hF (Mo_seed M) (Mo_roadThere M) (Mo_placeThere M) hV h4 x2
      rw [i1] at j1
      cases j1
      have e0 : min d (400 - pF_day F) = 0 := by omega
      have hz : f_X1_goDays K L (zn d) x2 = some (zn 0, Fk_s_seed K x2) := by
        unfold f_X1_goDays f_X1_daysToCome
        rw [zl_eq, ob_eq]
        rw [show Fk_day (Fk_s_seed K x2) = Fk_day K from rfl, hK.1, zn_l400, zn_sub (by omega), zr_min_zn (by omega) (by omega), e0]
        show f_X1_goDays_H18 (Fk_s_seed K x2) L (f_X1_goDays_L18 L 69999) (zn 0) (zn 0) = _
        unfold f_X1_goDays_H18
        rw [if_neg (by decide)]
      rw [hz] at i1
      have e1 := Option.some.inj i1
      have e2 : K' = Fk_s_seed K x2 := (congrArg Prod.snd e1).symm
      rw [e2, e0]
      exact ⟨_, _, _, _, _, Mo_snaps M, Mo_snapMany M, Mo_now M, Mo_seed M, Mo_roadThere M, Mo_placeThere M, F, rfl, rfl, hHi, hK.seed _, hF, hV, pFr.rf _⟩
    · have c0 : (0 : Int32) < zn (min d (400 - pF_day F)) := by rw [zn_pos (by omega)]; omega
      have c1 : ¬ zn (pF_day F) = zn 400 := by rw [zn_eq (by omega) (by omega)]; exact z
      rw [if_pos c0, k1, ob_eq, if_neg c1, k2, ob_eq, show Mo_s_snapMany (Mo_s_snaps (Mo_s_thrown M 0) S') n' = pM (Mo_s_snapMany (Mo_s_snaps (Mo_s_thrown M 0) S') n') (Mo_now M) (Mo_seed M) (Mo_roadThere M) (Mo_placeThere M) from rfl, i2, ob_eq]
      exact ⟨_, _, _, _, _, S', n', w', _, a', b', F', rfl, rfl, k3, i3, i4, i5, i6⟩
end
