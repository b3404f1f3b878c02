section
variable {D : pD} {L : LdT} {M : MoT} {F : pF} {K : FkT} {R : RdT} {S : TrT}
theorem pTL_self (N : MoT) : pTL N (Mo_turnedLeast N) (Mo_turnedGreatest N) = N := by simp only [pTL, Mo_s_turnedGreatest, Mo_s_turnedLeast, Mo_turnedLeast, Mo_turnedGreatest]
theorem q_turned (hv : pV D) (hc : pLc D L) (hm : pLm D (Mo_now M)) (hK : pFc D F K) (hF : pFm D F (Mo_now M)) (hV : pFv D F) (hT : pTape R (Mo_tape M) (Mo_taped M)) (hl : Tr_least S = Mo_turnedLeast M) (hg : Tr_greatest S = Mo_turnedGreatest M) (X : XxT) (x1 : Int32) :
    ∃ r S' a b, f_X11_turned X L R K S x1 = some (r, Rd_s_length R 0, S') ∧ f_X12_turned M x1 = some (r, pTL (Mo_s_taped (Mo_s_thrown M 0) 0) a b) ∧ Tr_least S' = a ∧ Tr_greatest S' = b := by
  have hnm := hv.nm
  obtain ⟨n, t1, t2, t3, t4⟩ := hT
  unfold f_X11_turned f_X12_turned f_X11_turned_b59 f_X12_take
  simp only [zl_eq, ob_eq]
  have hm' : pLm D (Mo_now (Mo_s_taped (Mo_s_thrown M 0) 0)) := hm
  have hF' : pFm D F (Mo_now (Mo_s_taped (Mo_s_thrown M 0) 0)) := hF
  have e1 : Mo_taped (Mo_s_thrown M 0) = zn n := t3
  have hl' : Tr_least S = Mo_turnedLeast (Mo_s_taped (Mo_s_thrown M 0) 0) := hl
  have hg' : Tr_greatest S = Mo_turnedGreatest (Mo_s_taped (Mo_s_thrown M 0) 0) := hg
  have tp : Mo_tape (Mo_s_taped (Mo_s_thrown M 0) 0) = Mo_tape M := rfl
  rw [e1]
  generalize Mo_s_taped (Mo_s_thrown M 0) 0 = N at hm' hF' hl' hg' tp ⊢
  have no : ∃ r S' a b, (some (-1, Rd_s_length R 0, S) : Option (Int32 × RdT × TrT)) = some (r, Rd_s_length R 0, S') ∧ (some (-1, N) : Option (Int32 × MoT)) = some (r, pTL N a b) ∧ Tr_least S' = a ∧ Tr_greatest S' = b := ⟨-1, S, _, _, rfl, by rw [pTL_self], hl', hg'⟩
  rcases zn_lim x1 (pD_nm D) (by omega) with h1 | ⟨m, rfl, h1⟩
  · rw [pc_hasMan0 hc h1, ob_eq, pm_isMan0 hv hm' h1, ob_eq, if_pos rfl, if_pos rfl]; exact no
  rw [pc_hasMan1 hv hc h1, ob_eq, pm_isMan1 hv hm' h1, ob_eq, if_neg n10, if_neg n10, pc_of0 hv hK h1, ob_eq, show (444 : Int32) + zn m = zn (444 + m) from zn_add 444 m, zb_zn (by omega) (by omega), if_pos rfl, zn_nat (by omega), hF'.g0 h1]
  have hMv := hV.2 m h1
  have hMv' := hMv
  obtain ⟨⟨v0, -, -, -⟩, ⟨v4, -⟩, v3, v5, -, v6, -⟩ := hMv
  have e1' : (zn (pF_o F m 0) = (1 : Int32)) = (pF_o F m 0 = 1) := zn_eq (b := 1) (by omega) (by omega)
  by_cases q1 : pF_o F m 0 = 1
  rotate_left
  · rw [if_neg (fun z => q1 (e1'.mp z)), if_neg (fun z => q1 (e1'.mp z))]; exact no
  rw [if_pos (e1'.mpr q1), if_pos (e1'.mpr q1), show f_X3_ofMan L (zn m) 1 = some (zn (pD_me D m 1)) from pc_ofMan (k := 1) hv hc h1 (by omega), ob_eq, pc_allMiles hv hc hK h1 hMv', ob_eq, pm_isIn, ob_eq]
  obtain ⟨w5, w6, w7⟩ := v5 (by omega)
  have w8 : pF_o F m 6 ≤ 270 := by
    have := hv.far v4 (v3 w5).1
    omega
  have hp := (hv.me h1).2.2.2.1
  unfold f_X10_track
  rw [t2]
  by_cases q2 : n < 2
  · have z : zn n < (2 : Int32) := by show zn n < zn 2; rw [zn_lt (by omega) (by omega)]; exact q2
    rw [if_pos z, ob_eq, if_pos (Or.inl z), if_pos rfl]; exact no
  have z2 : ¬ zn n < (2 : Int32) := by show ¬ zn n < zn 2; rw [zn_lt (by omega) (by omega)]; exact q2
  by_cases q3 : 20 < n
  · have z : (20 : Int32) < zn n := by show zn 20 < zn n; rw [zn_lt (by omega) (by omega)]; exact q3
    rw [if_neg z2, if_pos z, ob_eq, if_pos (Or.inr z), if_pos rfl]; exact no
  have z3 : ¬ (20 : Int32) < zn n := by show ¬ zn 20 < zn n; rw [zn_lt (by omega) (by omega)]; exact q3
  rw [if_neg z2, if_neg z3, if_neg (show ¬ (zn n < (2 : Int32) ∨ (20 : Int32) < zn n) from fun z => z.elim z2 z3), if_neg n10, show (480 : Int32) + zn m = zn (480 + m) from zn_add 480 m, zb_zn (by omega) (by omega), if_pos rfl, zn_nat (by omega), hF'.g6 h1]
  obtain ⟨s, hs⟩ : ∃ s : Nat → Nat, ∀ i, i < n → Rd_tape R i = pByt (s i) ∧ Mo_tape N i = zn (s i) ∧ s i < 256 := by
    refine ⟨fun i => if h : i < n then Classical.choose (t4 i h) else 0, fun i hi => ?_⟩
    simp only [dif_pos hi]
    obtain ⟨c1, c2, c3⟩ := Classical.choose_spec (t4 i hi)
    exact ⟨c3, by rw [tp]; exact c2, c1⟩
  rcases q_seen (M := N) (R := R) hs (by omega) w8 (zn m) (zn (pD_me D m 1)) n (k := 0) (f1 := zFU) (f2 := zFU) (S := S) (by omega) (zFU_ge (by omega)) (zFU_ge (by omega)) (fun i hi => by omega) with ⟨S', g1, g2, g3, g4⟩ | ⟨S', g1, g2, g3, g4, g5, g6⟩
  · rw [show (0 : Int32) = zn 0 from rfl, g1, g2, ob_eq]
    exact ⟨-1, S', _, _, rfl, by rw [pTL_self], g3.trans hl', g4.trans hg'⟩
  · have hsn : ∀ i, i < n → Tr_seen S' i = zn (s i) ∧ s i < 256 := fun i hi => ⟨(g3 i hi).1, (hs i hi).2.2⟩
    have hsg : ∀ i, i < n → s i ≤ pF_o F m 6 := fun i hi => (g3 i hi).2
    obtain ⟨S2, k1, k2, k3, k4⟩ := pc_track79 (s := s) (p := pD_me D m 1) (n := n) (R := R) (by omega) (by omega) (by omega) w8 hsg (n - 1) (k := 0) (fu := zFU) (S := S') (by omega) (zFU_ge (by omega)) hsn (fun a ha => by
      show Tr_marks S' a = zB (decide (a ≤ pF_o F m 6) && false)
      rw [g4 a ha, Bool.and_false]; rfl)
    have tl := pc_tell (g := pF_o F m 6) w8 (f := fun a => pAny (pTu s (pD_me D m 1) n a) (n - 1) 0) (S := S2) (fun a ha => by
      rw [k4 a (by omega)]
      show zB (decide (a ≤ pF_o F m 6) && pAny (pTu s (pD_me D m 1) n a) (n - 1) 0) = _
      rw [decide_eq_true ha, Bool.true_and]) (pF_o F m 6 + 1) (a := 0) (fu := zFU) 0 0 0 (by omega) (zFU_ge (by omega)) (by omega) (by omega)
    have tl' : f_X10_tell S2 (zn (pF_o F m 6)) = _ := tl
    have mo := pm_turned89 (M := N) (s := s) (p := pD_me D m 1) (n := n) (fun i hi => ⟨(hs i hi).2.1, (hs i hi).2.2⟩) (by omega) (by omega) (by omega) (m := m) (by omega) (hm'.2.2.2.1 m h1).2.1 w8 (Mo_turnedLeast N) (Mo_turnedGreatest N) (pF_o F m 6 + 1) (a := 0) (fu := zFU) 0 0 0 (by omega) (zFU_ge (by omega)) (by omega)
    rw [if_pos rfl, if_pos rfl, pTL_self] at mo
    have k1' : f_X10_track_L79 R zFU S' (zn (pD_me D m 1)) (zn (pF_o F m 6)) (zn n) 0 = _ := k1
    have mo' : f_X12_turned_L89 zFU N (zn m) (zn n) (zn (pF_o F m 6)) 0 0 = _ := mo
    have g1' : f_X10_track_L24 R zFU S (zn (pD_me D m 1)) (zn (pF_o F m 6)) (zn n) 0 = _ := g1
    have g2' : f_X12_turned_L58 zFU N (zn m) (zn n) (zn (pF_o F m 6)) 0 = _ := g2
    rw [g1', k1', tl', g2', mo', ob_eq, ob_eq]
    refine ⟨_, _, _, _, rfl, rfl, ?_, ?_⟩
    · split
      · exact k2.trans (g5.trans hl')
      · rfl
    · split
      · exact k3.trans (g6.trans hg')
      · rfl
end
