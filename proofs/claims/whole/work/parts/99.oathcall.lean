theorem pX_0 (M : MoT) (n : Int32) : Mo_s_texts M n = pX M (Mo_text M) n := by simp only [pX, Mo_s_texts, Mo_s_text, Mo_text]
theorem pX_now (M : MoT) (t : Nat → Int32) (n : Int32) : Mo_now (pX M t n) = Mo_now M := by unfold pX Mo_now Mo_s_texts Mo_s_text; rfl
theorem pX_name (M : MoT) (t : Nat → Int32) (n : Int32) : Mo_name (pX M t n) = Mo_name M := by unfold pX Mo_name Mo_s_texts Mo_s_text; rfl
theorem pTm.now {A : List Nat} {M M' : MoT} (h : pTm A M M') : Mo_now M' = Mo_now M := by obtain ⟨-, t, e, -⟩ := h; rw [e, pX_now]
theorem pTm.name {A : List Nat} {M M' : MoT} (h : pTm A M M') : Mo_name M' = Mo_name M := by obtain ⟨-, t, e, -⟩ := h; rw [e, pX_name]
theorem pTm.nil (M : MoT) : pTm [] M (Mo_s_texts M 0) := ⟨Nat.zero_le _, Mo_text M, pX_0 M 0, fun i hi => absurd hi (Nat.not_lt_zero _)⟩
theorem pTc.nil (S : ScT) : pTc [] (Sc_s_length S 0) := ⟨Nat.zero_le _, rfl, fun i hi => absurd hi (Nat.not_lt_zero _)⟩
theorem pText_of {A : List Nat} {S : ScT} {M M' : MoT} (h1 : pTc A S) (h2 : pTm A M M') : pText S M' ∧ Sc_length S = Mo_texts M' ∧ ∃ t n, M' = pX M t n := by
  obtain ⟨a1, a2, a3⟩ := h1
  obtain ⟨b1, t, b2, b3⟩ := h2
  refine ⟨⟨A.length, a1, a2, by rw [b2, pX_texts], fun i hi => ?_⟩, by rw [a2, b2, pX_texts], t, _, b2⟩
  rw [b2, pX_text, a3 i hi, b3 i hi]
theorem pm_in : f_X12_spelt 105 110 0 0 0 0 = some (zq (pcv 7 302)) := by decide +kernel
theorem pv_in : pvl 7 302 ∧ (302 : Nat) ≠ 0 := ⟨pvb_of _ _ (by decide +kernel), by decide⟩
theorem pl_in : pLs 7 302 = [105, 110] := by decide +kernel
theorem pl_to : pLs 7 (pKy (pSg 22)) = [116, 111] ∧ pLs 7 (pKy (pSg 17)) = [119, 97, 105, 116, 115] ∧ pLs 7 (pKy (pSg 18)) = [115, 97, 105, 108, 101, 100] ∧ pLs 7 (pKy (pSg 19)) = [111, 117, 116, 108, 97, 119] ∧ pLs 7 (pKy (pSg 20)) = [115, 108, 97, 105, 110] := by decide +kernel
theorem pv_w {j : Nat} (hj : j < 28) : pvl 7 (pKy (pSg j)) ∧ pKy (pSg j) ≠ 0 := pKy_v (pSg_lt hj)
section
variable {D : pD} {L : LdT} {M : MoT} {F : pF} {K : FkT} {S : ScT}
/-- one word behind the name -/
theorem q_oathWord {A : List Nat} {M0 M1 : MoT} {S1 : ScT} (hc : pTc A S1) (hm : pTm A M0 M1) (hl : A.length ≤ 7) {j c : Nat} (hj : j < 28) (hc1 : 1 ≤ c) (hc8 : c < 8) (hw : pWds c = [32] ++ pLs 7 (pKy (pSg j))) :
    ∃ S' M', (f_X8_words c S1).bind (fun q => some (Sc_length q, q)) = some (Sc_length S', S') ∧ (f_X12_wordOf (zn j)).bind (fun q12 => (f_X12_writeNext M1 q12).bind fun q => some (Mo_texts q, q)) = some (Sc_length S', M') ∧ pText S' M' ∧ ∃ t n, M' = pX M0 t n := by
  obtain ⟨S', a1, a2⟩ := pc_words hc1 hc8 hc (by omega)
  obtain ⟨M', b1, b2⟩ := pm_nextWord (pv_w hj) hm (by omega)
  rw [List.append_assoc, ← hw] at b2
  obtain ⟨p1, p2, p3⟩ := pText_of a2 b2
  refine ⟨S', M', by rw [a1, ob_eq], ?_, p1, p3⟩
  rw [pm_wordOf hj, ob_eq, b1, ob_eq, p2]
theorem q_oath (hv : pV D) (hc : pLc D L) (hm : pLm D (Mo_now M)) (hK : pFc D F K) (hF : pFm D F (Mo_now M)) (hV : pFv D F) (hN : pNn D L (Mo_name M)) (hT : pText S M) (X : XxT) (x1 : Int32) :
    ∃ r S' M', f_X11_oath X L S K x1 = some (r, S') ∧ f_X12_oath M x1 = some (r, M') ∧ pText S' M' ∧ (M' = Mo_s_thrown M 0 ∨ ∃ t n, M' = pX (Mo_s_thrown M 0) t n) := by
  have hnp := hv.np
  have hnm := hv.nm
  unfold f_X11_oath f_X12_oath
  rw [zl_eq]
  have hm' : pLm D (Mo_now (Mo_s_thrown M 0)) := hm
  rcases zn_lim x1 (pD_nm D) (by omega) with h1 | ⟨m, rfl, h1⟩
  · rw [pc_hasMan0 hc h1, ob_eq, pm_isMan0 hv hm' h1, ob_eq, if_pos rfl, if_pos rfl]
    exact ⟨-1, S, _, rfl, rfl, hT, Or.inl rfl⟩
  rw [pc_hasMan1 hv hc h1, ob_eq, pm_isMan1 hv hm' h1, ob_eq, if_neg n10, if_neg n10, zl_eq]
  have nm : Mo_name (Mo_s_thrown M 0) = Mo_name M := rfl
  have nw : Mo_now (Mo_s_thrown M 0) = Mo_now M := rfl
  have hF' : pFm D F (Mo_now (Mo_s_thrown M 0)) := hF
  generalize hM0 : Mo_s_thrown M 0 = M0 at nm nw hF' ⊢
  obtain ⟨x, x1, x2, x3⟩ := hN.2 m h1
  obtain ⟨S1, s1, s2⟩ := pc_name x1.1 (pTc.nil S) (by show 0 + 7 ≤ 32; omega)
  obtain ⟨M1, m1, m2⟩ := pm_word x1 (pTm.nil M0) (by show 0 + 7 ≤ 64; omega)
  rw [List.nil_append] at s2 m2
  have ll := pLs_len 7 x
  have n1 : Mo_name (Mo_s_texts M0 0) = Mo_name M0 := (pTm.nil M0).name
  have w1 : Mo_now M1 = Mo_now M0 := m2.now
  have hMv := hV.2 m h1
  obtain ⟨⟨v0, -, -, -⟩, ⟨v4, -⟩, v3, v5, -, v6, -⟩ := hMv
  unfold f_X8_write
  rw [zl_eq, pr_nameOfMan L (show m < 6 by omega), ob_eq, x2, s1, ob_eq, pc_of0 hv hK h1, ob_eq]
  rw [show (10 : Int32) + zn m = zn (10 + m) from zn_add 10 m, zb_zn (by omega) (by omega), if_pos rfl, zn_nat (by omega), n1, nm, x3, m1, ob_eq, show (444 : Int32) + zn m = zn (444 + m) from zn_add 444 m, zb_zn (by omega) (by omega), if_pos rfl, zn_nat (by omega), w1, hF'.g0 h1]
  have e0 : ∀ c, c < 6 → (zn (pF_o F m 0) = zn c) = (pF_o F m 0 = c) := fun c hc => zn_eq (by omega) (by omega)
  have e0' : (zn (pF_o F m 0) = (0 : Int32)) = (pF_o F m 0 = 0) := e0 0 (by omega)
  have e1' : (zn (pF_o F m 0) = (1 : Int32)) = (pF_o F m 0 = 1) := e0 1 (by omega)
  have e2' : (zn (pF_o F m 0) = (2 : Int32)) = (pF_o F m 0 = 2) := e0 2 (by omega)
  have e3' : (zn (pF_o F m 0) = (3 : Int32)) = (pF_o F m 0 = 3) := e0 3 (by omega)
  have e4' : (zn (pF_o F m 0) = (4 : Int32)) = (pF_o F m 0 = 4) := e0 4 (by omega)
  by_cases q0 : pF_o F m 0 = 0
  · rw [if_pos (e0'.mpr q0), if_pos (e0'.mpr q0)]
    obtain ⟨S2, s3, s4⟩ := pc_words (j := 1) (by omega) (by omega) s2 (by omega)
    obtain ⟨y, y1, y2, y3⟩ := hN.1 (pF_o F m 4) v4
    have l4 : (pLs 7 x ++ pWds 1).length = (pLs 7 x).length + 4 := List.length_append
    obtain ⟨S3, s5, s6⟩ := pc_name y1.1 s4 (by omega)
    obtain ⟨M2, m3, m4⟩ := pm_nextWord pv_in m2 (by omega)
    rw [pl_in] at m4
    have l5 : (pLs 7 x ++ [32] ++ [105, 110]).length = (pLs 7 x).length + 3 := by rw [List.length_append, List.length_append]; rfl
    obtain ⟨M3, m5, m6⟩ := pm_nextWord y1 m4 (by omega)
    have el : pLs 7 x ++ pWds 1 ++ pLs 7 y = pLs 7 x ++ [32] ++ [105, 110] ++ [32] ++ pLs 7 y := by
      rw [show pWds 1 = [32] ++ ([105, 110] ++ [32]) from rfl]; simp only [List.append_assoc]
    rw [← el] at m6
    obtain ⟨p1, p2, p3⟩ := pText_of s6 m6
    rw [s3, ob_eq, pc_of4 hv hK h1, ob_eq, pr_nameOfPlace L (show pF_o F m 4 < 10 by omega), ob_eq, y2, s5, ob_eq, ob_eq]
    rw [pm_in, ob_eq, m3, ob_eq, show (468 : Int32) + zn m = zn (468 + m) from zn_add 468 m, zb_zn (by omega) (by omega), if_pos rfl, zn_nat (show 468 + m < 2147483648 by omega), m4.now, hF'.g4 h1, zb_zn (by omega) (by omega), if_pos rfl, zn_nat (show pF_o F m 4 < 2147483648 by omega), m4.name, nm, y3, m5, ob_eq]
    exact ⟨_, S3, M3, rfl, by rw [p2], p1, Or.inr p3⟩
  rw [if_neg (fun z => q0 (e0'.mp z)), if_neg (fun z => q0 (e0'.mp z))]
  by_cases q1 : pF_o F m 0 = 1
  · rw [if_pos (e1'.mpr q1), if_pos (e1'.mpr q1)]
    obtain ⟨w5, -, -⟩ := v5 (by omega)
    obtain ⟨w6, w7, w8, -, -⟩ := v6 q1
    obtain ⟨v7, -⟩ := v3 w5
    obtain ⟨g, hg⟩ : ∃ g, pF_o F m 3 = g + 1 := ⟨pF_o F m 3 - 1, by omega⟩
    have hgn : g < pD_np D := by omega
    have zg : zo (pF_o F m 3) = zn g := by rw [hg]; rfl
    obtain ⟨S2, s3, s4⟩ := pc_words (j := 2) (by omega) (by omega) s2 (by omega)
    obtain ⟨y, y1, y2, y3⟩ := hN.1 g hgn
    have ly := pLs_len 7 y
    have l4 : (pLs 7 x ++ pWds 2).length = (pLs 7 x).length + 4 := List.length_append
    obtain ⟨S3, s5, s6⟩ := pc_name y1.1 s4 (by omega)
    have l6 : (pLs 7 x ++ pWds 2 ++ pLs 7 y).length = (pLs 7 x).length + 4 + (pLs 7 y).length := by rw [List.length_append, l4]
    obtain ⟨S4, s7, s8⟩ := pc_words (j := 3) (by omega) (by omega) s6 (by omega)
    have l8 : (pLs 7 x ++ pWds 2 ++ pLs 7 y ++ pWds 3).length = (pLs 7 x).length + 4 + (pLs 7 y).length + 1 := by rw [List.length_append, l6]; rfl
    obtain ⟨S5, s9, s10⟩ := pc_digits (n := pF_o F m 7) (by omega) s8 (by omega)
    obtain ⟨M2, m3, m4⟩ := pm_nextWord (pv_w (j := 22) (by omega)) m2 (by omega)
    rw [pl_to.1] at m4
    have l5 : (pLs 7 x ++ [32] ++ [116, 111]).length = (pLs 7 x).length + 3 := by rw [List.length_append, List.length_append]; rfl
    obtain ⟨M3, m5, m6⟩ := pm_nextWord y1 m4 (by omega)
    have l7 : (pLs 7 x ++ [32] ++ [116, 111] ++ [32] ++ pLs 7 y).length = (pLs 7 x).length + 4 + (pLs 7 y).length := by rw [List.length_append, List.length_append, l5]; rfl
    obtain ⟨M4, m7, m8⟩ := pm_write m6 (by omega) 32
    obtain ⟨M5, m9, m10⟩ := pm_digits (n := pF_o F m 7) (by omega) m8 (by rw [List.length_append, l7, List.length_singleton]; omega)
    have el : pLs 7 x ++ pWds 2 ++ pLs 7 y ++ pWds 3 ++ pDg (pF_o F m 7) = pLs 7 x ++ [32] ++ [116, 111] ++ [32] ++ pLs 7 y ++ [32] ++ pDg (pF_o F m 7) := by
      rw [show pWds 2 = [32] ++ ([116, 111] ++ [32]) from rfl, show pWds 3 = [32] from rfl]; simp only [List.append_assoc]
    rw [← el] at m10
    obtain ⟨p1, p2, p3⟩ := pText_of s10 m10
    rw [s3, ob_eq, pc_of3 hv hK h1, zg, ob_eq, pr_nameOfPlace L (show g < 10 by omega), ob_eq, y2, s5, ob_eq, s7, ob_eq, pc_daysYet hv hK h1 v0, ob_eq, if_pos q1, s9, ob_eq, ob_eq]
    rw [show f_X12_wordOf 22 = some (zq (pcv 7 (pKy (pSg 22)))) from pm_wordOf (j := 22) (by omega), ob_eq, m3, ob_eq, show (462 : Int32) + zn m = zn (462 + m) from zn_add 462 m, zb_zn (by omega) (by omega), if_pos rfl, zn_nat (show 462 + m < 2147483648 by omega), m4.now, hF'.g3 h1, zg, zb_zn (by omega) (by omega), if_pos rfl, zn_nat (show g < 2147483648 by omega), m4.name, nm, y3, m5, ob_eq, show f_X12_write M3 32 = some M4 from m7, ob_eq, show (486 : Int32) + zn m = zn (486 + m) from zn_add 486 m, zb_zn (by omega) (by omega), if_pos rfl, zn_nat (show 486 + m < 2147483648 by omega), m8.now, hF'.g7 h1, m9, ob_eq]
    exact ⟨_, S5, M5, rfl, by rw [p2], p1, Or.inr p3⟩
  rw [if_neg (fun z => q1 (e1'.mp z)), if_neg (fun z => q1 (e1'.mp z))]
  by_cases q2 : pF_o F m 0 = 2
  · rw [if_pos (e2'.mpr q2), if_pos (e2'.mpr q2)]
    obtain ⟨S', M', g1, g2, g3, g4⟩ := q_oathWord s2 m2 ll (j := 17) (c := 4) (by omega) (by omega) (by omega) (by rw [pl_to.2.1]; rfl)
    have g2' : (f_X12_wordOf 17).bind (fun q12 => (f_X12_writeNext M1 q12).bind fun q => some (Mo_texts q, q)) = some (Sc_length S', M') := g2
    rw [g1, g2', ob_eq]
    exact ⟨_, S', M', rfl, rfl, g3, Or.inr g4⟩
  rw [if_neg (fun z => q2 (e2'.mp z)), if_neg (fun z => q2 (e2'.mp z))]
  by_cases q3 : pF_o F m 0 = 3
  · rw [if_pos (e3'.mpr q3), if_pos (e3'.mpr q3)]
    obtain ⟨S', M', g1, g2, g3, g4⟩ := q_oathWord s2 m2 ll (j := 18) (c := 5) (by omega) (by omega) (by omega) (by rw [pl_to.2.2.1]; rfl)
    have g2' : (f_X12_wordOf 18).bind (fun q12 => (f_X12_writeNext M1 q12).bind fun q => some (Mo_texts q, q)) = some (Sc_length S', M') := g2
    rw [g1, g2', ob_eq]
    exact ⟨_, S', M', rfl, rfl, g3, Or.inr g4⟩
  rw [if_neg (fun z => q3 (e3'.mp z)), if_neg (fun z => q3 (e3'.mp z))]
  simp only [if_true]
  unfold f_X12_oath_b206
  by_cases q4 : pF_o F m 0 = 4
  · rw [if_pos (e4'.mpr q4), if_pos (e4'.mpr q4)]
    obtain ⟨S', M', g1, g2, g3, g4⟩ := q_oathWord s2 m2 ll (j := 19) (c := 6) (by omega) (by omega) (by omega) (by rw [pl_to.2.2.2.1]; rfl)
    have g2' : (f_X12_wordOf 19).bind (fun q12 => (f_X12_writeNext M1 q12).bind fun q => some (Mo_texts q, q)) = some (Sc_length S', M') := g2
    rw [g1, g2', ob_eq]
    exact ⟨_, S', M', rfl, rfl, g3, Or.inr g4⟩
  rw [if_neg (fun z => q4 (e4'.mp z)), if_neg (fun z => q4 (e4'.mp z))]
  obtain ⟨S', M', g1, g2, g3, g4⟩ := q_oathWord s2 m2 ll (j := 20) (c := 7) (by omega) (by omega) (by omega) (by rw [pl_to.2.2.2.2]; rfl)
  have g2' : (f_X12_wordOf 20).bind (fun q12 => (f_X12_writeNext M1 q12).bind fun q => some (Mo_texts q, q)) = some (Sc_length S', M') := g2
  rw [g1, g2', ob_eq]
  exact ⟨_, S', M', rfl, rfl, g3, Or.inr g4⟩
end
