section
variable {D : pD} {L : LdT} {M : MoT} {F : pF} {K : FkT}
theorem n10 : ¬ (1 : Int32) = 0 := by decide
/-! promises 6 to 9 -/
theorem q_place (hv : pV D) (hc : pLc D L) (hm : pLm D (Mo_now M)) (hK : pFc D F K) (hF : pFm D F (Mo_now M)) (hV : pFv D F) (X : XxT) (x1 x2 : Int32) : ∃ r a b, f_X11_place X L K x1 x2 = some r ∧ f_X12_place M x1 x2 = some (r, pM (Mo_s_thrown M 0) (Mo_now M) (Mo_seed M) a b) := by
  have hm' : pLm D (Mo_now (Mo_s_thrown M 0)) := hm
  have hnp := hv.np
  have hnm := hv.nm
  unfold f_X11_place f_X12_place
  rw [zl_eq]
  rcases zn_lim x1 (pD_np D) (by omega) with h1 | ⟨p, rfl, h1⟩
  · rw [pc_hasPlace0 hc h1, ob_eq, pm_isPlace0 hv hm' h1, ob_eq, if_pos rfl, if_pos rfl]; exact ⟨_, Mo_roadThere M, Mo_placeThere M, rfl, rfl⟩
  rw [pc_hasPlace1 hv hc h1, ob_eq, pm_isPlace1 hv hm' h1, ob_eq, if_neg n10, if_neg n10]
  rcases zn_rng x2 0 4 (by omega) (by omega) with h2 | ⟨k, rfl, -, h3⟩
  · simp only [if_neg (show ¬ x2 = (0 : Int32) from zn_out h2 (k := 0) (by omega) (by omega) (by omega)), if_neg (show ¬ x2 = (1 : Int32) from zn_out h2 (k := 1) (by omega) (by omega) (by omega)), if_neg (show ¬ x2 = (2 : Int32) from zn_out h2 (k := 2) (by omega) (by omega) (by omega)), if_neg (show ¬ x2 = (3 : Int32) from zn_out h2 (k := 3) (by omega) (by omega) (by omega)), if_neg (show ¬ x2 = (4 : Int32) from zn_out h2 (k := 4) (by omega) (by omega) (by omega))]
    refine ⟨-1, Mo_roadThere M, Mo_placeThere M, ?_, rfl⟩
    rcases h2 with h2 | h2
    · rw [if_pos (show x2 < (0 : Int32) from h2)]
    · rw [if_pos (show (4 : Int32) < x2 from h2), ite_self]
  rw [if_neg (show ¬ zn k < (0 : Int32) by rw [zn_l0, zn_lt (by omega) (by omega)]; omega), if_neg (show ¬ (4 : Int32) < zn k by rw [zn_l4, zn_lt (by omega) (by omega)]; omega)]
  have hk : k = 0 ∨ k = 1 ∨ k = 2 ∨ k = 3 ∨ k = 4 := by omega
  have hpl := hm.2.1 p h1
  rcases hk with rfl | rfl | rfl | rfl | rfl
  · rw [if_neg (show ¬ zn 0 = (4 : Int32) by decide), pc_ofPlace hv hc h1 (k := 0) (by omega), ob_eq]
    refine ⟨_, Mo_roadThere M, Mo_placeThere M, rfl, ?_⟩
    simp (disch := omega) only [if_pos (show zn 0 = (0 : Int32) from rfl), zn_l4, zn_add, zb_zn, zn_nat, if_true]
    rw [show Mo_now (Mo_s_thrown M 0) (4 + p) = zn (pD_pl D p 0) from hpl.1]; rfl
  · rw [if_neg (show ¬ zn 1 = (4 : Int32) by decide), pc_ofPlace hv hc h1 (k := 1) (by omega), ob_eq]
    refine ⟨_, Mo_roadThere M, Mo_placeThere M, rfl, ?_⟩
    simp (disch := omega) only [if_neg (show ¬ zn 1 = (0 : Int32) by decide), if_pos (show zn 1 = (1 : Int32) from rfl), zn_l14, zn_add, zb_zn, zn_nat, if_true]
    rw [show Mo_now (Mo_s_thrown M 0) (14 + p) = zn (pD_pl D p 1) from hpl.2.1]; rfl
  · rw [if_neg (show ¬ zn 2 = (4 : Int32) by decide), pc_ofPlace hv hc h1 (k := 2) (by omega), ob_eq]
    refine ⟨_, Mo_roadThere M, Mo_placeThere M, rfl, ?_⟩
    simp (disch := omega) only [if_neg (show ¬ zn 2 = (0 : Int32) by decide), if_neg (show ¬ zn 2 = (1 : Int32) by decide), if_pos (show zn 2 = (2 : Int32) from rfl), zn_l24, zn_add, zb_zn, zn_nat, if_true]
    rw [show Mo_now (Mo_s_thrown M 0) (24 + p) = zn (pD_pl D p 2) from hpl.2.2.1]; rfl
  · rw [if_neg (show ¬ zn 3 = (4 : Int32) by decide), pc_ofPlace hv hc h1 (k := 3) (by omega), ob_eq]
    refine ⟨_, Mo_roadThere M, Mo_placeThere M, rfl, ?_⟩
    simp (disch := omega) only [if_neg (show ¬ zn 3 = (0 : Int32) by decide), if_neg (show ¬ zn 3 = (1 : Int32) by decide), if_neg (show ¬ zn 3 = (2 : Int32) by decide), if_pos (show zn 3 = (3 : Int32) from rfl), zn_l34, zn_add, zb_zn, zn_nat, if_true]
    rw [show Mo_now (Mo_s_thrown M 0) (34 + p) = zn (pD_pl D p 3) from hpl.2.2.2]; rfl
  · rw [if_pos (show zn 4 = (4 : Int32) from rfl), if_neg (show ¬ zn 4 = (0 : Int32) by decide), if_neg (show ¬ zn 4 = (1 : Int32) by decide), if_neg (show ¬ zn 4 = (2 : Int32) by decide), if_neg (show ¬ zn 4 = (3 : Int32) by decide), if_pos (show zn 4 = (4 : Int32) from rfl), hc.1.2.2.1]
    obtain ⟨r, a', b', i1, i2⟩ := q_at_loop hv hK (Mo_s_thrown M 0) hF hm hV (Mo_seed M) p (by omega) (pD_nm D) (k := 0) (fu := zFU) 0 (Mo_roadThere M) (Mo_placeThere M) (by omega) (zFU_ge (by omega))
    unfold f_X1_menAt
    rw [show f_X1_menAt_L5 K zFU (zn (pD_nm D)) (zn p) 0 0 = some r from i1, ob_eq]
    exact ⟨r, a', b', rfl, i2⟩
theorem q_road (hv : pV D) (hc : pLc D L) (hm : pLm D (Mo_now M)) (X : XxT) (x1 x2 x3 : Int32) : ∃ r, f_X11_road X L x1 x2 x3 = some r ∧ f_X12_road M x1 x2 x3 = some (r, Mo_s_thrown M 0) := by
  have hm' : pLm D (Mo_now (Mo_s_thrown M 0)) := hm
  have hnp := hv.np
  have hnr := hv.nr
  unfold f_X11_road f_X12_road
  rw [zl_eq]
  rcases zn_lim x1 (pD_np D) (by omega) with h1 | ⟨a, rfl, h1⟩
  · rw [pc_hasPlace0 hc h1, ob_eq, pm_isPlace0 hv hm' h1, ob_eq, if_pos rfl, if_pos rfl]; exact ⟨_, rfl, rfl⟩
  rw [pc_hasPlace1 hv hc h1, ob_eq, pm_isPlace1 hv hm' h1, ob_eq, if_neg n10, if_neg n10]
  rcases zn_lim x2 (pD_np D) (by omega) with h2 | ⟨b, rfl, h2⟩
  · rw [pc_hasPlace0 hc h2, ob_eq, pm_isPlace0 hv hm' h2, ob_eq, if_pos rfl, if_pos rfl]; exact ⟨_, rfl, rfl⟩
  rw [pc_hasPlace1 hv hc h2, ob_eq, pm_isPlace1 hv hm' h2, ob_eq, if_neg n10, if_neg n10, pm_roadOf hv hm' h1 h2, ob_eq, pc_roadBetween hv hc h1 h2, ob_eq, ob_eq]
  cases hr : pD_rd D a b with
  | zero =>
    rw [if_pos (show zo 0 = (-1 : Int32) from rfl), if_pos (show zo 0 = (-1 : Int32) from rfl), ite_self, ite_self]
    exact ⟨_, rfl, rfl⟩
  | succ r =>
    obtain ⟨hr1, -⟩ := hv.rd h1 h2 hr
    have e1 : ¬ zo (r + 1) = (-1 : Int32) := by show ¬ zn r = zm; rw [zm_eq (by omega)]; exact id
    rw [if_neg e1, if_neg e1, show zo (r + 1) = zn r from rfl]
    have hro := hm.2.2.1 r hr1
    rcases zn_rng x3 0 2 (by omega) (by omega) with h3 | ⟨k, rfl, -, h4⟩
    · rw [if_neg (show ¬ x3 = (0 : Int32) from zn_out h3 (k := 0) (by omega) (by omega) (by omega)), if_neg (show ¬ x3 = (1 : Int32) from zn_out h3 (k := 1) (by omega) (by omega) (by omega)), if_neg (show ¬ x3 = (2 : Int32) from zn_out h3 (k := 2) (by omega) (by omega) (by omega))]
      refine ⟨-1, ?_, rfl⟩
      rcases h3 with h3 | h3
      · rw [if_pos (show x3 < (0 : Int32) from h3)]
      · rw [if_pos (show (2 : Int32) < x3 from h3), ite_self]
    · rw [if_neg (show ¬ zn k < (0 : Int32) by rw [zn_l0, zn_lt (by omega) (by omega)]; omega), if_neg (show ¬ (2 : Int32) < zn k by rw [zn_l2, zn_lt (by omega) (by omega)]; omega), show (2 : Int32) + zn k = zn (2 + k) from zn_add 2 k, pc_ofRoad hv hc hr1 (by omega), ob_eq]
      have hk : k = 0 ∨ k = 1 ∨ k = 2 := by omega
      refine ⟨_, rfl, ?_⟩
      rcases hk with rfl | rfl | rfl
      · simp (disch := omega) only [if_pos (show zn 0 = (0 : Int32) from rfl), zn_l144, zn_add, zb_zn, zn_nat, if_true]
        rw [show Mo_now (Mo_s_thrown M 0) (144 + r) = zn (pD_ro D r 2) from hro.2.2.1]
      · simp (disch := omega) only [if_neg (show ¬ zn 1 = (0 : Int32) by decide), if_pos (show zn 1 = (1 : Int32) from rfl), zn_l160, zn_add, zb_zn, zn_nat, if_true]
        rw [show Mo_now (Mo_s_thrown M 0) (160 + r) = zn (pD_ro D r 3) from hro.2.2.2.1]
      · simp (disch := omega) only [if_neg (show ¬ zn 2 = (0 : Int32) by decide), if_neg (show ¬ zn 2 = (1 : Int32) by decide), if_pos (show zn 2 = (2 : Int32) from rfl), zn_l176, zn_add, zb_zn, zn_nat, if_true]
        rw [show Mo_now (Mo_s_thrown M 0) (176 + r) = zn (pD_ro D r 4) from hro.2.2.2.2]
theorem pc_daysYet (hv : pV D) (hK : pFc D F K) {m : Nat} (hm : m < pD_nm D) (h0 : pF_o F m 0 ≤ 5) : f_X1_daysYet K (zn m) = some (if pF_o F m 0 = 1 then zn (pF_o F m 7) else 0) := by
  unfold f_X1_daysYet
  rw [show f_X1_of K (zn m) 0 = some (zn (pF_o F m 0)) from pc_of0 hv hK hm, ob_eq]
  simp (disch := omega) only [zn_eq1]
  by_cases q : pF_o F m 0 = 1
  · rw [if_pos q, if_pos q, pc_of6 hv hK hm, ob_eq]
  · rw [if_neg q, if_neg q]
theorem pm_daysOf (hv : pV D) (hF : pFm D F (Mo_now M)) {m : Nat} (hm : m < pD_nm D) (h0 : pF_o F m 0 ≤ 5) : f_X12_daysOf M (zn m) = some (if pF_o F m 0 = 1 then zn (pF_o F m 7) else 0) := by
  have hm6 := Nat.lt_of_lt_of_le hm hv.nm
  unfold f_X12_daysOf
  simp (disch := omega) only [zn_l444, zn_l486, zn_add, zb_zn, zn_nat, if_true, hF.g0 hm, hF.g7 hm, zn_eq1]
  split <;> rfl
theorem q_man (hv : pV D) (hc : pLc D L) (hm : pLm D (Mo_now M)) (hK : pFc D F K) (hF : pFm D F (Mo_now M)) (hV : pFv D F) (X : XxT) (x1 x2 : Int32) : (f_X11_man X L K x1 x2 = some none ∧ f_X12_man M x1 x2 = some (0, Mo_s_thrown M 1)) ∨ ∃ r, f_X11_man X L K x1 x2 = some (some r) ∧ f_X12_man M x1 x2 = some (r, Mo_s_thrown M 0) := by
  have hm' : pLm D (Mo_now (Mo_s_thrown M 0)) := hm
  have hF' : pFm D F (Mo_now (Mo_s_thrown M 0)) := hF
  have hnm := hv.nm
  unfold f_X11_man f_X12_man f_X11_man_b21
  rw [zl_eq]
  rcases zn_lim x1 (pD_nm D) (by omega) with h1 | ⟨m, rfl, h1⟩
  · rw [pc_hasMan0 hc h1, ob_eq, pm_isMan0 hv hm' h1, ob_eq, if_pos rfl, if_pos rfl]; exact Or.inl ⟨rfl, rfl⟩
  rw [pc_hasMan1 hv hc h1, ob_eq, pm_isMan1 hv hm' h1, ob_eq, if_neg n10, if_neg n10]
  have hMv := hV.2 m h1
  rcases zn_rng x2 0 13 (by omega) (by omega) with h2 | ⟨k, rfl, -, h3⟩
  · left
    constructor
    · rcases h2 with h2 | h2
      · rw [if_pos (show x2 < (0 : Int32) from h2)]
      · rw [if_pos (show (13 : Int32) < x2 from h2), ite_self]
    · rw [if_neg (show ¬ x2 = (0 : Int32) from zn_out h2 (k := 0) (by omega) (by omega) (by omega)), if_neg (show ¬ x2 = (1 : Int32) from zn_out h2 (k := 1) (by omega) (by omega) (by omega)), if_neg (show ¬ x2 = (2 : Int32) from zn_out h2 (k := 2) (by omega) (by omega) (by omega)), if_neg (show ¬ x2 = (3 : Int32) from zn_out h2 (k := 3) (by omega) (by omega) (by omega)), if_neg (show ¬ x2 = (4 : Int32) from zn_out h2 (k := 4) (by omega) (by omega) (by omega)), if_neg (show ¬ x2 = (5 : Int32) from zn_out h2 (k := 5) (by omega) (by omega) (by omega)), if_neg (show ¬ x2 = (6 : Int32) from zn_out h2 (k := 6) (by omega) (by omega) (by omega)), if_neg (show ¬ x2 = (7 : Int32) from zn_out h2 (k := 7) (by omega) (by omega) (by omega)), if_neg (show ¬ x2 = (8 : Int32) from zn_out h2 (k := 8) (by omega) (by omega) (by omega)), if_neg (show ¬ x2 = (9 : Int32) from zn_out h2 (k := 9) (by omega) (by omega) (by omega)), if_neg (show ¬ x2 = (10 : Int32) from zn_out h2 (k := 10) (by omega) (by omega) (by omega)), if_neg (show ¬ x2 = (11 : Int32) from zn_out h2 (k := 11) (by omega) (by omega) (by omega)), if_neg (show ¬ x2 = (12 : Int32) from zn_out h2 (k := 12) (by omega) (by omega) (by omega)), if_neg (show ¬ x2 = (13 : Int32) from zn_out h2 (k := 13) (by omega) (by omega) (by omega))]; rfl
  right
  rw [if_neg (show ¬ zn k < (0 : Int32) by rw [zn_l0, zn_lt (by omega) (by omega)]; omega), if_neg (show ¬ (13 : Int32) < zn k by rw [zn_l13, zn_lt (by omega) (by omega)]; omega)]
  have hk : k = 0 ∨ k = 1 ∨ k = 2 ∨ k = 3 ∨ k = 4 ∨ k = 5 ∨ k = 6 ∨ k = 7 ∨ k = 8 ∨ k = 9 ∨ k = 10 ∨ k = 11 ∨ k = 12 ∨ k = 13 := by omega
  rcases hk with rfl | rfl | rfl | rfl | rfl | rfl | rfl | rfl | rfl | rfl | rfl | rfl | rfl | rfl
  · refine ⟨zn (pF_o F m 0), ?_, ?_⟩
    · rw [if_pos (show zn 0 = (0 : Int32) from rfl)]
      rw [pc_of0 hv hK h1, ob_eq]
    · rw [if_pos (show zn 0 = (0 : Int32) from rfl)]
      simp (disch := omega) only [zn_l444, zn_add, zb_zn, zn_nat, if_true]
      rw [hF'.g0 h1]
  · refine ⟨zn (pD_me D m 1), ?_, ?_⟩
    · rw [if_neg (show ¬ zn 1 = (0 : Int32) by decide), if_pos (show zn 1 = (1 : Int32) from rfl)]
      rw [show f_X3_ofMan L (zn m) 1 = some (zn (pD_me D m 1)) from pc_ofMan hv hc h1 (k := 1) (by omega), ob_eq]
    · rw [if_neg (show ¬ zn 1 = (0 : Int32) by decide), if_pos (show zn 1 = (1 : Int32) from rfl)]
      simp (disch := omega) only [zn_l230, zn_add, zb_zn, zn_nat, if_true]
      rw [(hm'.2.2.2.1 m h1).2.1]
  · refine ⟨zn (pF_o F m 1), ?_, ?_⟩
    · rw [if_neg (show ¬ zn 2 = (0 : Int32) by decide), if_neg (show ¬ zn 2 = (1 : Int32) by decide), if_pos (show zn 2 = (2 : Int32) from rfl)]
      rw [pc_of1 hv hK h1, ob_eq]
    · rw [if_neg (show ¬ zn 2 = (0 : Int32) by decide), if_neg (show ¬ zn 2 = (1 : Int32) by decide), if_pos (show zn 2 = (2 : Int32) from rfl)]
      simp (disch := omega) only [zn_l450, zn_add, zb_zn, zn_nat, if_true]
      rw [hF'.g1 h1]
  · refine ⟨zn (pD_me D m 3), ?_, ?_⟩
    · rw [if_neg (show ¬ zn 3 = (0 : Int32) by decide), if_neg (show ¬ zn 3 = (1 : Int32) by decide), if_neg (show ¬ zn 3 = (2 : Int32) by decide), if_pos (show zn 3 = (3 : Int32) from rfl)]
      rw [show f_X3_ofMan L (zn m) 3 = some (zn (pD_me D m 3)) from pc_ofMan hv hc h1 (k := 3) (by omega), ob_eq]
    · rw [if_neg (show ¬ zn 3 = (0 : Int32) by decide), if_neg (show ¬ zn 3 = (1 : Int32) by decide), if_neg (show ¬ zn 3 = (2 : Int32) by decide), if_pos (show zn 3 = (3 : Int32) from rfl)]
      rw [show Mo_now (Mo_s_thrown M 0) (242 : Int32).toNatClampNeg = Mo_now (Mo_s_thrown M 0) 242 from rfl, pm_kin hv hm' h1, ob_eq]
      have h3 := (hv.me h1).2.2.2.2.2
      by_cases q : pD_me D m 3 = 1
      · rw [if_pos q, if_neg n10, q]; rfl
      · have q0 : pD_me D m 3 = 0 := by omega
        rw [if_neg q, if_pos rfl, q0]; rfl
  · refine ⟨zn (pF_o F m 2), ?_, ?_⟩
    · rw [if_neg (show ¬ zn 4 = (0 : Int32) by decide), if_neg (show ¬ zn 4 = (1 : Int32) by decide), if_neg (show ¬ zn 4 = (2 : Int32) by decide), if_neg (show ¬ zn 4 = (3 : Int32) by decide), if_pos (show zn 4 = (4 : Int32) from rfl)]
      rw [pc_of2 hv hK h1, ob_eq]
    · rw [if_neg (show ¬ zn 4 = (0 : Int32) by decide), if_neg (show ¬ zn 4 = (1 : Int32) by decide), if_neg (show ¬ zn 4 = (2 : Int32) by decide), if_neg (show ¬ zn 4 = (3 : Int32) by decide), if_pos (show zn 4 = (4 : Int32) from rfl)]
      simp (disch := omega) only [zn_l456, zn_add, zb_zn, zn_nat, if_true]
      rw [hF'.g2 h1]
  · refine ⟨zo (pF_o F m 3), ?_, ?_⟩
    · rw [if_neg (show ¬ zn 5 = (0 : Int32) by decide), if_neg (show ¬ zn 5 = (1 : Int32) by decide), if_neg (show ¬ zn 5 = (2 : Int32) by decide), if_neg (show ¬ zn 5 = (3 : Int32) by decide), if_neg (show ¬ zn 5 = (4 : Int32) by decide), if_pos (show zn 5 = (5 : Int32) from rfl)]
      rw [pc_of3 hv hK h1, ob_eq]
    · rw [if_neg (show ¬ zn 5 = (0 : Int32) by decide), if_neg (show ¬ zn 5 = (1 : Int32) by decide), if_neg (show ¬ zn 5 = (2 : Int32) by decide), if_neg (show ¬ zn 5 = (3 : Int32) by decide), if_neg (show ¬ zn 5 = (4 : Int32) by decide), if_pos (show zn 5 = (5 : Int32) from rfl)]
      simp (disch := omega) only [zn_l462, zn_add, zb_zn, zn_nat, if_true]
      rw [hF'.g3 h1]
  · refine ⟨zn (pF_o F m 4), ?_, ?_⟩
    · rw [if_neg (show ¬ zn 6 = (0 : Int32) by decide), if_neg (show ¬ zn 6 = (1 : Int32) by decide), if_neg (show ¬ zn 6 = (2 : Int32) by decide), if_neg (show ¬ zn 6 = (3 : Int32) by decide), if_neg (show ¬ zn 6 = (4 : Int32) by decide), if_neg (show ¬ zn 6 = (5 : Int32) by decide), if_pos (show zn 6 = (6 : Int32) from rfl)]
      rw [pc_of4 hv hK h1, ob_eq]
    · rw [if_neg (show ¬ zn 6 = (0 : Int32) by decide), if_neg (show ¬ zn 6 = (1 : Int32) by decide), if_neg (show ¬ zn 6 = (2 : Int32) by decide), if_neg (show ¬ zn 6 = (3 : Int32) by decide), if_neg (show ¬ zn 6 = (4 : Int32) by decide), if_neg (show ¬ zn 6 = (5 : Int32) by decide), if_pos (show zn 6 = (6 : Int32) from rfl)]
      simp (disch := omega) only [zn_l468, zn_add, zb_zn, zn_nat, if_true]
      rw [hF'.g4 h1]
  · refine ⟨zn (pF_o F m 5), ?_, ?_⟩
    · rw [if_neg (show ¬ zn 7 = (0 : Int32) by decide), if_neg (show ¬ zn 7 = (1 : Int32) by decide), if_neg (show ¬ zn 7 = (2 : Int32) by decide), if_neg (show ¬ zn 7 = (3 : Int32) by decide), if_neg (show ¬ zn 7 = (4 : Int32) by decide), if_neg (show ¬ zn 7 = (5 : Int32) by decide), if_neg (show ¬ zn 7 = (6 : Int32) by decide), if_pos (show zn 7 = (7 : Int32) from rfl)]
      rw [pc_of5 hv hK h1, ob_eq]
    · rw [if_neg (show ¬ zn 7 = (0 : Int32) by decide), if_neg (show ¬ zn 7 = (1 : Int32) by decide), if_neg (show ¬ zn 7 = (2 : Int32) by decide), if_neg (show ¬ zn 7 = (3 : Int32) by decide), if_neg (show ¬ zn 7 = (4 : Int32) by decide), if_neg (show ¬ zn 7 = (5 : Int32) by decide), if_neg (show ¬ zn 7 = (6 : Int32) by decide), if_pos (show zn 7 = (7 : Int32) from rfl)]
      simp (disch := omega) only [zn_l474, zn_add, zb_zn, zn_nat, if_true]
      rw [hF'.g5 h1]
  · refine ⟨zn (pF_o F m 6), ?_, ?_⟩
    · rw [if_neg (show ¬ zn 8 = (0 : Int32) by decide), if_neg (show ¬ zn 8 = (1 : Int32) by decide), if_neg (show ¬ zn 8 = (2 : Int32) by decide), if_neg (show ¬ zn 8 = (3 : Int32) by decide), if_neg (show ¬ zn 8 = (4 : Int32) by decide), if_neg (show ¬ zn 8 = (5 : Int32) by decide), if_neg (show ¬ zn 8 = (6 : Int32) by decide), if_neg (show ¬ zn 8 = (7 : Int32) by decide), if_pos (show zn 8 = (8 : Int32) from rfl)]
      rw [pc_allMiles hv hc hK h1 hMv, ob_eq]
    · rw [if_neg (show ¬ zn 8 = (0 : Int32) by decide), if_neg (show ¬ zn 8 = (1 : Int32) by decide), if_neg (show ¬ zn 8 = (2 : Int32) by decide), if_neg (show ¬ zn 8 = (3 : Int32) by decide), if_neg (show ¬ zn 8 = (4 : Int32) by decide), if_neg (show ¬ zn 8 = (5 : Int32) by decide), if_neg (show ¬ zn 8 = (6 : Int32) by decide), if_neg (show ¬ zn 8 = (7 : Int32) by decide), if_pos (show zn 8 = (8 : Int32) from rfl)]
      simp (disch := omega) only [zn_l480, zn_add, zb_zn, zn_nat, if_true]
      rw [hF'.g6 h1]
  · refine ⟨if pF_o F m 0 = 1 then zn (pF_o F m 7) else 0, ?_, ?_⟩
    rotate_left
    · rw [if_neg (show ¬ zn 9 = (0 : Int32) by decide), if_neg (show ¬ zn 9 = (1 : Int32) by decide), if_neg (show ¬ zn 9 = (2 : Int32) by decide), if_neg (show ¬ zn 9 = (3 : Int32) by decide), if_neg (show ¬ zn 9 = (4 : Int32) by decide), if_neg (show ¬ zn 9 = (5 : Int32) by decide), if_neg (show ¬ zn 9 = (6 : Int32) by decide), if_neg (show ¬ zn 9 = (7 : Int32) by decide), if_neg (show ¬ zn 9 = (8 : Int32) by decide), if_pos (show zn 9 = (9 : Int32) from rfl)]
      rw [pm_daysOf hv hF' h1 hMv.1.1, ob_eq]
    · rw [if_neg (show ¬ zn 9 = (0 : Int32) by decide), if_neg (show ¬ zn 9 = (1 : Int32) by decide), if_neg (show ¬ zn 9 = (2 : Int32) by decide), if_neg (show ¬ zn 9 = (3 : Int32) by decide), if_neg (show ¬ zn 9 = (4 : Int32) by decide), if_neg (show ¬ zn 9 = (5 : Int32) by decide), if_neg (show ¬ zn 9 = (6 : Int32) by decide), if_neg (show ¬ zn 9 = (7 : Int32) by decide), if_neg (show ¬ zn 9 = (8 : Int32) by decide), if_pos (show zn 9 = (9 : Int32) from rfl)]
      rw [pc_daysYet hv hK h1 hMv.1.1, ob_eq]
  · refine ⟨zn (pF_o F m 8), ?_, ?_⟩
    · rw [if_neg (show ¬ zn 10 = (0 : Int32) by decide), if_neg (show ¬ zn 10 = (1 : Int32) by decide), if_neg (show ¬ zn 10 = (2 : Int32) by decide), if_neg (show ¬ zn 10 = (3 : Int32) by decide), if_neg (show ¬ zn 10 = (4 : Int32) by decide), if_neg (show ¬ zn 10 = (5 : Int32) by decide), if_neg (show ¬ zn 10 = (6 : Int32) by decide), if_neg (show ¬ zn 10 = (7 : Int32) by decide), if_neg (show ¬ zn 10 = (8 : Int32) by decide), if_neg (show ¬ zn 10 = (9 : Int32) by decide), if_pos (show zn 10 = (10 : Int32) from rfl)]
      rw [pc_of7 hv hK h1, ob_eq]
    · rw [if_neg (show ¬ zn 10 = (0 : Int32) by decide), if_neg (show ¬ zn 10 = (1 : Int32) by decide), if_neg (show ¬ zn 10 = (2 : Int32) by decide), if_neg (show ¬ zn 10 = (3 : Int32) by decide), if_neg (show ¬ zn 10 = (4 : Int32) by decide), if_neg (show ¬ zn 10 = (5 : Int32) by decide), if_neg (show ¬ zn 10 = (6 : Int32) by decide), if_neg (show ¬ zn 10 = (7 : Int32) by decide), if_neg (show ¬ zn 10 = (8 : Int32) by decide), if_neg (show ¬ zn 10 = (9 : Int32) by decide), if_pos (show zn 10 = (10 : Int32) from rfl)]
      simp (disch := omega) only [zn_l492, zn_add, zb_zn, zn_nat, if_true]
      rw [hF'.g8 h1]
  · refine ⟨zn (pF_o F m 9), ?_, ?_⟩
    · rw [if_neg (show ¬ zn 11 = (0 : Int32) by decide), if_neg (show ¬ zn 11 = (1 : Int32) by decide), if_neg (show ¬ zn 11 = (2 : Int32) by decide), if_neg (show ¬ zn 11 = (3 : Int32) by decide), if_neg (show ¬ zn 11 = (4 : Int32) by decide), if_neg (show ¬ zn 11 = (5 : Int32) by decide), if_neg (show ¬ zn 11 = (6 : Int32) by decide), if_neg (show ¬ zn 11 = (7 : Int32) by decide), if_neg (show ¬ zn 11 = (8 : Int32) by decide), if_neg (show ¬ zn 11 = (9 : Int32) by decide), if_neg (show ¬ zn 11 = (10 : Int32) by decide), if_pos (show zn 11 = (11 : Int32) from rfl)]
      rw [pc_of8 hv hK h1, ob_eq]
    · rw [if_neg (show ¬ zn 11 = (0 : Int32) by decide), if_neg (show ¬ zn 11 = (1 : Int32) by decide), if_neg (show ¬ zn 11 = (2 : Int32) by decide), if_neg (show ¬ zn 11 = (3 : Int32) by decide), if_neg (show ¬ zn 11 = (4 : Int32) by decide), if_neg (show ¬ zn 11 = (5 : Int32) by decide), if_neg (show ¬ zn 11 = (6 : Int32) by decide), if_neg (show ¬ zn 11 = (7 : Int32) by decide), if_neg (show ¬ zn 11 = (8 : Int32) by decide), if_neg (show ¬ zn 11 = (9 : Int32) by decide), if_neg (show ¬ zn 11 = (10 : Int32) by decide), if_pos (show zn 11 = (11 : Int32) from rfl)]
      simp (disch := omega) only [zn_l498, zn_add, zb_zn, zn_nat, if_true]
      rw [hF'.g9 h1]
  · refine ⟨zn (pF_o F m 10), ?_, ?_⟩
    · rw [if_neg (show ¬ zn 12 = (0 : Int32) by decide), if_neg (show ¬ zn 12 = (1 : Int32) by decide), if_neg (show ¬ zn 12 = (2 : Int32) by decide), if_neg (show ¬ zn 12 = (3 : Int32) by decide), if_neg (show ¬ zn 12 = (4 : Int32) by decide), if_neg (show ¬ zn 12 = (5 : Int32) by decide), if_neg (show ¬ zn 12 = (6 : Int32) by decide), if_neg (show ¬ zn 12 = (7 : Int32) by decide), if_neg (show ¬ zn 12 = (8 : Int32) by decide), if_neg (show ¬ zn 12 = (9 : Int32) by decide), if_neg (show ¬ zn 12 = (10 : Int32) by decide), if_neg (show ¬ zn 12 = (11 : Int32) by decide), if_pos (show zn 12 = (12 : Int32) from rfl)]
      rw [pc_of9 hv hK h1, ob_eq]
    · rw [if_neg (show ¬ zn 12 = (0 : Int32) by decide), if_neg (show ¬ zn 12 = (1 : Int32) by decide), if_neg (show ¬ zn 12 = (2 : Int32) by decide), if_neg (show ¬ zn 12 = (3 : Int32) by decide), if_neg (show ¬ zn 12 = (4 : Int32) by decide), if_neg (show ¬ zn 12 = (5 : Int32) by decide), if_neg (show ¬ zn 12 = (6 : Int32) by decide), if_neg (show ¬ zn 12 = (7 : Int32) by decide), if_neg (show ¬ zn 12 = (8 : Int32) by decide), if_neg (show ¬ zn 12 = (9 : Int32) by decide), if_neg (show ¬ zn 12 = (10 : Int32) by decide), if_neg (show ¬ zn 12 = (11 : Int32) by decide), if_pos (show zn 12 = (12 : Int32) from rfl)]
      simp (disch := omega) only [zn_l504, zn_add, zb_zn, zn_nat, if_true]
      rw [hF'.g10 h1]
  · refine ⟨zn (pF_o F m 11), ?_, ?_⟩
    · rw [if_neg (show ¬ zn 13 = (0 : Int32) by decide), if_neg (show ¬ zn 13 = (1 : Int32) by decide), if_neg (show ¬ zn 13 = (2 : Int32) by decide), if_neg (show ¬ zn 13 = (3 : Int32) by decide), if_neg (show ¬ zn 13 = (4 : Int32) by decide), if_neg (show ¬ zn 13 = (5 : Int32) by decide), if_neg (show ¬ zn 13 = (6 : Int32) by decide), if_neg (show ¬ zn 13 = (7 : Int32) by decide), if_neg (show ¬ zn 13 = (8 : Int32) by decide), if_neg (show ¬ zn 13 = (9 : Int32) by decide), if_neg (show ¬ zn 13 = (10 : Int32) by decide), if_neg (show ¬ zn 13 = (11 : Int32) by decide), if_neg (show ¬ zn 13 = (12 : Int32) by decide)]
      rw [pc_of10 hv hK h1, ob_eq]
    · rw [if_neg (show ¬ zn 13 = (0 : Int32) by decide), if_neg (show ¬ zn 13 = (1 : Int32) by decide), if_neg (show ¬ zn 13 = (2 : Int32) by decide), if_neg (show ¬ zn 13 = (3 : Int32) by decide), if_neg (show ¬ zn 13 = (4 : Int32) by decide), if_neg (show ¬ zn 13 = (5 : Int32) by decide), if_neg (show ¬ zn 13 = (6 : Int32) by decide), if_neg (show ¬ zn 13 = (7 : Int32) by decide), if_neg (show ¬ zn 13 = (8 : Int32) by decide), if_neg (show ¬ zn 13 = (9 : Int32) by decide), if_neg (show ¬ zn 13 = (10 : Int32) by decide), if_neg (show ¬ zn 13 = (11 : Int32) by decide), if_neg (show ¬ zn 13 = (12 : Int32) by decide), if_pos (show zn 13 = (13 : Int32) from rfl)]
      simp (disch := omega) only [zn_l510, zn_add, zb_zn, zn_nat, if_true]
      rw [hF'.g11 h1]
theorem q_now (hv : pV D) (hc : pLc D L) (hm : pLm D (Mo_now M)) (hK : pFc D F K) (hF : pFm D F (Mo_now M)) (X : XxT) (x1 : Int32) : ∃ r, f_X11_now X K L x1 = some r ∧ f_X12_now M x1 = some (r, Mo_s_thrown M 0) := by
  unfold f_X11_now f_X12_now f_X11_now_b23
  rw [zl_eq]
  by_cases h0 : x1 = 0
  · rw [if_pos h0, if_pos h0]
    refine ⟨_, rfl, ?_⟩
    rw [show Mo_now (Mo_s_thrown M 0) (443 : Int32).toNatClampNeg = zn (pF_day F) from hF.1, hK.1]
  rw [if_neg h0, if_neg h0]
  rcases zn_rng x1 1 6 (by omega) (by omega) with h2 | ⟨k, rfl, h2, h3⟩
  · rw [pm_isIn0 (show x1 < (1 : Int32) ∨ (6 : Int32) < x1 from h2), ob_eq, if_pos rfl]
    refine ⟨-1, ?_, rfl⟩
    rcases h2 with h2 | h2
    · rw [if_pos (show x1 < (1 : Int32) from h2)]
    · rw [if_pos (show (6 : Int32) < x1 from h2), ite_self]
  · rw [show f_X12_isIn (zn k) 1 6 = some 1 from pm_isIn1 (lo := 1) (hi := 6) h2 h3 (by omega), ob_eq, if_neg n10, if_neg (show ¬ zn k < (1 : Int32) by rw [zn_l1, zn_lt (by omega) (by omega)]; omega), if_neg (show ¬ (6 : Int32) < zn k by rw [zn_l6, zn_lt (by omega) (by omega)]; omega), hc.1.2.2.1]
    obtain ⟨r, i1, i2⟩ := q_who hv hK (M := Mo_s_thrown M 0) hF hm (zn k - 1)
    rw [i1, i2, ob_eq, ob_eq]
    exact ⟨r, rfl, rfl⟩
end
