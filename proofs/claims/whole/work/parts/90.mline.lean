/-- one man more -/
def pAddM (D : pD) (c p o : Nat) : pD := ((pD_np D, pD_nr D, pD_nm D + 1, pD_no D), (pD_pl D, pD_ro D, fun m k => if m = pD_nm D then (if k = 0 then c else if k = 1 then p else if k = 2 then o else 0) else pD_me D m k), (pD_rd D, pD_far D, pD_nx D))
theorem pAddM_kc (D : pD) (c p o m : Nat) : pKc D m ≤ pKc (pAddM D c p o) m := by
  show pKc D m ≤ if m < pD_nm D + 1 then (if m = pD_nm D then (if 3 = 0 then c else if 3 = 1 then p else if 3 = 2 then o else 0) else pD_me D m 3) else 0
  unfold pKc
  by_cases q : m < pD_nm D
  · rw [if_pos q, if_pos (by omega), if_neg (by omega)]; exact Nat.le_refl _
  · rw [if_neg q]; exact Nat.zero_le _
theorem pAddM_sz (D : pD) (c p o : Nat) : pSz D < pSz (pAddM D c p o) := by
  have k := pAddM_kc D c p o
  have := k 0; have := k 1; have := k 2; have := k 3; have := k 4; have := k 5
  show pSz D < pD_np D + pD_nr D + (pD_nm D + 1) + (pKc (pAddM D c p o) 0 + pKc (pAddM D c p o) 1 + pKc (pAddM D c p o) 2 + pKc (pAddM D c p o) 3 + pKc (pAddM D c p o) 4 + pKc (pAddM D c p o) 5)
  unfold pSz; omega
theorem pAddM_q {D : pD} {L L' : LdT} {w w' : Nat → Int32} {N N' : Nat → Int64} (h : pLq D L w N) (hnm : pD_nm D < 6) {c p o : Nat} (hc : c < pD_np D) (hch : pD_pl D c 0 = 0) (hp : 1 ≤ p) (hp2 : p ≤ 20) (ho : o ≤ 99) {x1 x2 : Int64} (hx : pNm x1 x2)
    (e1 : Ld_places L' = Ld_places L) (e2 : Ld_roads L' = Ld_roads L) (e3 : Ld_men L' = zn (pD_nm D + 1)) (e4 : Ld_ports L' = Ld_ports L) (e5 : Ld_placeNames L' = Ld_placeNames L) (e6 : Ld_manNames L' = vp_updL (Ld_manNames L) (pD_nm D) x1)
    (e7 : Ld_placeRows L' = Ld_placeRows L) (e8 : Ld_roadRows L' = Ld_roadRows L) (e9 : ∀ j, Ld_manRows L' j = if j = pD_nm D * 4 + 3 then 0 else if j = pD_nm D * 4 + 2 then zn o else if j = pD_nm D * 4 + 1 then zn p else if j = pD_nm D * 4 + 0 then zn c else Ld_manRows L j) (e10 : Ld_between L' = Ld_between L)
    (f1 : N' = vp_updL N (10 + pD_nm D) x2) (f2 : ∀ j, w' j = if j = 2 then zn (pD_nm D + 1) else if j = 236 + pD_nm D then zn o else if j = 230 + pD_nm D then zn p else if j = 224 + pD_nm D then zn c else w j) : pLq (pAddM D c p o) L' w' N' := by
  obtain ⟨⟨b1, b2, b3, b4⟩, ⟨c1, c2, c3, c4⟩, ⟨d1, d2, d3, d4⟩, hP, hR, hM, hK, hB, hF⟩ := h
  have wo : ∀ j, j ≠ 2 → j ≠ 236 + pD_nm D → j ≠ 230 + pD_nm D → j ≠ 224 + pD_nm D → w' j = w j := fun j a1 a2 a3 a4 => by
    rw [f2, if_neg a1, if_neg a2, if_neg a3, if_neg a4]
  have rn : ∀ k, pD_me (pAddM D c p o) (pD_nm D) k = (if k = 0 then c else if k = 1 then p else if k = 2 then o else 0) := fun k => by show (if pD_nm D = pD_nm D then _ else _) = _; rw [if_pos rfl]
  have ro : ∀ r, r ≠ pD_nm D → ∀ k, pD_me (pAddM D c p o) r k = pD_me D r k := fun r hr k => by show (if r = pD_nm D then _ else _) = _; rw [if_neg hr]
  refine ⟨⟨b1, b2, by show pD_nm D + 1 ≤ 6; omega, b4⟩, ⟨by rw [e1]; exact c1, by rw [e2]; exact c2, e3, by rw [e4]; exact c4⟩, ⟨?_, ?_, ?_, ?_⟩, ?_, ?_, ?_, ?_, ?_, ?_, ?_⟩
  · rw [wo 0 (by omega) (by omega) (by omega) (by omega)]; exact d1
  · rw [wo 1 (by omega) (by omega) (by omega) (by omega)]; exact d2
  · rw [f2, if_pos rfl]; rfl
  · rw [wo 3 (by omega) (by omega) (by omega) (by omega)]; exact d4
  · intro q hq
    have hq' : q < pD_np D := hq
    obtain ⟨g1, ⟨g2, g3, g4, g5⟩, g6, g7⟩ := hP q hq'
    refine ⟨by rw [e7]; exact g1, ⟨?_, ?_, ?_, ?_⟩, g6, ?_⟩
    · rw [wo _ (by omega) (by omega) (by omega) (by omega)]; exact g2
    · rw [wo _ (by omega) (by omega) (by omega) (by omega)]; exact g3
    · rw [wo _ (by omega) (by omega) (by omega) (by omega)]; exact g4
    · rw [wo _ (by omega) (by omega) (by omega) (by omega)]; exact g5
    · rw [e5, f1, puL_ne _ _ (by omega)]; exact g7
  · intro r hr
    have hr' : r < pD_nr D := hr
    obtain ⟨g1, ⟨g2, g3, g4, g5, g6⟩, g7⟩ := hR r hr'
    refine ⟨by rw [e8]; exact g1, ⟨?_, ?_, ?_, ?_, ?_⟩, g7⟩
    · rw [wo _ (by omega) (by omega) (by omega) (by omega)]; exact g2
    · rw [wo _ (by omega) (by omega) (by omega) (by omega)]; exact g3
    · rw [wo _ (by omega) (by omega) (by omega) (by omega)]; exact g4
    · rw [wo _ (by omega) (by omega) (by omega) (by omega)]; exact g5
    · rw [wo _ (by omega) (by omega) (by omega) (by omega)]; exact g6
  · intro m hm
    have hm' : m < pD_nm D + 1 := hm
    by_cases q : m = pD_nm D
    · subst q
      refine ⟨fun k hk => ?_, ⟨?_, ?_, ?_⟩, ⟨?_, ?_, ?_, ?_, ?_, ?_⟩, ?_⟩
      · have hk4 : k = 0 ∨ k = 1 ∨ k = 2 ∨ k = 3 := by omega
        rw [e9, rn]
        rcases hk4 with rfl | rfl | rfl | rfl
        · rw [if_neg (by omega), if_neg (by omega), if_neg (by omega), if_pos rfl]; rfl
        · rw [if_neg (by omega), if_neg (by omega), if_pos rfl]; rfl
        · rw [if_neg (by omega), if_pos rfl]; rfl
        · rw [if_pos rfl]; rfl
      · rw [f2, if_neg (by omega), if_neg (by omega), if_neg (by omega), if_pos rfl, rn]; rfl
      · rw [f2, if_neg (by omega), if_neg (by omega), if_pos rfl, rn]; rfl
      · rw [f2, if_neg (by omega), if_pos rfl, rn]; rfl
      · rw [rn]; exact hc
      · rw [rn]; exact hch
      · rw [rn]; exact hp
      · rw [rn]; exact hp2
      · rw [rn]; exact ho
      · rw [rn]; exact Nat.zero_le _
      · rw [e6, f1, puL_eq, puL_eq]; exact hx
    · obtain ⟨g1, ⟨g2, g3, g4⟩, ⟨g5, g6, g7, g8, g9, g10⟩, g11⟩ := hM m (by omega)
      refine ⟨fun k hk => ?_, ⟨?_, ?_, ?_⟩, ⟨?_, ?_, ?_, ?_, ?_, ?_⟩, ?_⟩
      · rw [e9, ro m q, if_neg (by omega), if_neg (by omega), if_neg (by omega), if_neg (by omega)]; exact g1 k hk
      · rw [wo _ (by omega) (by omega) (by omega) (by omega), ro m q]; exact g2
      · rw [wo _ (by omega) (by omega) (by omega) (by omega), ro m q]; exact g3
      · rw [wo _ (by omega) (by omega) (by omega) (by omega), ro m q]; exact g4
      · rw [ro m q]; exact g5
      · rw [ro m q]; exact g6
      · rw [ro m q]; exact g7
      · rw [ro m q]; exact g8
      · rw [ro m q]; exact g9
      · rw [ro m q]; exact g10
      · rw [e6, f1, puL_ne _ _ q, puL_ne _ _ (by omega)]; exact g11
  · obtain ⟨kb, k1, k2, k3, k4⟩ := hK
    refine ⟨kb, k1, by rw [wo _ (by omega) (by omega) (by omega) (by omega)]; exact k2, fun m hm => ?_, fun m hm1 hm2 => ?_⟩
    · have hm' : m < pD_nm D + 1 := hm
      by_cases q : m = pD_nm D
      · subst q; rw [rn, k4 _ (Nat.le_refl _) hnm]; rfl
      · rw [ro m q]; exact k3 m (by omega)
    · have hm' : pD_nm D + 1 ≤ m := hm1
      exact k4 m (by omega) hm2
  · intro a b ha hb
    obtain ⟨g1, g2, g3⟩ := hB a b ha hb
    refine ⟨by rw [e10]; exact g1, ?_, g3⟩
    rw [wo _ (by omega) (by omega) (by omega) (by omega)]; exact g2
  · intro q hp1 hp2
    have hp1' : pD_np D ≤ q := hp1
    obtain ⟨g1, g2, g3⟩ := hF.1 q hp1' hp2
    refine ⟨?_, ?_, ?_⟩
    · rw [wo _ (by omega) (by omega) (by omega) (by omega)]; exact g1
    · rw [wo _ (by omega) (by omega) (by omega) (by omega)]; exact g2
    · rw [wo _ (by omega) (by omega) (by omega) (by omega)]; exact g3
  · intro r hr1 hr2
    have hr1' : pD_nr D ≤ r := hr1
    rw [wo _ (by omega) (by omega) (by omega) (by omega)]
    exact hF.2 r hr1' hr2
/-- kin -/
def pAddK (D : pD) (m : Nat) : pD := ((pD_np D, pD_nr D, pD_nm D, pD_no D), (pD_pl D, pD_ro D, fun m' k => if m' = m ∧ k = 3 then 1 else pD_me D m' k), (pD_rd D, pD_far D, pD_nx D))
theorem pAddK_kc (D : pD) {m : Nat} (hm : m < pD_nm D) (h0 : pD_me D m 3 = 0) (m' : Nat) : pKc (pAddK D m) m' = pKc D m' + (if m' = m then 1 else 0) := by
  show (if m' < pD_nm D then (if m' = m ∧ 3 = 3 then 1 else pD_me D m' 3) else 0) = _
  unfold pKc
  by_cases q : m' = m
  · subst q
    rw [if_pos hm, if_pos ⟨rfl, rfl⟩, if_pos hm, h0, if_pos rfl]
  · rw [if_neg (show ¬ (m' = m ∧ 3 = 3) from fun z => q z.1), if_neg q]; rfl
theorem pAddK_sz {D : pD} {m : Nat} (hm : m < pD_nm D) (h0 : pD_me D m 3 = 0) (h6 : pD_nm D ≤ 6) : pSz D < pSz (pAddK D m) := by
  have k := pAddK_kc D hm h0
  show pSz D < pD_np D + pD_nr D + pD_nm D + (pKc (pAddK D m) 0 + pKc (pAddK D m) 1 + pKc (pAddK D m) 2 + pKc (pAddK D m) 3 + pKc (pAddK D m) 4 + pKc (pAddK D m) 5)
  rw [k, k, k, k, k, k]
  have hs : (if 0 = m then 1 else 0) + (if 1 = m then 1 else 0) + (if 2 = m then 1 else 0) + (if 3 = m then 1 else 0) + (if 4 = m then 1 else 0) + (if 5 = m then 1 else 0) = 1 := by
    have hc : m = 0 ∨ m = 1 ∨ m = 2 ∨ m = 3 ∨ m = 4 ∨ m = 5 := by omega
    rcases hc with rfl | rfl | rfl | rfl | rfl | rfl <;> rfl
  unfold pSz; omega
theorem pKin0 : ∀ (kb : Fin 64) (m : Fin 6), kb.val / 2 ^ m.val % 2 = 0 → (zn kb.val ||| zr_shl (1 : Int32) (zn m.val)) = zn (kb.val + 2 ^ m.val) ∧ kb.val + 2 ^ m.val < 64 ∧ ∀ j : Fin 6, (kb.val + 2 ^ m.val) / 2 ^ j.val % 2 = if j.val = m.val then 1 else kb.val / 2 ^ j.val % 2 := by decide +kernel
theorem pKin {kb m : Nat} (h1 : kb < 64) (h2 : m < 6) (h : kb / 2 ^ m % 2 = 0) : (zn kb ||| zr_shl (1 : Int32) (zn m)) = zn (kb + 2 ^ m) ∧ kb + 2 ^ m < 64 ∧ ∀ j, j < 6 → (kb + 2 ^ m) / 2 ^ j % 2 = if j = m then 1 else kb / 2 ^ j % 2 := by
  obtain ⟨a1, a2, a3⟩ := pKin0 ⟨kb, h1⟩ ⟨m, h2⟩ h
  exact ⟨a1, a2, fun j hj => a3 ⟨j, hj⟩⟩
section
variable {n most : Nat} {B : Nat → Nat} {R : RdT} {M : MoT} {L : LdT} {D : pD}
theorem q_manLine (h : pG n most B R M) (hk0 : ¬ Rd_kind R = 0) (hk2 : Mo_kind M = 2) (hD : pLq D L (Mo_read M) (Mo_readName M)) : pLine n most B M (pSz D) (Ld_lines L) (f_X3_readMan L R) (f_X12_readMan M) := by
  obtain ⟨b1, b2, b3, b4⟩ := hD.1
  obtain ⟨c1, c2, c3, c4⟩ := hD.2.1
  obtain ⟨d1, d2, d3, d4⟩ := hD.2.2.1
  unfold f_X3_readMan f_X12_readMan
  rcases pm_first h hk0 hk2 (i := 2) (c := pD_nm D) (mx := 6) (by omega) d3 b3 (by omega) with ⟨e, R1, M1, i1, i2, i3, i4⟩ | ⟨e, R1, M1, i1, i2, i3, i4, i5⟩
  · right
    rw [c3, if_neg (by rw [zn_l6, zn_lt (by omega) (by omega)]; omega), i1, ob_eq, show f_X12_readFirst M 2 6 = some (0, M1) from i2, ob_eq]
    exact ⟨_, R1, M1, rfl, rfl, i3, i4.l⟩
  rw [c3, if_pos (show zn (pD_nm D) < (6 : Int32) by rw [zn_l6, zn_lt (by omega) (by omega)]; omega), i1, ob_eq, show f_X12_readFirst M 2 6 = some (1, M1) from i2, ob_eq]
  simp only [if_neg n10]
  rw [show Mo_read M1 (2 : Int32).toNatClampNeg = zn (pD_nm D) from by rw [i4.rd]; exact d3, show (10 : Int32) + zn (pD_nm D) = zn (10 + pD_nm D) from zn_add 10 _]
  have hns : pNs L (pD_np D) (pD_nm D) (Mo_readName M1) := by rw [i4.rn]; exact hD.ns
  rw [zb_zn (show pD_nm D < 6 by omega) (by omega), zn_nat (show pD_nm D < 2147483648 by omega)]
  rcases i3.fresh hns (by rw [i4.rd]; exact d1) (by rw [i4.rd]; exact d3) (slot := 10 + pD_nm D) (by omega) with ⟨R2, M2, x, y, j1, j2, j3, j4, j5, j6, j7, j8⟩ | ⟨R2, M2, x, j1, j2, ⟨fk, pl, j3, j3'⟩, j4⟩
  rotate_left
  · -- no new name
    right
    rw [j1, ob_eq, j2, ob_eq]
    simp only [if_true, zl_eq]
    have hk : f_X3_knownPlace (Ld_s_manNames L (vp_updL (Ld_manNames L) (pD_nm D) x)) R2 = some (-1, R2) := by
      unfold f_X3_knownPlace f_X3_knownPlace_b34
      rw [if_neg j3.ne, if_pos rfl, j3.fail, j3.fail, ob_eq, ite_self]
    rw [hk, ob_eq]
    simp only [if_true]
    exact ⟨_, R2, M2, rfl, rfl, ⟨fk, pl, j3, j3'⟩, i4.l.tr j4⟩
  rw [j1, ob_eq, j2, ob_eq]
  simp only [if_neg n10, if_true, zl_eq]
  have w2 : pFl M M2 := i4.l.tr j7
  have rd2 : Mo_read M2 = Mo_read M := by rw [j6]; exact i4.rd
  rw [show Mo_read M2 (0 : Int32).toNatClampNeg = zn (pD_np D) from by rw [rd2]; exact d1]
  have rn2 : Mo_readName M2 = vp_updL (Mo_readName M) (10 + pD_nm D) y := by rw [j5, i4.rn]
  have hL2 : pNs (Ld_s_manNames L (vp_updL (Ld_manNames L) (pD_nm D) x)) (pD_np D) (pD_nm D) (Mo_readName M2) := by
    obtain ⟨s1, s2, s3, s4, s5, s6⟩ := hD.ns
    refine ⟨s1, s2, s3, s4, fun p hp => ?_, fun m hm => ?_⟩
    · rw [rn2, puL_ne _ _ (by omega)]; exact s5 p hp
    · show pNm (vp_updL (Ld_manNames L) (pD_nm D) x m) _
      rw [rn2, puL_ne _ _ (by omega), puL_ne _ _ (by omega)]; exact s6 m hm
  rcases j3.known hL2 with ⟨c, hc, k1, k2, k3, k4⟩ | ⟨R3, M3, k1, k2, k3, k4⟩
  rotate_left
  · right
    rw [k1, ob_eq, k2, ob_eq]
    simp only [if_true]
    exact ⟨_, R3, M3, rfl, rfl, k3, w2.tr k4.l⟩
  rw [k1, ob_eq, k2, ob_eq]
  simp only [if_neg n10]
  rw [if_neg (show ¬ zn c = (-1 : Int32) by show ¬ zn c = zm; rw [zm_eq (by omega)]; exact id)]
  have hG3 : pG n most B R2 (Mo_s_told M2 (zn c)) := ⟨j3.1, j3.2.1, j3.2.2.1, j3.2.2.2⟩
  have w3 : pFl M (Mo_s_told M2 (zn c)) := w2
  obtain ⟨g1, ⟨g2, -⟩, ⟨g3, -⟩, -⟩ := hD.2.2.2.1 c hc
  have hop : f_X3_ofPlace (Ld_s_manNames L (vp_updL (Ld_manNames L) (pD_nm D) x)) (zn c) 0 = some (zn (pD_pl D c 0)) := by
    exact (pr_ofPlace (Ld_s_manNames L (vp_updL (Ld_manNames L) (pD_nm D) x)) (p := c) (k := 0) (by omega)).trans (congrArg some (g1 0 (by omega)))
  rw [hop, ob_eq, show Mo_told (Mo_s_told M2 (zn c)) = zn c from rfl, show Mo_read (Mo_s_told M2 (zn c)) = Mo_read M from rd2, show (4 : Int32) + zn c = zn (4 + c) from zn_add 4 c, zb_zn (show 4 + c < 443 by omega) (by omega), if_pos rfl, zn_nat (show 4 + c < 2147483648 by omega), g2]
  by_cases qch : pD_pl D c 0 = 0
  rotate_left
  · right
    obtain ⟨R5, M5, m1, m2, m3, m4⟩ := hG3.bad (k := 3) (by omega) (by omega) (Or.inr (by show ¬ Mo_kind M2 = 1; rw [k4]; decide))
    have c0 : ¬ zn (pD_pl D c 0) = (0 : Int32) := by rw [zn_eq0 (by omega)]; exact qch
    rw [if_neg c0, if_neg c0, pm_badB (k := 3) m2, show f_X7_fail R2 3 = some R5 from m1, ob_eq]
    exact ⟨_, R5, M5, rfl, rfl, m3, w3.tr m4.l⟩
  have c0 : zn (pD_pl D c 0) = (0 : Int32) := by rw [qch]; rfl
  rw [if_pos c0, if_pos c0]
  rw [show Ld_men (Ld_s_manNames L (vp_updL (Ld_manNames L) (pD_nm D) x)) = zn (pD_nm D) from c3]
  rw [show zn (pD_nm D) * (4 : Int32) = zn (pD_nm D * 4) from zn_mul _ 4, show zn (pD_nm D * 4) + (0 : Int32) = zn (pD_nm D * 4 + 0) from zn_add _ 0, show zn (pD_nm D * 4) + (1 : Int32) = zn (pD_nm D * 4 + 1) from zn_add _ 1, show zn (pD_nm D * 4) + (2 : Int32) = zn (pD_nm D * 4 + 2) from zn_add _ 2, show zn (pD_nm D * 4) + (3 : Int32) = zn (pD_nm D * 4 + 3) from zn_add _ 3]
  rw [zb_zn (show pD_nm D * 4 + 0 < 24 by omega) (by omega), zb_zn (show pD_nm D * 4 + 1 < 24 by omega) (by omega), zb_zn (show pD_nm D * 4 + 2 < 24 by omega) (by omega), zb_zn (show pD_nm D * 4 + 3 < 24 by omega) (by omega)]
  rw [show (224 : Int32) + zn (pD_nm D) = zn (224 + pD_nm D) from zn_add 224 _, show (230 : Int32) + zn (pD_nm D) = zn (230 + pD_nm D) from zn_add 230 _, show (236 : Int32) + zn (pD_nm D) = zn (236 + pD_nm D) from zn_add 236 _, zb_zn (show 224 + pD_nm D < 443 by omega) (by omega), zn_nat (show 224 + pD_nm D < 2147483648 by omega)]
  simp only [if_true, zl_eq]
  rw [zn_nat (show pD_nm D * 4 + 0 < 2147483648 by omega), zn_nat (show pD_nm D * 4 + 1 < 2147483648 by omega), zn_nat (show pD_nm D * 4 + 2 < 2147483648 by omega), zn_nat (show pD_nm D * 4 + 3 < 2147483648 by omega)]
  have hG6 : pG n most B R2 (Mo_s_read (Mo_s_told M2 (zn c)) (upd (Mo_read M) (224 + pD_nm D) (zn c))) := ⟨j3.1, j3.2.1, j3.2.2.1, j3.2.2.2⟩
  obtain ⟨R7, M7, n1, n2, n3, n4, n5⟩ := hG6.adv k3
  rw [n1, ob_eq, n2, ob_eq]
  have w7 : pFl M M7 := w3.tr ⟨n4.l.1, n4.l.2.1, n4.l.2.2⟩
  rcases n3.putn (lo := 1) (hi := 20) (i := 230 + pD_nm D) (by omega) (by omega) (by omega) with ⟨R8, M8, y8, o1, o2, o3, o4, o5, o6, o7, o8⟩ | ⟨R8, M8, o1, o2, ⟨fk, pl, o3, o3'⟩, o4⟩
  rotate_left
  · right
    rw [show f_X7_number R7 1 20 = some (zn 1, R8) from o1, ob_eq, show (f_X12_readNumber M7 1 20).bind _ = _ from o2 _, o3.number, ob_eq]
    exact ⟨_, R8, M8, rfl, rfl, ⟨fk, pl, o3, o3'⟩, w7.tr o4⟩
  rw [show f_X7_number R7 1 20 = some (zn y8, R8) from o1, ob_eq, show (f_X12_readNumber M7 1 20).bind _ = _ from o2 _]
  simp only [if_neg n10]
  rcases o3.putn (lo := 0) (hi := 99) (i := 236 + pD_nm D) (by omega) (by omega) (by omega) with ⟨R9, M9, y9, p1, p2, p3, p4, p5, p6, p7, p8⟩ | ⟨R9, M9, p1, p2, ⟨fk, pl, p3, p3'⟩, p4⟩
  rotate_left
  · right
    rw [show f_X7_number R8 0 99 = some (zn 0, R9) from p1, ob_eq, show (f_X12_readNumber M8 0 99).bind _ = _ from p2 _]
    exact ⟨_, R9, M9, rfl, rfl, ⟨fk, pl, p3, p3'⟩, (w7.tr o6).tr p4⟩
  rw [show f_X7_number R8 0 99 = some (zn y9, R9) from p1, ob_eq, show (f_X12_readNumber M8 0 99).bind _ = _ from p2 _]
  simp only [if_neg n10]
  have w9 : pFl M M9 := (w7.tr o6).tr p6
  have hr9 : Mo_read M9 = upd (upd (upd (Mo_read M) (224 + pD_nm D) (zn c)) (230 + pD_nm D) (zn y8)) (236 + pD_nm D) (zn y9) := by rw [p4, o4, n4.rd]; rfl
  left
  refine ⟨_, R9, _, pAddM D c y8 y9, rfl, rfl, ⟨p3.1, p3.2.1, p3.2.2.1, p3.2.2.2⟩, pAddM_q hD e hc qch o7 o8 p8 j4 (x1 := x) rfl rfl ?_ rfl rfl rfl rfl rfl (fun j => rfl) rfl ?_ ?_, ⟨w9.1, w9.2.1, w9.2.2⟩, rfl, pAddM_sz _ _ _ _⟩
  · show Ld_men L + 1 = _
    rw [c3]; exact zn_add _ 1
  · show Mo_readName M9 = _
    rw [p5, o5, n4.rn]; exact rn2
  · intro j
    show upd (Mo_read M9) 2 (Mo_read M9 2 + 1) j = _
    have h2 : Mo_read M9 2 + 1 = zn (pD_nm D + 1) := by
      rw [hr9, pu_ne _ _ (by omega), pu_ne _ _ (by omega), pu_ne _ _ (by omega), d3]; exact zn_add _ 1
    rw [h2, hr9]; rfl
theorem q_kinLine (h : pG n most B R M) (hk0 : ¬ Rd_kind R = 0) (hD : pLq D L (Mo_read M) (Mo_readName M)) : pLine n most B M (pSz D) (Ld_lines L) (f_X3_readKin L R) (f_X12_readKin M) := by
  obtain ⟨b1, b2, b3, b4⟩ := hD.1
  obtain ⟨c1, c2, c3, c4⟩ := hD.2.1
  obtain ⟨d1, d2, d3, d4⟩ := hD.2.2.1
  unfold f_X3_readKin f_X12_readKin
  obtain ⟨R1, M1, i1, i2, i3, i4, i5⟩ := h.adv hk0
  rw [i1, ob_eq, i2, ob_eq, show Mo_read M1 (2 : Int32).toNatClampNeg = zn (pD_nm D) from by rw [i4.rd]; exact d3]
  rcases i3.knownM (L := L) (np := pD_np D) (nm := pD_nm D) (by rw [i4.rn]; exact hD.ns) with ⟨m, hm, j1, j2, j3, j4⟩ | ⟨R2, M2, j1, j2, j3, j4⟩
  rotate_left
  · right
    rw [j1, ob_eq, j2, ob_eq]
    exact ⟨_, R2, M2, rfl, rfl, j3, i4.l.tr j4.l⟩
  rw [j1, ob_eq, j2, ob_eq]
  simp only [if_neg n10]
  rw [if_neg (show ¬ zn m = (-1 : Int32) by show ¬ zn m = zm; rw [zm_eq (by omega)]; exact id)]
  have hG2 : pG n most B R1 (Mo_s_told M1 (zn m)) := ⟨i3.1, i3.2.1, i3.2.2.1, i3.2.2.2⟩
  have w2 : pFl M (Mo_s_told M1 (zn m)) := i4.l
  obtain ⟨g1, ⟨g2, g3, g4⟩, ⟨g5, g6, g7, g8, g9, g10⟩, g11⟩ := hD.2.2.2.2.2.1 m hm
  obtain ⟨kb, k1, k2, k3, k4⟩ := hD.2.2.2.2.2.2.1
  have hom : f_X3_ofMan L (zn m) 3 = some (zn (pD_me D m 3)) := by
    exact (pr_ofMan L (p := m) (k := 3) (by omega)).trans (congrArg some (g1 3 (by omega)))
  rw [hom, ob_eq, show Mo_told (Mo_s_told M1 (zn m)) = zn m from rfl, show Mo_read (Mo_s_told M1 (zn m)) (242 : Int32).toNatClampNeg = zn kb from by show Mo_read M1 242 = _; rw [i4.rd]; exact k2, pm_has k1 (by omega), ob_eq, ← k3 m hm]
  by_cases q : pD_me D m 3 = 1
  · right
    obtain ⟨R5, M5, m1, m2, m3, m4⟩ := hG2.bad (k := 3) (by omega) (by omega) (Or.inr (by show ¬ Mo_kind M1 = 1; rw [j4]; decide))
    rw [if_pos (show zn (pD_me D m 3) = 1 by rw [q]; rfl), if_pos q, if_neg n10, pm_badB (k := 3) m2, show f_X7_fail R1 3 = some R5 from m1, ob_eq]
    exact ⟨_, R5, M5, rfl, rfl, m3, w2.tr m4.l⟩
  · have q0 : kb / 2 ^ m % 2 = 0 := by have := k3 m hm; omega
    obtain ⟨l1, l2, l3⟩ := pKin k1 (show m < 6 by omega) q0
    rw [if_neg (show ¬ zn (pD_me D m 3) = 1 by rw [zn_eq1 (by omega)]; exact q), if_neg q, if_pos rfl]
    rw [show zn m * (4 : Int32) = zn (m * 4) from zn_mul m 4, show zn (m * 4) + (3 : Int32) = zn (m * 4 + 3) from zn_add _ 3, zb_zn (show m * 4 + 3 < 24 by omega) (by omega), if_pos rfl, zn_nat (show m * 4 + 3 < 2147483648 by omega), l1]
    simp only [zl_eq]
    have hG3 : pG n most B R1 (Mo_s_read (Mo_s_told M1 (zn m)) (upd (Mo_read (Mo_s_told M1 (zn m))) (242 : Int32).toNatClampNeg (zn (kb + 2 ^ m)))) := ⟨i3.1, i3.2.1, i3.2.2.1, i3.2.2.2⟩
    obtain ⟨R3, M3, n1, n2, n3, n4, n5⟩ := hG3.adv j3
    rw [n1, ob_eq, n2, ob_eq]
    have hr3 : Mo_read M3 = upd (Mo_read M) 242 (zn (kb + 2 ^ m)) := by
      rw [n4.rd]
      show upd (Mo_read M1) 242 _ = _
      rw [i4.rd]
    have hn3 : Mo_readName M3 = Mo_readName M := by rw [n4.rn]; exact i4.rn
    left
    refine ⟨_, R3, M3, pAddK D m, rfl, rfl, n3, ?_, w2.tr ⟨n4.l.1, n4.l.2.1, n4.l.2.2⟩, rfl, pAddK_sz hm (by have := g10; omega) (by have := hD.1; omega)⟩
    obtain ⟨-, -, -, hP, hR, hM, -, hB, hF⟩ := hD
    rw [hr3, hn3]
    refine ⟨⟨b1, b2, b3, b4⟩, ⟨c1, c2, c3, c4⟩, ⟨?_, ?_, ?_, ?_⟩, ?_, ?_, ?_, ?_, ?_, ?_, ?_⟩
    · rw [pu_ne _ _ (by omega)]; exact d1
    · rw [pu_ne _ _ (by omega)]; exact d2
    · rw [pu_ne _ _ (by omega)]; exact d3
    · rw [pu_ne _ _ (by omega)]; exact d4
    · intro p hp
      have hp' : p < pD_np D := hp
      obtain ⟨a1, ⟨a2, a3, a4, a5⟩, a6, a7⟩ := hP p hp'
      exact ⟨a1, ⟨by rw [pu_ne _ _ (by omega)]; exact a2, by rw [pu_ne _ _ (by omega)]; exact a3, by rw [pu_ne _ _ (by omega)]; exact a4, by rw [pu_ne _ _ (by omega)]; exact a5⟩, a6, a7⟩
    · intro r hr
      have hr' : r < pD_nr D := hr
      obtain ⟨a1, ⟨a2, a3, a4, a5, a6⟩, a7⟩ := hR r hr'
      exact ⟨a1, ⟨by rw [pu_ne _ _ (by omega)]; exact a2, by rw [pu_ne _ _ (by omega)]; exact a3, by rw [pu_ne _ _ (by omega)]; exact a4, by rw [pu_ne _ _ (by omega)]; exact a5, by rw [pu_ne _ _ (by omega)]; exact a6⟩, a7⟩
    · intro m' hm'
      have hm2 : m' < pD_nm D := hm'
      obtain ⟨a1, ⟨a2, a3, a4⟩, ⟨a5, a6, a7, a8, a9, a10⟩, a11⟩ := hM m' hm2
      have e3 : ∀ k, k ≠ 3 → pD_me (pAddK D m) m' k = pD_me D m' k := fun k hk => by show (if m' = m ∧ k = 3 then _ else _) = _; rw [if_neg (fun z => hk z.2)]
      refine ⟨fun k hk => ?_, ⟨?_, ?_, ?_⟩, ⟨?_, ?_, ?_, ?_, ?_, ?_⟩, a11⟩
      · show upd (Ld_manRows L) (m * 4 + 3) 1 (m' * 4 + k) = zn (if m' = m ∧ k = 3 then 1 else pD_me D m' k)
        by_cases z : m' = m ∧ k = 3
        · rw [if_pos z, z.1, z.2, pu_eq]; rfl
        · rw [if_neg z, pu_ne _ _ (by omega)]; exact a1 k hk
      · rw [pu_ne _ _ (by omega), e3 0 (by omega)]; exact a2
      · rw [pu_ne _ _ (by omega), e3 1 (by omega)]; exact a3
      · rw [pu_ne _ _ (by omega), e3 2 (by omega)]; exact a4
      · rw [e3 0 (by omega)]; exact a5
      · rw [e3 0 (by omega)]; exact a6
      · rw [e3 1 (by omega)]; exact a7
      · rw [e3 1 (by omega)]; exact a8
      · rw [e3 2 (by omega)]; exact a9
      · show (if m' = m ∧ 3 = 3 then 1 else pD_me D m' 3) ≤ 1
        split
        · omega
        · exact a10
    · refine ⟨kb + 2 ^ m, l2, pu_eq _ _ _, fun m' hm' => ?_, fun m' hm1 hm2 => ?_⟩
      · have hm2 : m' < pD_nm D := hm'
        rw [l3 m' (by omega)]
        show (if m' = m ∧ 3 = 3 then 1 else pD_me D m' 3) = _
        by_cases z : m' = m
        · rw [if_pos ⟨z, rfl⟩, if_pos z]
        · rw [if_neg (fun y => z y.1), if_neg z]; exact k3 m' hm2
      · have hm1' : pD_nm D ≤ m' := hm1
        rw [l3 m' hm2, if_neg (by omega)]; exact k4 m' hm1' hm2
    · intro a b ha hb
      obtain ⟨a1, a2, a3⟩ := hB a b ha hb
      exact ⟨a1, by rw [pu_ne _ _ (by omega)]; exact a2, a3⟩
    · intro p hp1 hp2
      have hp1' : pD_np D ≤ p := hp1
      obtain ⟨a1, a2, a3⟩ := hF.1 p hp1' hp2
      exact ⟨by rw [pu_ne _ _ (by omega)]; exact a1, by rw [pu_ne _ _ (by omega)]; exact a2, by rw [pu_ne _ _ (by omega)]; exact a3⟩
    · intro r hr1 hr2
      have hr1' : pD_nr D ≤ r := hr1
      rw [pu_ne _ _ (by omega)]
      exact hF.2 r hr1' hr2
end
