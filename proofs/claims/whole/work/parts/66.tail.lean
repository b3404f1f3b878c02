/-! the end of a day on the road -/
def pRand (s : Int32) : Int32 := s * (1103515245 : Int32) + (12345 : Int32)
def pDraw (s n : Int32) : Int32 := zr_rem (zr_ushr (pRand s) (8 : Int32)) n
theorem pc_draw12 (K : FkT) : f_X1_draw K (12 : Int32) = some (pDraw (Fk_seed K) 12, Fk_s_seed K (pRand (Fk_seed K))) := by
  simp only [f_X1_draw, zlet, pDraw, pRand]
  rw [if_neg (by decide), if_pos (by decide)]
  simp only [show ∀ v, Fk_seed (Fk_s_seed K v) = v from fun _ => rfl]
theorem pc_draw6 (K : FkT) : f_X1_draw K (6 : Int32) = some (pDraw (Fk_seed K) 6, Fk_s_seed K (pRand (Fk_seed K))) := by
  simp only [f_X1_draw, zlet, pDraw, pRand]
  rw [if_neg (by decide), if_pos (by decide)]
  simp only [show ∀ v, Fk_seed (Fk_s_seed K v) = v from fun _ => rfl]
theorem pm_draw12 (M : MoT) (w : Nat → Int32) (s a b : Int32) : f_X12_draw (pM M w s a b) (12 : Int32) = some (pDraw s 12, pM M w (pRand s) a b) := by
  simp only [f_X12_draw, zlet, pM_seed, pM_sseed, pDraw, pRand]
  rw [if_pos (by decide)]
theorem pm_draw6 (M : MoT) (w : Nat → Int32) (s a b : Int32) : f_X12_draw (pM M w s a b) (6 : Int32) = some (pDraw s 6, pM M w (pRand s) a b) := by
  simp only [f_X12_draw, zlet, pM_seed, pM_sseed, pDraw, pRand]
  rw [if_pos (by decide)]
theorem pm_has0 : ∀ (kb : Fin 64) (m : Fin 6), f_X12_has (zn kb.val) (zn m.val) = some (if kb.val / 2 ^ m.val % 2 = 1 then 1 else 0) := by decide +kernel
theorem pm_has {kb m : Nat} (h1 : kb < 64) (h2 : m < 6) : f_X12_has (zn kb) (zn m) = some (if kb / 2 ^ m % 2 = 1 then 1 else 0) := pm_has0 ⟨kb, h1⟩ ⟨m, h2⟩
theorem pm_kin {D : pD} {w : Nat → Int32} (hv : pV D) (h : pLm D w) {m : Nat} (hm : m < pD_nm D) : f_X12_has (w 242) (zn m) = some (if pD_me D m 3 = 1 then 1 else 0) := by
  obtain ⟨kb, h1, h2, h3⟩ := h.2.2.2.2.1
  rw [h2, pm_has h1 (Nat.lt_of_lt_of_le hm hv.nm), h3 m hm]
def pDan (D : pD) (m p b : Nat) : Int32 := if pD_me D m 3 = 1 then zn (pD_ro D (pRd D p b) 3) / 2 else zn (pD_ro D (pRd D p b) 3)
theorem pc_dangerFor {D : pD} {L : LdT} {F : pF} {K : FkT} (hv : pV D) (h : pLc D L) (hK : pFc D F K) {m p b : Nat} (hm : m < pD_nm D) (hb : b < pD_np D) (hg : pF_o F m 3 = b + 1) (hp : p < pD_np D) (hpb : p ≠ b) (hj : pD_far D p b ≠ 100000) : f_X1_dangerFor K L (zn m) (zn p) = some (pDan D m p b) := by
  obtain ⟨-, ⟨-, hr⟩, -⟩ := hv.stp hp hb hpb hj
  have hme := (hv.me hm).2.2.2.2.2
  simp only [f_X1_dangerFor, pc_of3 hv hK hm, hg, zo, ob_some, pc_toward hv h hp hb hpb hj, pc_ofRoadL hv h hr (k := 3) (x := (3 : Int32)) (by omega) rfl]
  rw [show f_X3_ofMan L (zn m) (3 : Int32) = some (zn (pD_me D m 3)) from pc_ofMan hv h hm (k := 3) (by omega), ob_some]
  simp (disch := omega) only [zn_eq1, pDan]
  split <;> rfl
theorem pm_lay {D : pD} (hv : pV D) (M : MoT) {w : Nat → Int32} (h : pLm D w) (s : Int32) {a b g : Nat} (r0 p0 : Int32) (ha : a < pD_np D) (hb : b < pD_np D) (hj : pD_far D a b ≠ 100000) (hg : g ≤ pD_far D a b) :
    f_X12_layThere (pM M w s r0 p0) (zn a) (zn b) (zn g) = some (pM M w s (if g = 0 then zm else zn (pRd D (pWalk D b 10 a (g - 1)).1 b)) (pThere D b a g)) := by
  have := pCl_le hv (b := b) ha
  simp only [f_X12_layThere, zlet, pM_sroad]
  exact pm_lay_loop hv M h s hb 10 _ _ ha hj (by omega) (zFU_ge (by omega)) hg
theorem pm_layM {D : pD} {F : pF} (hv : pV D) (M : MoT) {w : Nat → Int32} (h : pLm D w) (hF : pFm D F w) (s : Int32) {m b g : Nat} (hm : m < pD_nm D) (r0 p0 : Int32) (ha : pF_o F m 4 < pD_np D) (hb : b < pD_np D) (hb3 : pF_o F m 3 = b + 1) (hj : pD_far D (pF_o F m 4) b ≠ 100000) (hg : g ≤ pD_far D (pF_o F m 4) b) :
    f_X12_layThere_ (pM M w s r0 p0) (zn m) (zn g) = some (pM M w s (if g = 0 then zm else zn (pRd D (pWalk D b 10 (pF_o F m 4) (g - 1)).1 b)) (pThere D b (pF_o F m 4) g)) := by
  have hm6 := Nat.lt_of_lt_of_le hm hv.nm
  unfold f_X12_layThere_
  simp (disch := omega) only [zn_add, zb_zn, zn_nat, if_true, zlet, ob_some, pM_now, pM_snow, pM_seed, pM_sseed, pM_road, pM_place, pM_sroad, pM_splace, zn_l44, zn_l144, zn_l160, zn_l176, zn_l192, zn_l208, zn_l224, zn_l230, zn_l236, zn_l242, zn_l243, zn_l343, zn_l443, zn_l444, zn_l450, zn_l456, zn_l462, zn_l468, zn_l474, zn_l480, zn_l486, zn_l492, zn_l498, zn_l504, zn_l510, zn_l516, zn_l517, zn_l518, hF.g4 hm, hF.g3 hm, hb3, zo]
  rw [pm_lay hv M h s r0 p0 ha hb hj hg, ob_some]
theorem pThere_no {D : pD} (hv : pV D) {b a g : Nat} (ha : a < pD_np D) (hb : b < pD_np D) (hj : pD_far D a b ≠ 100000) (hg : g ≤ pD_far D a b) : (pThere D b a g = zm) ↔ (pWalk D b 10 a g).2 ≠ 0 := by
  obtain ⟨h1, -⟩ := pWalk_props hv hb ha hj g hg
  have hnp := hv.np
  unfold pThere
  by_cases q : (pWalk D b 10 a g).2 = 0
  · rw [if_pos q, zm_eq (by omega)]; simp [q]
  · rw [if_neg q]; simp [q]
/-- where he is on his way, and the danger there -/
theorem pm_dangerAt {D : pD} {F : pF} (hv : pV D) (M : MoT) {w : Nat → Int32} (h : pLm D w) (hF : pFm D F w) (s : Int32) {m b g : Nat} (hm : m < pD_nm D) (r0 p0 : Int32) (ha : pF_o F m 4 < pD_np D) (hb : b < pD_np D) (hb3 : pF_o F m 3 = b + 1) (hj : pD_far D (pF_o F m 4) b ≠ 100000) (hg : g ≤ pD_far D (pF_o F m 4) b) :
    ∃ r1 p1, f_X12_dangerAt (pM M w s r0 p0) (zn m) (zn g) = some (if (pWalk D b 10 (pF_o F m 4) g).2 = 0 then zm else pDan D m (pWalk D b 10 (pF_o F m 4) g).1 b, pM M w s r1 p1) := by
  have hm6 := Nat.lt_of_lt_of_le hm hv.nm
  refine ⟨if g = 0 then zm else zn (pRd D (pWalk D b 10 (pF_o F m 4) (g - 1)).1 b), pThere D b (pF_o F m 4) g, ?_⟩
  unfold f_X12_dangerAt
  rw [pm_layM hv M h hF s hm r0 p0 ha hb hb3 hj hg, ob_some]
  simp only [pM_place, show (-1 : Int32) = zm from rfl]
  have e := pThere_no hv ha hb hj hg
  by_cases q : (pWalk D b 10 (pF_o F m 4) g).2 = 0
  · rw [if_neg (show ¬ pThere D b (pF_o F m 4) g = zm by rw [e]; simp [q]), if_pos q]
  · rw [if_pos (show pThere D b (pF_o F m 4) g = zm by rw [e]; exact q), if_neg q]
    have g0 : g ≠ 0 := by
      intro z
      rw [z] at q
      by_cases pb : pF_o F m 4 = b
      · rw [pWalk_stay (Or.inl pb)] at q; exact q rfl
      · have := (hv.stp ha hb pb hj).2.2.2.2.1
        rw [pWalk_stay (Or.inr (by omega))] at q; exact q rfl
    obtain ⟨i1, i2, i3, i4⟩ := pWalk_props hv hb ha hj g hg
    have ipb : (pWalk D b 10 (pF_o F m 4) g).1 ≠ b := by
      intro z
      have := (pWalk_goal hv hb ha hj hg).mp z
      have h0 := hv.far0 hb
      rw [z, h0] at i3; omega
    obtain ⟨-, ⟨-, hr⟩, -⟩ := hv.stp i1 hb ipb i2
    have hnr := hv.nr
    rw [if_neg g0, pWalk_pred hv hb ha hj g hg q]
    simp (disch := omega) only [zn_add, zb_zn, zn_nat, if_true, zlet, ob_some, pM_now, pM_snow, pM_seed, pM_sseed, pM_road, pM_place, pM_sroad, pM_splace, zn_l44, zn_l144, zn_l160, zn_l176, zn_l192, zn_l208, zn_l224, zn_l230, zn_l236, zn_l242, zn_l243, zn_l343, zn_l443, zn_l444, zn_l450, zn_l456, zn_l462, zn_l468, zn_l474, zn_l480, zn_l486, zn_l492, zn_l498, zn_l504, zn_l510, zn_l516, zn_l517, zn_l518, pm_kin hv h hm, (h.2.2.1 _ hr).2.2.2.1, show (242 : Int32).toNatClampNeg = 242 from rfl]
    by_cases k : pD_me D m 3 = 1
    · simp [pDan, k]
    · simp [pDan, k]
