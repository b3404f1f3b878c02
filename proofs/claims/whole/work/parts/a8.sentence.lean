/-! the calls sentence and said -/
/-- what stands of a sentence -/
def pSen (D : pD) (P : PhT) (w : Nat → Int32) : Prop := (Ph_ones P = 0 ∧ w 516 = 0) ∨ (∃ ko so vo p o d t, Ph_ones P = zn o ∧ 1 ≤ o ∧ o ≤ 20 ∧ pPh P ko so vo p ∧ pOnes ko p ≤ 20 ∧ pSgm D ko so vo 0 p d ∧ w 516 = 1 ∧ w 517 = zn t ∧ t < 60 ∧ pNd D (fun j => w (518 + j)) 60 t d)
/-- what reading a text leaves, the land and the days aside -/
def pRest (M : MoT) := (M.2.2.2.1, M.2.2.2.2.1.2, M.2.2.2.2.2.1, M.2.2.2.2.2.2.1, M.2.2.2.2.2.2.2.1, M.2.2.2.2.2.2.2.2.1, M.2.2.2.2.2.2.2.2.2.1, M.2.2.2.2.2.2.2.2.2.2.1, M.2.2.2.2.2.2.2.2.2.2.2.1)
theorem pBl_rest {M M' : MoT} (h : pBl M' = pBl M) : pRest M' = pRest M ∧ M'.1 = M.1 ∧ Mo_thrown M' = Mo_thrown M := by
  refine ⟨?_, congrArg (fun z => z.1) h, congrArg (fun z => z.2.2.2.2.2.2.2.2.2.2) h⟩
  exact congrArg (fun z => (z.2.1, z.2.2.1.2, z.2.2.2.1, z.2.2.2.2.1, z.2.2.2.2.2.1, z.2.2.2.2.2.2.1, z.2.2.2.2.2.2.2.1, z.2.2.2.2.2.2.2.2.1, z.2.2.2.2.2.2.2.2.2.1)) h
theorem pRest_of {M M' : MoT} (h : M'.2.2.2 = M.2.2.2) : pRest M' = pRest M := by unfold pRest; rw [h]
theorem pRest_now (M : MoT) (w : Nat → Int32) : pRest (Mo_s_now M w) = pRest M := rfl
theorem pm_sen_loop (M : MoT) : ∀ (d : Nat) {k fu : Nat} (w : Nat → Int32), k + d = 240 → d + 1 ≤ fu → f_X12_sentence_L79 fu (Mo_s_now M w) (zn k) = some (Mo_onesMany M, Mo_s_now M (pCpy w (Mo_node M) 518 0 k 240))
  | d, k, 0, w, h1, h2 => by omega
  | 0, k, fu + 1, w, h1, h2 => by
    show f_X12_sentence_H79 (Mo_s_now M w) (f_X12_sentence_L79 fu) (zn k) = _
    unfold f_X12_sentence_H79
    have e : k = 240 := by omega
    subst e
    rw [if_neg (by decide), pCpy_end]; rfl
  | d + 1, k, fu + 1, w, h1, h2 => by
    show f_X12_sentence_H79 (Mo_s_now M w) (f_X12_sentence_L79 fu) (zn k) = _
    unfold f_X12_sentence_H79
    rw [if_pos (show zn k < (240 : Int32) by rw [zn_l240, zn_lt (by omega) (by omega)]; omega)]
    rw [show Mo_now (Mo_s_now M w) = w from rfl, show Mo_node (Mo_s_now M w) = Mo_node M from rfl]
    simp (disch := omega) only [zn_l518, zn_l1, zn_add, zb_zn, zn_nat, if_true, zl_eq]
    have := pm_sen_loop M d (k := k + 1) (fu := fu) (upd w (518 + k) (Mo_node M k)) (by omega) (by omega)
    have e := pCpy_step w (Mo_node M) (a := 518) (b := 0) (k := k) (n := 240) (by omega)
    rw [Nat.zero_add] at e
    rw [e] at this
    exact this
section
variable {D : pD} {L : LdT} {M : MoT} {F : pF} {K : FkT} {R : RdT}
theorem q_sentence (hv : pV D) (hc : pLc D L) (hn : pNn D L (Mo_name M)) (hm : pLm D (Mo_now M)) (hR : pRdr R M) (X : XxT) (S1 S4 : PhT) :
    (∃ r S1' R' M', f_X11_sentence X S1 R L S4 = some (r, X, S1', R', false) ∧ f_X12_sentence M = some (r, M') ∧ pRdr R' M' ∧ Mo_thrown M' = 0 ∧ pRest M' = pRest M ∧ Mo_now M' = Mo_now M) ∨
    (∃ r S1' R' M', f_X11_sentence X S1 R L S4 = some (r, X, S1', R', true) ∧ f_X12_sentence M = some (r, M') ∧ pRdr R' M' ∧ Mo_thrown M' = 0 ∧ pRest M' = pRest M ∧ (∀ j, j < 516 → Mo_now M' j = Mo_now M j) ∧ pSen D S1' (Mo_now M')) := by
  obtain ⟨hf, ⟨n, t1, t2, t3, t4⟩, hk⟩ := hR
  obtain ⟨B, R1, M1, b1, b2, b3, b4, b5, b6⟩ := q_begin (most := 200) t1 (by omega) t2 t3 t4 hk
  have b1' : f_X7_begin R 200 = some R1 := b1
  have b2' : f_X12_begin M 200 = some M1 := b2
  have bN : Mo_now M1 = Mo_now M := congrArg (fun z => z.2.1.1) b5
  have bA : Mo_name M1 = Mo_name M := congrArg (fun z => z.2.1.2) b5
  have hbl : pBl (Mo_s_within (Mo_s_onesMany (Mo_s_nodes M1 0) 0) 0) = pBl M1 := by rw [bl_within, bl_onesMany, bl_nodes]
  have hE : pEnv D L (Mo_s_within (Mo_s_onesMany (Mo_s_nodes M1 0) 0) 0) := by
    refine pEnv.fr (M := M1) ⟨⟨hv.np, hv.nm, hc.1.1, hc.1.2.2.1, ?_, ?_⟩, ?_⟩ hbl
    · rw [bA]; exact hn.1
    · rw [bA]; exact hn.2
    · rw [bN]; exact hm.1.1
  have hJ : pJ n 200 B R1 (Mo_s_within (Mo_s_onesMany (Mo_s_nodes M1 0) 0) 0) (Ph_s_parts (Ph_s_ones S1 0) 0) (fun _ => 0) (fun _ => 0) (fun _ => 0) 0 0 0 :=
    ⟨((b3.s_nodes _).s_onesMany _).s_within _, ⟨rfl, by omega, by rw [g_onesMany_within, g_onesMany_onesMany]; rfl⟩, ⟨rfl, by omega, fun i hi => by omega⟩, Nat.zero_le _, Nat.le_refl _, by rw [g_nodes_within, g_nodes_onesMany, g_nodes_nodes]; rfl, g_within_within _ _⟩
  -- what becomes of a text that is none
  have lost : ∀ (P' : PhT) (R' : RdT) (M' : MoT), f_X5_read S1 R L = some (0, P', R') → pW R' M' → pBl M' = pBl M1 → f_X12_sentence M = some ((-1 : Int32) - Mo_place M', M') → (∃ r S1' R' M', f_X11_sentence X S1 R L S4 = some (r, X, S1', R', false) ∧ f_X12_sentence M = some (r, M') ∧ pRdr R' M' ∧ Mo_thrown M' = 0 ∧ pRest M' = pRest M ∧ Mo_now M' = Mo_now M) := by
    intro P' R' M' h1 ⟨fk, pl, h2, h3, h4⟩ h5 h6
    obtain ⟨f1, f2, f3⟩ := pBl_rest h5
    have f4 := (pBl_now h5).1
    refine ⟨(-1 : Int32) - zn pl, P', Rd_s_length R' 0, M', ?_, by rw [h6, h4], pRdr.end' (h2.2.2.2.1.trans h3.symm) ?_ h2.2.2.2.2.2, f3.trans b6, f1.trans (pRest_of b5), f4.trans bN⟩
    · unfold f_X11_sentence
      rw [h1, ob_eq, zl_eq]
      simp only [if_true]
      rw [show Rd_faultAt (Rd_s_length R' 0) = zn pl from h2.2.2.2.2.1]
    · show M'.1.2 = 0
      rw [f2, b4]
  have cl : ∀ q, f_X5_readCond 40 (Ph_s_parts (Ph_s_ones S1 0) 0) R1 L 1 = some q → f_X5_read S1 R L = (f_X7_more q.2).bind fun q4 => if q4.1 = 0 then f_X5_read_b30 q.1 q4.2 L else (f_X7_fail q4.2 1).bind fun q5 => f_X5_read_b30 q.1 q5 L := by
    intro q hq
    unfold f_X5_read f_X5_clear
    simp only [zl_eq, ob_eq]
    rw [b1', ob_eq, hq, ob_eq]
  have mo : ∀ q, f_X12_readOr 60 (Mo_s_within (Mo_s_onesMany (Mo_s_nodes M1 0) 0) 0) = some q → f_X12_sentence M = if q.1 = 0 then some ((-1 : Int32) - Mo_place q.2, q.2) else if Mo_kind q.2 = 0 then f_X12_sentence_L79 zFU (Mo_s_now (Mo_s_now q.2 (upd (Mo_now q.2) (516 : Int32).toNatClampNeg 1)) (upd (Mo_now (Mo_s_now q.2 (upd (Mo_now q.2) (516 : Int32).toNatClampNeg 1))) (517 : Int32).toNatClampNeg (Mo_top (Mo_s_now q.2 (upd (Mo_now q.2) (516 : Int32).toNatClampNeg 1))))) 0 else (f_X12_bad q.2 1).bind fun q11 => some ((-1 : Int32) - Mo_place q11.2, q11.2) := by
    intro q hq
    unfold f_X12_sentence
    rw [b2', ob_eq]
    simp only [zl_eq]
    rw [hq, ob_eq]
  have hread := (q_depth n 200 B D L 8 (by omega)).2 40 60 (by omega) (by omega) R1 (Mo_s_within (Mo_s_onesMany (Mo_s_nodes M1 0) 0) 0) (Ph_s_parts (Ph_s_ones S1 0) 0) (fun _ => 0) (fun _ => 0) (fun _ => 0) 0 0 hE hJ
  rcases hread with ⟨P', R', M', ko', so', vo', p', o', d, t, g1, g2, g3, g4, g5, g6, g7, g8, g9, g10, g11, g12, g13⟩ | ⟨P', R', M', p', g1, g2, g3, g4, g5, g6⟩
  · have hG := g3.1
    have h20 := g3.2.1.2.1
    have h40 := g3.2.2.1.2.1
    have hbl' : pBl M' = pBl M1 := g13.trans hbl
    have cl' := cl _ g1
    have mo' := mo _ g2
    simp only at cl' mo'
    rw [if_neg n10] at mo'
    rcases hG.more with ⟨u1, u2, u3⟩ | ⟨u1, u2⟩ | ⟨R2, u1, u2, u3, u4⟩
    · left
      obtain ⟨R2, M2, a1, a2, a3, a4⟩ := hG.bad (k := 1) (by omega) (by omega) (Or.inl rfl)
      rw [u1, ob_eq] at cl'
      simp only at cl'
      rw [if_neg n10, show f_X7_fail R' 1 = some R2 from a1, ob_eq] at cl'
      rw [if_neg u2, show f_X12_bad M' 1 = some (0, M2) from a2, ob_eq] at mo'
      have hne : ¬ Rd_fault R2 = 0 := by obtain ⟨fk, pl, w1, -⟩ := a3; exact w1.ne
      refine lost P' R2 M2 ?_ a3 (a4.bl.trans hbl') mo'
      rw [cl']
      unfold f_X5_read_b30
      rw [if_neg hne]
    · right
      obtain ⟨f1, f2, f3⟩ := pBl_rest hbl'
      have f4 := (pBl_now hbl').1
      rw [u1, ob_eq] at cl'
      simp only at cl'
      unfold f_X5_read_b30 at cl'
      rw [if_pos trivial, if_pos hG.2.2.1] at cl'
      rw [if_pos u2] at mo'
      have e1 : ∀ (a b : Nat → Int32), Mo_s_now (Mo_s_now M' a) b = Mo_s_now M' b := fun a b => by simp only [Mo_s_now]
      rw [e1, show Mo_now (Mo_s_now M' (upd (Mo_now M') (516 : Int32).toNatClampNeg 1)) = upd (Mo_now M') 516 1 from rfl, show Mo_top (Mo_s_now M' (upd (Mo_now M') (516 : Int32).toNatClampNeg 1)) = Mo_top M' from rfl, g11, show (517 : Int32).toNatClampNeg = 517 from rfl] at mo'
      have lp := pm_sen_loop M' 240 (k := 0) (fu := zFU) (upd (upd (Mo_now M') 516 1) 517 (zn t)) (by omega) (zFU_ge (by omega))
      have mo2 := mo'.trans lp
      rw [g3.2.1.2.2] at mo2
      refine ⟨zn o', P', Rd_s_length R' 0, _, ?_, mo2, pRdr.end' (hG.2.2.1.trans hG.2.2.2.symm) ?_ hG.1.2.2.2.2.2.2.2.2, f3.trans b6, ?_, fun j hj => ?_, Or.inr ⟨ko', so', vo', p', o', d, t, g3.2.1.1, by omega, h20, g3.2.2.1, by have := g3.2.2.2.1; omega, g9, ?_, ?_, by omega, ?_⟩⟩
      · unfold f_X11_sentence
        rw [cl', ob_eq, zl_eq]
        simp only
        rw [if_neg n10, g3.2.1.1]
      · show M'.1.2 = 0
        rw [f2, b4]
      · rw [pRest_now]; exact f1.trans (pRest_of b5)
      · show pCpy (upd (upd (Mo_now M') 516 1) 517 (zn t)) (Mo_node M') 518 0 0 240 j = _
        rw [pCpy_out _ _ (by omega), pu_ne _ _ (by omega), pu_ne _ _ (by omega), f4, bN]
      · show pCpy (upd (upd (Mo_now M') 516 1) 517 (zn t)) (Mo_node M') 518 0 0 240 516 = _
        rw [pCpy_out _ _ (by omega), pu_ne _ _ (by omega), pu_eq]
      · show pCpy (upd (upd (Mo_now M') 516 1) 517 (zn t)) (Mo_node M') 518 0 0 240 517 = _
        rw [pCpy_out _ _ (by omega), pu_eq]
      · refine pNd_up (show p' ≤ 60 by omega) (pNd_cg (fun j hj => ?_) g12)
        show pCpy (upd (upd (Mo_now M') 516 1) 517 (zn t)) (Mo_node M') 518 0 0 240 (518 + j) = _
        rw [pCpy_in _ _ (by omega), Nat.zero_add]
    · left
      obtain ⟨R3, M2, a1, a2, a3, a4⟩ := hG.bad (k := 1) (by omega) (by omega) (Or.inl rfl)
      have a1' : f_X7_fail R' 1 = some R3 := a1
      rw [u3] at a1'
      have e := Option.some.inj a1'
      subst e
      rw [u1, ob_eq] at cl'
      simp only at cl'
      have hne : ¬ Rd_fault R2 = 0 := by obtain ⟨fk, pl, w1, -⟩ := a3; exact w1.ne
      unfold f_X5_read_b30 at cl'
      rw [if_pos trivial, if_neg hne] at cl'
      rw [if_neg (show ¬ Mo_kind M' = 0 by rw [u2]; decide), show f_X12_bad M' 1 = some (0, M2) from a2, ob_eq] at mo'
      exact lost P' R2 M2 cl' a3 (a4.bl.trans hbl') mo'
  · left
    have cl' := cl _ g1
    have mo' := mo _ g2
    simp only at cl' mo'
    rw [if_pos trivial] at mo'
    have hne : ¬ Rd_fault R' = 0 := by obtain ⟨fk, pl, w1, -⟩ := g3; exact w1.ne
    have hmore : f_X7_more R' = some (0, R') := by obtain ⟨fk, pl, w1, -⟩ := g3; exact w1.more
    rw [hmore, ob_eq] at cl'
    simp only at cl'
    unfold f_X5_read_b30 at cl'
    rw [if_pos trivial, if_neg hne] at cl'
    exact lost P' R' M' cl' g3 (g6.trans hbl) mo'
theorem q_said_loop (hv : pV D) (hc : pLc D L) (hL : pLm D (Mo_now M)) (hK : pFc D F K) (hF : pFm D F (Mo_now M)) (hV : pFv D F) (X : XxT) {P : PhT} {ko so vo : Nat → Nat} {p t : Nat} {d : pF → Nat → Bool} (hP : pPh P ko so vo p) (h20 : pOnes ko p ≤ 20) (hs : pSgm D ko so vo 0 p d) (ht : Mo_now M 517 = zn t) (hn : pNd D (fun j => Mo_now M (518 + j)) 60 t d) (s : Int32) (x1 : Int32) : ∀ (e : Nat) {m c f1 f2 : Nat} (a b : Int32), m + e = pD_nm D → c ≤ m → e + 1 ≤ f1 → e + 1 ≤ f2 →
    ∃ r a' b', f_X11_said_L21 X P L K f1 x1 (zn c) (zn m) = some r ∧ f_X12_said_L22 f2 (pM M (Mo_now M) s a b) x1 (zn c) (zn m) = some (r, pM M (Mo_now M) s a' b') := by
  have hnm := hv.nm
  intro e
  induction e with
  | zero =>
    intro m c f1 f2 a b h1 h2 h3 h4
    cases f1 with
    | zero => omega
    | succ f1 =>
    cases f2 with
    | zero => omega
    | succ f2 =>
      show ∃ r a' b', f_X11_said_H21 X P L K (f_X11_said_L21 X P L K f1) x1 (zn c) (zn m) = some r ∧ f_X12_said_H22 (pM M (Mo_now M) s a b) (f_X12_said_L22 f2) x1 (zn c) (zn m) = some (r, pM M (Mo_now M) s a' b')
      unfold f_X11_said_H21 f_X12_said_H22
      have c0 : ¬ zn m < zn (pD_nm D) := by rw [zn_lt (by omega) (by omega)]; omega
      rw [hc.1.2.2.1, pM_now, show Mo_now M (2 : Int32).toNatClampNeg = zn (pD_nm D) from hL.1.2.2.1, if_neg c0, if_neg c0]
      by_cases q : x1 = (-1 : Int32)
      · rw [if_pos q, if_pos q]; exact ⟨_, _, _, rfl, rfl⟩
      · rw [if_neg q, if_neg q]; exact ⟨_, _, _, rfl, rfl⟩
  | succ e ih =>
    intro m c f1 f2 a b h1 h2 h3 h4
    cases f1 with
    | zero => omega
    | succ f1 =>
    cases f2 with
    | zero => omega
    | succ f2 =>
      have hm : m < pD_nm D := by omega
      have c0 : zn m < zn (pD_nm D) := by rw [zn_lt (by omega) (by omega)]; omega
      have hcl := pc_holds hv hc hK hV hm hP h20
      have hrun := hs.2 F m 0
      rw [Nat.sub_zero] at hrun
      have hcl2 : f_X5_holds P L K (zn m) = some (if d F m = true then 1 else 0) := by
        rw [hcl, hrun]
        cases d F m <;> rfl
      obtain ⟨a', b', hmo⟩ := pm_holds hv hL hF hV (nd := fun j => Mo_now M (518 + j)) (fun j _ => rfl) M s hm 60 (g := 70) a b hn (by omega)
      show ∃ r a' b', f_X11_said_H21 X P L K (f_X11_said_L21 X P L K f1) x1 (zn c) (zn m) = some r ∧ f_X12_said_H22 (pM M (Mo_now M) s a b) (f_X12_said_L22 f2) x1 (zn c) (zn m) = some (r, pM M (Mo_now M) s a' b')
      unfold f_X11_said_H21 f_X12_said_H22 f_X11_said_b61 f_X12_said_b61
      rw [hc.1.2.2.1, pM_now, show Mo_now M (2 : Int32).toNatClampNeg = zn (pD_nm D) from hL.1.2.2.1, if_pos c0, if_pos c0, hcl2, ob_eq, show Mo_now M (517 : Int32).toNatClampNeg = zn t from ht, show f_X12_holds 70 (pM M (Mo_now M) s a b) (zn t) (zn m) = _ from hmo, ob_eq, show zn m + 1 = zn (m + 1) from zn_add m 1, show zn c + 1 = zn (c + 1) from zn_add c 1]
      cases d F m
      · exact ih a' b' (by omega) (by omega) (by omega) (by omega)
      · simp only [if_true, if_neg n10]
        by_cases q : zn c = x1
        · rw [if_pos q, if_pos q]; exact ⟨_, a', b', rfl, rfl⟩
        · rw [if_neg q, if_neg q]
          exact ih a' b' (by omega) (by omega) (by omega) (by omega)
/-- below -1 nobody is told -/
theorem q_said_low (hv : pV D) (hc : pLc D L) (X : XxT) {P : PhT} {x1 : Int32} (hx : x1 < (-1 : Int32)) : ∀ (e : Nat) {m c fu : Nat} {r : Int32}, m + e = pD_nm D → c ≤ m → f_X11_said_L21 X P L K fu x1 (zn c) (zn m) = some r → r = -1 := by
  have hnm := hv.nm
  have ne : ∀ c, c < 100 → ¬ zn c = x1 := by
    intro c h e
    rw [← e] at hx
    have := (zm_lt' (show c < 2147483648 by omega)).mp hx
    exact this
  have ne1 : ¬ x1 = (-1 : Int32) := by
    intro e
    rw [e] at hx
    exact absurd hx (by decide)
  intro e
  induction e with
  | zero =>
    intro m c fu r h1 h2 hr
    cases fu with
    | zero => exact nomatch (show (none : Option Int32) = some r from hr)
    | succ fu =>
      have hr' : f_X11_said_H21 X P L K (f_X11_said_L21 X P L K fu) x1 (zn c) (zn m) = some r := hr
      unfold f_X11_said_H21 at hr'
      rw [hc.1.2.2.1, if_neg (show ¬ zn m < zn (pD_nm D) by rw [zn_lt (by omega) (by omega)]; omega), if_neg ne1] at hr'
      exact (Option.some.inj hr').symm
  | succ e ih =>
    intro m c fu r h1 h2 hr
    cases fu with
    | zero => exact nomatch (show (none : Option Int32) = some r from hr)
    | succ fu =>
      have hr' : f_X11_said_H21 X P L K (f_X11_said_L21 X P L K fu) x1 (zn c) (zn m) = some r := hr
      unfold f_X11_said_H21 f_X11_said_b61 at hr'
      rw [hc.1.2.2.1, if_pos (show zn m < zn (pD_nm D) by rw [zn_lt (by omega) (by omega)]; omega)] at hr'
      obtain ⟨q1, e1, hr'⟩ := zbi_of hr'
      rw [show zn m + 1 = zn (m + 1) from zn_add m 1, show zn c + 1 = zn (c + 1) from zn_add c 1] at hr'
      by_cases z : q1 = 0
      · rw [if_pos z] at hr'; exact ih (by omega) (by omega) hr'
      · rw [if_neg z, if_neg (ne c (by omega))] at hr'; exact ih (by omega) (by omega) hr'
theorem q_said (hv : pV D) (hc : pLc D L) (hL : pLm D (Mo_now M)) (hK : pFc D F K) (hF : pFm D F (Mo_now M)) (hV : pFv D F) (X : XxT) {P : PhT} (hS : pSen D P (Mo_now M)) (x1 : Int32) :
    ∃ r a b, f_X11_said X P L K x1 = some r ∧ f_X12_said M x1 = some (r, pM (Mo_s_thrown M 0) (Mo_now M) (Mo_seed M) a b) := by
  have hnm := hv.nm
  unfold f_X11_said f_X12_said
  rw [zl_eq]
  have eM : Mo_s_thrown M 0 = pM (Mo_s_thrown M 0) (Mo_now M) (Mo_seed M) (Mo_roadThere M) (Mo_placeThere M) := rfl
  rcases hS with ⟨h1, h2⟩ | ⟨ko, so, vo, p, o, d, t, h1, h2, h3, h4, h5, h6, h7, h8, h9, h10⟩
  · rw [if_pos h1, show Mo_now (Mo_s_thrown M 0) (516 : Int32).toNatClampNeg = 0 from h2, if_pos rfl]
    exact ⟨_, _, _, rfl, congrArg (fun z => some ((-1 : Int32), z)) eM⟩
  · rw [h1, if_neg (show ¬ zn o = (0 : Int32) by rw [zn_eq0 (by omega)]; omega), show Mo_now (Mo_s_thrown M 0) (516 : Int32).toNatClampNeg = 1 from h7, if_neg n10]
    obtain ⟨r, a', b', r1, r2⟩ := q_said_loop (M := Mo_s_thrown M 0) hv hc hL hK hF hV X h4 h5 h6 h8 h10 (Mo_seed M) x1 (pD_nm D) (m := 0) (c := 0) (f1 := zFU) (f2 := zFU) (Mo_roadThere M) (Mo_placeThere M) (by omega) (Nat.le_refl _) (zFU_ge (by omega)) (zFU_ge (by omega))
    have r2' : f_X12_said_L22 zFU (Mo_s_thrown M 0) x1 0 0 = some (r, pM (Mo_s_thrown M 0) (Mo_now M) (Mo_seed M) a' b') := r2
    by_cases q : x1 < (-1 : Int32)
    · rw [if_pos q, r2']
      refine ⟨-1, a', b', rfl, ?_⟩
      have hr : r = -1 := by
        have := q_said_low (D := D) hv hc X (P := P) (K := K) q (pD_nm D) (m := 0) (c := 0) (fu := zFU) (by omega) (by omega) (r := r) r1
        exact this
      rw [hr]
    · rw [if_neg q]
      exact ⟨r, a', b', r1, r2'⟩
end
