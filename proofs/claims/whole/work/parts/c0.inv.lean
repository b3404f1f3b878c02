/-! THE INVARIANT between two calls -/
theorem pWay.cg {X : XxT} {M M' : MoT} (h : pWay X M) (e1 : Mo_going M' = Mo_going M) (e2 : Mo_goingMany M' = Mo_goingMany M) : pWay X M' := by unfold pWay; rw [e1, e2]; exact h
theorem pPlan.cg {P : PlT} {M M' : MoT} (h : pPlan P M) (e1 : Mo_planLong M' = Mo_planLong M) (e2 : Mo_planned M' = Mo_planned M) : pPlan P M' := by unfold pPlan; rw [e1, e2]; exact h
theorem pSent.cg {S : SnT} {M M' : MoT} (h : pSent S M) (e1 : Mo_hasSent M' = Mo_hasSent M) (e2 : Mo_given M' = Mo_given M) : pSent S M' := by unfold pSent; rw [e1, e2]; exact h
theorem pText.cg {S : ScT} {M M' : MoT} (h : pText S M) (e1 : Mo_texts M' = Mo_texts M) (e2 : Mo_text M' = Mo_text M) : pText S M' := by unfold pText; rw [e1, e2]; exact h
theorem pTold.cg {G : LgT} {M M' : MoT} (h : pTold G M) (e1 : Mo_hasWritten M' = Mo_hasWritten M) (e2 : Mo_written M' = Mo_written M) : pTold G M' := by unfold pTold; rw [e1, e2]; exact h
/-- what was told last -/
def pTd (X : XxT) (Pl : PlT) (Sn : SnT) (Ct : CtT) (Sc : ScT) (Tr : TrT) (M : MoT) : Prop := pWay X M ∧ pPlan Pl M ∧ pSent Sn M ∧ pText Sc M ∧ Ct_latest Ct = Mo_cutting M ∧ Tr_least Tr = Mo_turnedLeast M ∧ Tr_greatest Tr = Mo_turnedGreatest M
def pTdV (M : MoT) := ((Mo_going M, Mo_goingMany M), M.2.2.2.2.2.2.2.2.1, M.2.2.2.2.2.2.2.2.2.1, M.2.2.2.2.2.2.2.2.2.2.1)
theorem pTd.fr {X : XxT} {Pl : PlT} {Sn : SnT} {Ct : CtT} {Sc : ScT} {Tr : TrT} {M M' : MoT} (h : pTd X Pl Sn Ct Sc Tr M) (e : pTdV M' = pTdV M) : pTd X Pl Sn Ct Sc Tr M' := by
  obtain ⟨h1, h2, h3, h4, h5, h6, h7⟩ := h
  have ea : Mo_going M' = Mo_going M := congrArg (fun z => z.1.1) e
  have eb : Mo_goingMany M' = Mo_goingMany M := congrArg (fun z => z.1.2) e
  have ec : Mo_planLong M' = Mo_planLong M := congrArg (fun z => z.2.1.2.2.2.2) e
  have ed : Mo_planned M' = Mo_planned M := congrArg (fun z => z.2.1.2.2.1) e
  have ee : Mo_hasSent M' = Mo_hasSent M := congrArg (fun z => z.2.2.1.2.2.2.2.1) e
  have ef : Mo_given M' = Mo_given M := congrArg (fun z => z.2.2.1.2.1) e
  have eg : Mo_texts M' = Mo_texts M := congrArg (fun z => z.2.2.2.2.2.2.2) e
  have eh : Mo_text M' = Mo_text M := congrArg (fun z => z.2.2.2.2.2.2.1) e
  have ei : Mo_cutting M' = Mo_cutting M := congrArg (fun z => z.2.2.2.1) e
  have ej : Mo_turnedLeast M' = Mo_turnedLeast M := congrArg (fun z => z.2.2.2.2.1) e
  have ek : Mo_turnedGreatest M' = Mo_turnedGreatest M := congrArg (fun z => z.2.2.2.2.2.1) e
  exact ⟨h1.cg ea eb, h2.cg ec ed, h3.cg ee ef, h4.cg eg eh, h5.trans ei.symm, h6.trans ej.symm, h7.trans ek.symm⟩
theorem pTdV_oth {M M' : MoT} (h : pOth M' = pOth M) : pTdV M' = pTdV M := congrArg (fun z => (z.2.2.1, z.2.2.2.1, z.2.2.2.2.1, z.2.2.2.2.2)) h
theorem pOth_rest {M M' : MoT} (h : pRest M' = pRest M) : pOth M' = pOth M := congrArg (fun z => (z.2.1, z.2.2.1, (z.2.2.2.2.1.2.2.1, z.2.2.2.2.1.2.2.2), z.2.2.2.2.2.1, z.2.2.2.2.2.2.1, z.2.2.2.2.2.2.2.1)) h
theorem pOth_name {M M' : MoT} (h : pOth M' = pOth M) : Mo_name M' = Mo_name M := congrArg (fun z => z.1) h
theorem pOth_kept {M M' : MoT} (h : pOth M' = pOth M) : M'.2.2.2.2.2.1 = M.2.2.2.2.2.1 := congrArg (fun z => z.2.1) h
/-- the class's state and the reference's -/
def pInv (X : XxT) (R : RdT) (L : LdT) (K : FkT) (P : PhT) (Hi : HiT) (H : H8T) (Lg : LgT) (Pl : PlT) (Sn : SnT) (Ct : CtT) (Sc : ScT) (Tr : TrT) (o0 o1 : Option (LdT × FkT × PhT)) (M : MoT) : Prop :=
  ∃ D F, (pV D ∧ pLc D L ∧ pLm D (Mo_now M) ∧ pNn D L (Mo_name M)) ∧ (pFc D F K ∧ pFm D F (Mo_now M) ∧ pFv D F) ∧ pRdr R M ∧ pHi D Hi H (Mo_snaps M) (Mo_snapMany M) ∧ pSen D P (Mo_now M) ∧ pTd X Pl Sn Ct Sc Tr M ∧ pTold Lg M ∧ pImg 0 o0 M ∧ pImg 1 o1 M
/-- all that the invariant speaks of -/
def pVw (M : MoT) := (M.1, Mo_fault M, M.2.2.2.2.1, M.2.2.2.2.2.1, (Mo_snaps M, Mo_snapMany M), (Mo_going M, Mo_goingMany M), M.2.2.2.2.2.2.2.2.1, M.2.2.2.2.2.2.2.2.2.1, M.2.2.2.2.2.2.2.2.2.2.1, (Mo_written M, Mo_hasWritten M))
theorem pImg.fr {j : Nat} {o : Option (LdT × FkT × PhT)} {M M' : MoT} (e : M'.2.2.2.2.2.1 = M.2.2.2.2.2.1) (h : pImg j o M) : pImg j o M' := h.cg e
theorem pRdr.cg {R : RdT} {M M' : MoT} (h : pRdr R M) (e1 : Mo_fault M' = Mo_fault M) (e2 : Mo_tape M' = Mo_tape M) (e3 : Mo_taped M' = Mo_taped M) : pRdr R M' := by unfold pRdr; rw [e1, e2, e3]; exact h
section
variable {X : XxT} {R : RdT} {L : LdT} {K : FkT} {P : PhT} {Hi : HiT} {H : H8T} {Lg : LgT} {Pl : PlT} {Sn : SnT} {Ct : CtT} {Sc : ScT} {Tr : TrT} {o0 o1 : Option (LdT × FkT × PhT)} {M M' : MoT}
theorem pInv.fr (h : pInv X R L K P Hi H Lg Pl Sn Ct Sc Tr o0 o1 M) (e : pVw M' = pVw M) : pInv X R L K P Hi H Lg Pl Sn Ct Sc Tr o0 o1 M' := by
  obtain ⟨D, F, ⟨hv, hc, hm, hn⟩, ⟨hK, hF, hV⟩, hR, hH, hS, hT, hG, h0, h1⟩ := h
  have e1 : Mo_tape M' = Mo_tape M := congrArg (fun z => z.1.1) e
  have e2 : Mo_taped M' = Mo_taped M := congrArg (fun z => z.1.2) e
  have e3 : Mo_fault M' = Mo_fault M := congrArg (fun z => z.2.1) e
  have e4 : Mo_now M' = Mo_now M := congrArg (fun z => z.2.2.1.1) e
  have e5 : Mo_name M' = Mo_name M := congrArg (fun z => z.2.2.1.2) e
  have e6 : M'.2.2.2.2.2.1 = M.2.2.2.2.2.1 := congrArg (fun z => z.2.2.2.1) e
  have e7 : Mo_snaps M' = Mo_snaps M := congrArg (fun z => z.2.2.2.2.1.1) e
  have e8 : Mo_snapMany M' = Mo_snapMany M := congrArg (fun z => z.2.2.2.2.1.2) e
  have e9 : pTdV M' = pTdV M := congrArg (fun z => (z.2.2.2.2.2.1, z.2.2.2.2.2.2.1, z.2.2.2.2.2.2.2.1, z.2.2.2.2.2.2.2.2.1)) e
  have ea : Mo_written M' = Mo_written M := congrArg (fun z => z.2.2.2.2.2.2.2.2.2.1) e
  have eb : Mo_hasWritten M' = Mo_hasWritten M := congrArg (fun z => z.2.2.2.2.2.2.2.2.2.2) e
  refine ⟨D, F, ⟨hv, hc, ?_, ?_⟩, ⟨hK, ?_, hV⟩, hR.cg e3 e1 e2, ?_, ?_, hT.fr e9, hG.cg eb ea, h0.cg e6, h1.cg e6⟩
  · rw [e4]; exact hm
  · rw [e5]; exact hn
  · rw [e4]; exact hF
  · rw [e7, e8]; exact hH
  · rw [e4]; exact hS
theorem vw_thrown (M : MoT) (x : Int32) : pVw (Mo_s_thrown M x) = pVw M := rfl
theorem vw_pM (M : MoT) (s a b : Int32) : pVw (pM M (Mo_now M) s a b) = pVw M := Eq.trans rfl rfl
theorem vw_pMt (M : MoT) (x s a b : Int32) : pVw (pM (Mo_s_thrown M x) (Mo_now M) s a b) = pVw M := (vw_pM (Mo_s_thrown M x) s a b).trans (vw_thrown M x)
theorem pInv.th (h : pInv X R L K P Hi H Lg Pl Sn Ct Sc Tr o0 o1 M) (x : Int32) : pInv X R L K P Hi H Lg Pl Sn Ct Sc Tr o0 o1 (Mo_s_thrown M x) := h.fr (vw_thrown M x)
/-! the calls, one by one -/
theorem s_feed (h : pInv X R L K P Hi H Lg Pl Sn Ct Sc Tr o0 o1 M) (x1 x2 x3 x4 x5 : Int32) : ∃ r R' M', f_X11_feed X R x1 x2 x3 x4 x5 = some (r, R') ∧ f_X12_feed M x1 x2 x3 x4 x5 = some (r, M') ∧ pInv X R' L K P Hi H Lg Pl Sn Ct Sc Tr o0 o1 M' := by
  obtain ⟨D, F, hD, hF, hR, hH, hS, hT, hG, h0, h1⟩ := h
  obtain ⟨r, T, t, n, a1, a2, a3⟩ := q_feed hR.2.1 X x1 x2 x3 x4 x5
  exact ⟨r, _, _, a1, a2, D, F, hD, hF, ⟨hR.1, a3, hR.2.2⟩, hH, hS, hT.fr rfl, hG.cg rfl rfl, h0.fr rfl, h1.fr rfl⟩
theorem s_end (h : pInv X R L K P Hi H Lg Pl Sn Ct Sc Tr o0 o1 M) (x1 : Int32) : ∃ r R' M', f_X11_end X R x1 = some (r, R') ∧ f_X12_end M x1 = some (r, M') ∧ pInv X R' L K P Hi H Lg Pl Sn Ct Sc Tr o0 o1 M' := by
  obtain ⟨D, F, hD, hF, hR, hH, hS, hT, hG, h0, h1⟩ := h
  obtain ⟨r, n, a1, a2, a3⟩ := q_end hR.2.1 X x1
  exact ⟨r, _, _, a1, a2, D, F, hD, hF, ⟨hR.1, a3, hR.2.2⟩, hH, hS, hT.fr rfl, hG.cg rfl rfl, h0.fr rfl, h1.fr rfl⟩
theorem s_fault (h : pInv X R L K P Hi H Lg Pl Sn Ct Sc Tr o0 o1 M) : ∃ r M', f_X11_fault X R = some r ∧ f_X12_fault M = some (r, M') ∧ pInv X R L K P Hi H Lg Pl Sn Ct Sc Tr o0 o1 M' := by
  have hh := h
  obtain ⟨D, F, hD, hF, hR, hH, hS, hT, hG, h0, h1⟩ := h
  obtain ⟨r, a1, a2⟩ := q_fault X hR.1
  exact ⟨r, _, a1, a2, hh.th 0⟩
theorem s_place (h : pInv X R L K P Hi H Lg Pl Sn Ct Sc Tr o0 o1 M) (x1 x2 : Int32) : ∃ r M', f_X11_place X L K x1 x2 = some r ∧ f_X12_place M x1 x2 = some (r, M') ∧ pInv X R L K P Hi H Lg Pl Sn Ct Sc Tr o0 o1 M' := by
  have hh := h
  obtain ⟨D, F, ⟨hv, hc, hm, hn⟩, ⟨hK, hF, hV⟩, -⟩ := h
  obtain ⟨r, a, b, a1, a2⟩ := q_place hv hc hm hK hF hV X x1 x2
  exact ⟨r, _, a1, a2, hh.fr (vw_pMt M 0 _ _ _)⟩
theorem s_road (h : pInv X R L K P Hi H Lg Pl Sn Ct Sc Tr o0 o1 M) (x1 x2 x3 : Int32) : ∃ r M', f_X11_road X L x1 x2 x3 = some r ∧ f_X12_road M x1 x2 x3 = some (r, M') ∧ pInv X R L K P Hi H Lg Pl Sn Ct Sc Tr o0 o1 M' := by
  have hh := h
  obtain ⟨D, F, ⟨hv, hc, hm, hn⟩, -⟩ := h
  obtain ⟨r, a1, a2⟩ := q_road hv hc hm X x1 x2 x3
  exact ⟨r, _, a1, a2, hh.th 0⟩
theorem s_man (h : pInv X R L K P Hi H Lg Pl Sn Ct Sc Tr o0 o1 M) (x1 x2 : Int32) : (∃ r M', f_X11_man X L K x1 x2 = some none ∧ f_X12_man M x1 x2 = some (r, M') ∧ Mo_thrown M' = 1 ∧ pInv X R L K P Hi H Lg Pl Sn Ct Sc Tr o0 o1 M') ∨ (∃ r M', f_X11_man X L K x1 x2 = some (some r) ∧ f_X12_man M x1 x2 = some (r, M') ∧ Mo_thrown M' = 0 ∧ pInv X R L K P Hi H Lg Pl Sn Ct Sc Tr o0 o1 M') := by
  have hh := h
  obtain ⟨D, F, ⟨hv, hc, hm, hn⟩, ⟨hK, hF, hV⟩, -⟩ := h
  rcases q_man hv hc hm hK hF hV X x1 x2 with ⟨a1, a2⟩ | ⟨r, a1, a2⟩
  · exact Or.inl ⟨0, _, a1, a2, rfl, hh.th 1⟩
  · exact Or.inr ⟨r, _, a1, a2, rfl, hh.th 0⟩
theorem s_now (h : pInv X R L K P Hi H Lg Pl Sn Ct Sc Tr o0 o1 M) (x1 : Int32) : ∃ r M', f_X11_now X K L x1 = some r ∧ f_X12_now M x1 = some (r, M') ∧ pInv X R L K P Hi H Lg Pl Sn Ct Sc Tr o0 o1 M' := by
  have hh := h
  obtain ⟨D, F, ⟨hv, hc, hm, hn⟩, ⟨hK, hF, hV⟩, -⟩ := h
  obtain ⟨r, a1, a2⟩ := q_now hv hc hm hK hF X x1
  exact ⟨r, _, a1, a2, hh.th 0⟩
theorem s_acts (h : pInv X R L K P Hi H Lg Pl Sn Ct Sc Tr o0 o1 M) {D : pD} (hv : pV D) (hc : pLc D L) (hm : pLm D (Mo_now M)) (hn : pNn D L (Mo_name M)) (hS : pSen D P (Mo_now M)) {cl : Option (Int32 × FkT × FkT × HiT × H8T)} {mo : Option (Int32 × MoT)} (ho : pActOut D M cl mo) :
    ∃ r K2 K' Hi' H' M', cl = some (r, K2, K', Hi', H') ∧ mo = some (r, M') ∧ pInv X R L K' P Hi' H' Lg Pl Sn Ct Sc Tr o0 o1 M' := by
  obtain ⟨r, K2, K', Hi', H', S', n', w', s', a', b', F', a1, a2, a3, a4, a5, a6, a7⟩ := ho
  obtain ⟨D0, F0, -, -, hR, -, -, hT, hG, h0, h1⟩ := h
  refine ⟨r, K2, K', Hi', H', _, a1, a2, D, F', ⟨hv, hc, hm.fr' hv a7, hn⟩, ⟨a4, a5, a6⟩, hR.cg rfl rfl rfl, a3, hS.cg (fun j q1 q2 => a7 j (Or.inr q1)), hT.fr rfl, hG.cg rfl rfl, h0.fr rfl, h1.fr rfl⟩
theorem s_swear (h : pInv X R L K P Hi H Lg Pl Sn Ct Sc Tr o0 o1 M) (K2 : FkT) (x1 x2 x3 : Int32) : ∃ r K2' K' Hi' H' M', f_X11_swear X L K2 K Hi H x1 x2 x3 = some (r, K2', K', Hi', H') ∧ f_X12_swear M x1 x2 x3 = some (r, M') ∧ pInv X R L K' P Hi' H' Lg Pl Sn Ct Sc Tr o0 o1 M' := by
  have hh := h
  obtain ⟨D, F, ⟨hv, hc, hm, hn⟩, ⟨hK, hF, hV⟩, hR, hH, hS, -⟩ := h
  exact s_acts hh hv hc hm hn hS (q_swear hv hc hm hH hK hF hV X K2 x1 x2 x3)
theorem s_order (h : pInv X R L K P Hi H Lg Pl Sn Ct Sc Tr o0 o1 M) (K2 : FkT) (x1 x2 : Int32) : ∃ r K2' K' Hi' H' M', f_X11_order X L K2 K Hi H x1 x2 = some (r, K2', K', Hi', H') ∧ f_X12_order M x1 x2 = some (r, M') ∧ pInv X R L K' P Hi' H' Lg Pl Sn Ct Sc Tr o0 o1 M' := by
  have hh := h
  obtain ⟨D, F, ⟨hv, hc, hm, hn⟩, ⟨hK, hF, hV⟩, hR, hH, hS, -⟩ := h
  exact s_acts hh hv hc hm hn hS (q_order hv hc hm hH hK hF hV X K2 x1 x2)
theorem s_slip (h : pInv X R L K P Hi H Lg Pl Sn Ct Sc Tr o0 o1 M) (K2 : FkT) (x1 : Int32) : ∃ r K2' K' Hi' H' M', f_X11_slip X L K2 K Hi H x1 = some (r, K2', K', Hi', H') ∧ f_X12_slip M x1 = some (r, M') ∧ pInv X R L K' P Hi' H' Lg Pl Sn Ct Sc Tr o0 o1 M' := by
  have hh := h
  obtain ⟨D, F, ⟨hv, hc, hm, hn⟩, ⟨hK, hF, hV⟩, hR, hH, hS, -⟩ := h
  exact s_acts hh hv hc hm hn hS (q_slip hv hc hm hH hK hF hV X K2 x1)
theorem s_enter (h : pInv X R L K P Hi H Lg Pl Sn Ct Sc Tr o0 o1 M) (K2 : FkT) (x1 : Int32) : ∃ r K2' K' Hi' H' M', f_X11_enter X L K2 K Hi H x1 = some (r, K2', K', Hi', H') ∧ f_X12_enter M x1 = some (r, M') ∧ pInv X R L K' P Hi' H' Lg Pl Sn Ct Sc Tr o0 o1 M' := by
  have hh := h
  obtain ⟨D, F, ⟨hv, hc, hm, hn⟩, ⟨hK, hF, hV⟩, hR, hH, hS, -⟩ := h
  exact s_acts hh hv hc hm hn hS (q_enter hv hc hm hH hK hF hV X K2 x1)
theorem s_get (h : pInv X R L K P Hi H Lg Pl Sn Ct Sc Tr o0 o1 M) (K2 : FkT) (x1 x2 : Int32) : ∃ r K2' K' Hi' H' M', f_X11_get X L K2 K Hi H x1 x2 = some (r, K2', K', Hi', H') ∧ f_X12_get M x1 x2 = some (r, M') ∧ pInv X R L K' P Hi' H' Lg Pl Sn Ct Sc Tr o0 o1 M' := by
  have hh := h
  obtain ⟨D, F, ⟨hv, hc, hm, hn⟩, ⟨hK, hF, hV⟩, hR, hH, hS, -⟩ := h
  exact s_acts hh hv hc hm hn hS (q_get hv hc hm hH hK hF hV X K2 x1 x2)
theorem s_days (h : pInv X R L K P Hi H Lg Pl Sn Ct Sc Tr o0 o1 M) (K2 : FkT) (x1 x2 : Int32) : ∃ r K2' K' Hi' H' M', f_X11_days X K2 K L Hi H x1 x2 = some (r, K2', K', Hi', H') ∧ f_X12_days M x1 x2 = some (r, M') ∧ pInv X R L K' P Hi' H' Lg Pl Sn Ct Sc Tr o0 o1 M' := by
  have hh := h
  obtain ⟨D, F, ⟨hv, hc, hm, hn⟩, ⟨hK, hF, hV⟩, hR, hH, hS, -⟩ := h
  exact s_acts hh hv hc hm hn hS (q_days hv hc hm hH hK hF hV X K2 x1 x2)
theorem s_undo (h : pInv X R L K P Hi H Lg Pl Sn Ct Sc Tr o0 o1 M) : ∃ r Hi' K' M', f_X11_undo X Hi K H = some (r, Hi', K') ∧ f_X12_undo M = some (r, M') ∧ pInv X R L K' P Hi' H Lg Pl Sn Ct Sc Tr o0 o1 M' := by
  obtain ⟨D, F, ⟨hv, hc, hm, hn⟩, ⟨hK, hF, hV⟩, hR, hH, hS, hT, hG, h0, h1⟩ := h
  obtain ⟨r, Hi', K', w', n', F', a1, a2, a3, a4, a5, a6, a7⟩ := q_undo hv hH hK hF hV X
  exact ⟨r, Hi', K', _, a1, a2, D, F', ⟨hv, hc, hm.fr' hv a7, hn⟩, ⟨a4, a5, a6⟩, hR.cg rfl rfl rfl, a3, hS.cg (fun j q1 q2 => a7 j (Or.inr q1)), hT.fr rfl, hG.cg rfl rfl, h0.fr rfl, h1.fr rfl⟩
theorem s_far (h : pInv X R L K P Hi H Lg Pl Sn Ct Sc Tr o0 o1 M) (x1 x2 : Int32) : ∃ r M', f_X11_far X L x1 x2 = some r ∧ f_X12_far M x1 x2 = some (r, M') ∧ pInv X R L K P Hi H Lg Pl Sn Ct Sc Tr o0 o1 M' := by
  have hh := h
  obtain ⟨D, F, ⟨hv, hc, hm, hn⟩, -⟩ := h
  obtain ⟨r, a1, a2⟩ := q_far hv hc hm X x1 x2
  exact ⟨r, _, a1, a2, hh.th 0⟩
theorem s_way (h : pInv X R L K P Hi H Lg Pl Sn Ct Sc Tr o0 o1 M) (x1 x2 : Int32) : ∃ r X' M', f_X11_way X L x1 x2 = some (r, X') ∧ f_X12_way M x1 x2 = some (r, M') ∧ pInv X' R L K P Hi H Lg Pl Sn Ct Sc Tr o0 o1 M' := by
  obtain ⟨D, F, ⟨hv, hc, hm, hn⟩, hF, hR, hH, hS, ⟨t1, t2, t3, t4, t5, t6, t7⟩, hG, h0, h1⟩ := h
  obtain ⟨r, X', G', n', a1, a2, a3⟩ := q_way hv hc hm X t1 x1 x2
  exact ⟨r, X', _, a1, a2, D, F, ⟨hv, hc, hm, hn⟩, hF, hR.cg rfl rfl rfl, hH, hS, ⟨a3, t2.cg rfl rfl, t3.cg rfl rfl, t4.cg rfl rfl, t5, t6, t7⟩, hG.cg rfl rfl, h0.fr rfl, h1.fr rfl⟩
theorem s_wayAt (h : pInv X R L K P Hi H Lg Pl Sn Ct Sc Tr o0 o1 M) (x1 : Int32) : ∃ r M', f_X11_wayAt X x1 = some r ∧ f_X12_wayAt M x1 = some (r, M') ∧ pInv X R L K P Hi H Lg Pl Sn Ct Sc Tr o0 o1 M' := by
  have hh := h
  obtain ⟨D, F, hD, hF, hR, hH, hS, ⟨t1, t2, t3, t4, t5, t6, t7⟩, hG, h0, h1⟩ := h
  obtain ⟨r, a1, a2⟩ := q_wayAt X t1 x1
  exact ⟨r, _, a1, a2, hh.th 0⟩
/-- all that the invariant speaks of but the plan -/
def pVp (M : MoT) := (M.1, Mo_fault M, M.2.2.2.2.1, M.2.2.2.2.2.1, (Mo_snaps M, Mo_snapMany M), (Mo_going M, Mo_goingMany M), M.2.2.2.2.2.2.2.2.2.1, M.2.2.2.2.2.2.2.2.2.2.1, (Mo_written M, Mo_hasWritten M))
theorem vp_Z (M : MoT) (pl : Nat → Int32) (n : Int32) : pVp (pZ M pl n) = pVp M ∧ Mo_thrown (pZ M pl n) = Mo_thrown M := by unfold pZ; exact ⟨rfl, rfl⟩
theorem vp_pM (M : MoT) (s a b : Int32) : pVp (pM M (Mo_now M) s a b) = pVp M ∧ Mo_thrown (pM M (Mo_now M) s a b) = Mo_thrown M := ⟨Eq.trans rfl rfl, Eq.trans rfl rfl⟩
theorem vp_Q (M : MoT) (tw : Nat → Int64) (li : Nat → Int32) (ch : Nat → Int64) : pVp (pQ M tw li ch) = pVp M ∧ Mo_thrown (pQ M tw li ch) = Mo_thrown M ∧ Mo_now (pQ M tw li ch) = Mo_now M := by unfold pQ; exact ⟨rfl, rfl, rfl⟩
theorem pInv.pl (h : pInv X R L K P Hi H Lg Pl Sn Ct Sc Tr o0 o1 M) (e : pVp M' = pVp M) {Q : PlT} (q : pPlan Q M') : pInv X R L K P Hi H Lg Q Sn Ct Sc Tr o0 o1 M' := by
  obtain ⟨D, F, ⟨hv, hc, hm, hn⟩, ⟨hK, hF, hV⟩, hR, hH, hS, ⟨t1, t2, t3, t4, t5, t6, t7⟩, hG, h0, h1⟩ := h
  have e1 : Mo_tape M' = Mo_tape M := congrArg (fun z => z.1.1) e
  have e2 : Mo_taped M' = Mo_taped M := congrArg (fun z => z.1.2) e
  have e3 : Mo_fault M' = Mo_fault M := congrArg (fun z => z.2.1) e
  have e4 : Mo_now M' = Mo_now M := congrArg (fun z => z.2.2.1.1) e
  have e5 : Mo_name M' = Mo_name M := congrArg (fun z => z.2.2.1.2) e
  have e6 : M'.2.2.2.2.2.1 = M.2.2.2.2.2.1 := congrArg (fun z => z.2.2.2.1) e
  have e7 : Mo_snaps M' = Mo_snaps M := congrArg (fun z => z.2.2.2.2.1.1) e
  have e8 : Mo_snapMany M' = Mo_snapMany M := congrArg (fun z => z.2.2.2.2.1.2) e
  have ea : Mo_going M' = Mo_going M := congrArg (fun z => z.2.2.2.2.2.1.1) e
  have eb : Mo_goingMany M' = Mo_goingMany M := congrArg (fun z => z.2.2.2.2.2.1.2) e
  have ee : Mo_hasSent M' = Mo_hasSent M := congrArg (fun z => z.2.2.2.2.2.2.1.2.2.2.2.1) e
  have ef : Mo_given M' = Mo_given M := congrArg (fun z => z.2.2.2.2.2.2.1.2.1) e
  have eg : Mo_texts M' = Mo_texts M := congrArg (fun z => z.2.2.2.2.2.2.2.1.2.2.2.2) e
  have eh : Mo_text M' = Mo_text M := congrArg (fun z => z.2.2.2.2.2.2.2.1.2.2.2.1) e
  have ei : Mo_cutting M' = Mo_cutting M := congrArg (fun z => z.2.2.2.2.2.2.2.1.1) e
  have ej : Mo_turnedLeast M' = Mo_turnedLeast M := congrArg (fun z => z.2.2.2.2.2.2.2.1.2.1) e
  have ek : Mo_turnedGreatest M' = Mo_turnedGreatest M := congrArg (fun z => z.2.2.2.2.2.2.2.1.2.2.1) e
  have el : Mo_written M' = Mo_written M := congrArg (fun z => z.2.2.2.2.2.2.2.2.1) e
  have em : Mo_hasWritten M' = Mo_hasWritten M := congrArg (fun z => z.2.2.2.2.2.2.2.2.2) e
  refine ⟨D, F, ⟨hv, hc, ?_, ?_⟩, ⟨hK, ?_, hV⟩, hR.cg e3 e1 e2, ?_, ?_, ⟨t1.cg ea eb, q, t3.cg ee ef, t4.cg eg eh, t5.trans ei.symm, t6.trans ej.symm, t7.trans ek.symm⟩, hG.cg em el, h0.cg e6, h1.cg e6⟩
  · rw [e4]; exact hm
  · rw [e5]; exact hn
  · rw [e4]; exact hF
  · rw [e7, e8]; exact hH
  · rw [e4]; exact hS
theorem s_plan (h : pInv X R L K P Hi H Lg Pl Sn Ct Sc Tr o0 o1 M) (Q : PlT) (x1 x2 : Int32) : (∃ r M', f_X11_plan X L K Q x1 x2 = some none ∧ f_X12_plan M x1 x2 = some (r, M') ∧ Mo_thrown M' = 1 ∧ pInv X R L K P Hi H Lg Pl Sn Ct Sc Tr o0 o1 M') ∨ (∃ r Q' M', f_X11_plan X L K Q x1 x2 = some (some (r, Q')) ∧ f_X12_plan M x1 x2 = some (r, M') ∧ Mo_thrown M' = 0 ∧ pInv X R L K P Hi H Lg Q' Sn Ct Sc Tr o0 o1 M') := by
  have hh := h
  obtain ⟨D, F, ⟨hv, hc, hm, hn⟩, ⟨hK, hF, hV⟩, hR, hH, hS, ⟨t1, t2, t3, t4, t5, t6, t7⟩, hG, h0, h1⟩ := h
  rcases q_plan hv hc hm hK hF hV X Q x1 x2 with ⟨a1, a2⟩ | ⟨r, P', tw, li, ch, a, b, pl, n, a1, a2, a3⟩
  · exact Or.inl ⟨0, _, a1, a2, rfl, hh.th 1⟩
  · have q1 := vp_Q (Mo_s_thrown M 0) tw li ch
    have e1 : Mo_now M = Mo_now (pQ (Mo_s_thrown M 0) tw li ch) := q1.2.2.symm
    have q2 := vp_pM (pQ (Mo_s_thrown M 0) tw li ch) (Mo_seed M) a b
    rw [← e1] at q2
    have q3 := vp_Z (pM (pQ (Mo_s_thrown M 0) tw li ch) (Mo_now M) (Mo_seed M) a b) pl n
    have q4 : pVp (Mo_s_thrown M 0) = pVp M := rfl
    exact Or.inr ⟨r, P', _, a1, a2, q3.2.trans (q2.2.trans q1.2.1), hh.pl (q3.1.trans (q2.1.trans (q1.1.trans q4))) a3⟩
theorem s_planAt (h : pInv X R L K P Hi H Lg Pl Sn Ct Sc Tr o0 o1 M) (x1 : Int32) : ∃ r M', f_X11_planAt X Pl x1 = some r ∧ f_X12_planAt M x1 = some (r, M') ∧ pInv X R L K P Hi H Lg Pl Sn Ct Sc Tr o0 o1 M' := by
  have hh := h
  obtain ⟨D, F, hD, hF, hR, hH, hS, ⟨t1, t2, t3, t4, t5, t6, t7⟩, hG, h0, h1⟩ := h
  obtain ⟨r, a1, a2⟩ := q_planAt X t2 x1
  exact ⟨r, _, a1, a2, hh.th 0⟩
theorem s_sent (h : pInv X R L K P Hi H Lg Pl Sn Ct Sc Tr o0 o1 M) : ∃ r S' M', f_X11_sent X Sn L K = some (r, S') ∧ f_X12_sent M = some (r, M') ∧ pInv X R L K P Hi H Lg Pl S' Ct Sc Tr o0 o1 M' := by
  obtain ⟨D, F, ⟨hv, hc, hm, hn⟩, ⟨hK, hF, hV⟩, hR, hH, hS, ⟨t1, t2, t3, t4, t5, t6, t7⟩, hG, h0, h1⟩ := h
  obtain ⟨r, S', gi, gv, he, sl, sp, hs, a1, a2, a3⟩ := q_sent hv hc hm hK hF hV X t3
  exact ⟨r, S', _, a1, a2, D, F, ⟨hv, hc, hm, hn⟩, ⟨hK, hF, hV⟩, hR.cg rfl rfl rfl, hH, hS, ⟨t1.cg rfl rfl, t2.cg rfl rfl, a3, t4.cg rfl rfl, t5, t6, t7⟩, hG.cg rfl rfl, h0.fr rfl, h1.fr rfl⟩
theorem s_sentTo (h : pInv X R L K P Hi H Lg Pl Sn Ct Sc Tr o0 o1 M) (x1 : Int32) : ∃ r M', f_X11_sentTo X Sn x1 = some r ∧ f_X12_sentTo M x1 = some (r, M') ∧ pInv X R L K P Hi H Lg Pl Sn Ct Sc Tr o0 o1 M' := by
  have hh := h
  obtain ⟨D, F, hD, hF, hR, hH, hS, ⟨t1, t2, t3, t4, t5, t6, t7⟩, hG, h0, h1⟩ := h
  obtain ⟨r, a1, a2⟩ := q_sentTo X t3 x1
  exact ⟨r, _, a1, a2, hh.th 0⟩
theorem s_cut (h : pInv X R L K P Hi H Lg Pl Sn Ct Sc Tr o0 o1 M) (x1 x2 : Int32) : ∃ r C' M', f_X11_cut X L Ct x1 x2 = some (r, C') ∧ f_X12_cut M x1 x2 = some (r, M') ∧ pInv X R L K P Hi H Lg Pl Sn C' Sc Tr o0 o1 M' := by
  obtain ⟨D, F, ⟨hv, hc, hm, hn⟩, hF, hR, hH, hS, ⟨t1, t2, t3, t4, t5, t6, t7⟩, hG, h0, h1⟩ := h
  obtain ⟨r, C', v, a1, a2, a3⟩ := q_cut hv hc hm X t5 x1 x2
  exact ⟨r, C', _, a1, a2, D, F, ⟨hv, hc, hm, hn⟩, hF, hR.cg rfl rfl rfl, hH, hS, ⟨t1.cg rfl rfl, t2.cg rfl rfl, t3.cg rfl rfl, t4.cg rfl rfl, a3, t6, t7⟩, hG.cg rfl rfl, h0.fr rfl, h1.fr rfl⟩
theorem s_cutting (h : pInv X R L K P Hi H Lg Pl Sn Ct Sc Tr o0 o1 M) : ∃ r M', f_X11_cutting X Ct = some r ∧ f_X12_cutting M = some (r, M') ∧ pInv X R L K P Hi H Lg Pl Sn Ct Sc Tr o0 o1 M' := by
  have hh := h
  obtain ⟨D, F, hD, hF, hR, hH, hS, ⟨t1, t2, t3, t4, t5, t6, t7⟩, hG, h0, h1⟩ := h
  obtain ⟨r, a1, a2⟩ := q_cutting X t5
  exact ⟨r, _, a1, a2, hh.th 0⟩
theorem s_worst (h : pInv X R L K P Hi H Lg Pl Sn Ct Sc Tr o0 o1 M) (x1 x2 : Int32) : ∃ r M', f_X11_worst X L x1 x2 = some r ∧ f_X12_worst M x1 x2 = some (r, M') ∧ pInv X R L K P Hi H Lg Pl Sn Ct Sc Tr o0 o1 M' := by
  have hh := h
  obtain ⟨D, F, ⟨hv, hc, hm, hn⟩, -⟩ := h
  obtain ⟨r, a1, a2⟩ := q_worst hv hc hm X x1 x2
  exact ⟨r, _, a1, a2, hh.th 0⟩
theorem s_ship (h : pInv X R L K P Hi H Lg Pl Sn Ct Sc Tr o0 o1 M) (x1 x2 x3 : Int32) : (∃ r M', f_X11_ship X L x1 x2 x3 = some none ∧ f_X12_ship M x1 x2 x3 = some (r, M') ∧ Mo_thrown M' = 1 ∧ pInv X R L K P Hi H Lg Pl Sn Ct Sc Tr o0 o1 M') ∨ (∃ r M', f_X11_ship X L x1 x2 x3 = some (some r) ∧ f_X12_ship M x1 x2 x3 = some (r, M') ∧ Mo_thrown M' = 0 ∧ pInv X R L K P Hi H Lg Pl Sn Ct Sc Tr o0 o1 M') := by
  have hh := h
  obtain ⟨D, F, ⟨hv, hc, hm, hn⟩, -⟩ := h
  rcases q_ship hv hc hm X x1 x2 x3 with ⟨a1, a2⟩ | ⟨r, a1, a2⟩
  · exact Or.inl ⟨0, _, a1, a2, rfl, hh.th 1⟩
  · exact Or.inr ⟨r, _, a1, a2, rfl, hh.th 0⟩
theorem s_turned (h : pInv X R L K P Hi H Lg Pl Sn Ct Sc Tr o0 o1 M) (x1 : Int32) : ∃ r R' T' M', f_X11_turned X L R K Tr x1 = some (r, R', T') ∧ f_X12_turned M x1 = some (r, M') ∧ pInv X R' L K P Hi H Lg Pl Sn Ct Sc T' o0 o1 M' := by
  obtain ⟨D, F, ⟨hv, hc, hm, hn⟩, ⟨hK, hF, hV⟩, hR, hH, hS, ⟨t1, t2, t3, t4, t5, t6, t7⟩, hG, h0, h1⟩ := h
  obtain ⟨r, T', a, b, a1, a2, a3, a4⟩ := q_turned hv hc hm hK hF hV hR.2.1 t6 t7 X x1
  exact ⟨r, _, T', _, a1, a2, D, F, ⟨hv, hc, hm, hn⟩, ⟨hK, hF, hV⟩, pRdr.end' hR.1 rfl hR.2.2, hH, hS, ⟨t1.cg rfl rfl, t2.cg rfl rfl, t3.cg rfl rfl, t4.cg rfl rfl, t5, a3, a4⟩, hG.cg rfl rfl, h0.fr rfl, h1.fr rfl⟩
theorem s_least (h : pInv X R L K P Hi H Lg Pl Sn Ct Sc Tr o0 o1 M) : ∃ r M', f_X11_least X Tr = some r ∧ f_X12_least_ M = some (r, M') ∧ pInv X R L K P Hi H Lg Pl Sn Ct Sc Tr o0 o1 M' := by
  have hh := h
  obtain ⟨D, F, hD, hF, hR, hH, hS, ⟨t1, t2, t3, t4, t5, t6, t7⟩, hG, h0, h1⟩ := h
  obtain ⟨r, a1, a2⟩ := q_least X t6
  exact ⟨r, _, a1, a2, hh.th 0⟩
theorem s_greatest (h : pInv X R L K P Hi H Lg Pl Sn Ct Sc Tr o0 o1 M) : ∃ r M', f_X11_greatest X Tr = some r ∧ f_X12_greatest M = some (r, M') ∧ pInv X R L K P Hi H Lg Pl Sn Ct Sc Tr o0 o1 M' := by
  have hh := h
  obtain ⟨D, F, hD, hF, hR, hH, hS, ⟨t1, t2, t3, t4, t5, t6, t7⟩, hG, h0, h1⟩ := h
  obtain ⟨r, a1, a2⟩ := q_greatest X t7
  exact ⟨r, _, a1, a2, hh.th 0⟩
theorem s_there (h : pInv X R L K P Hi H Lg Pl Sn Ct Sc Tr o0 o1 M) (x1 : Int32) : ∃ r M', f_X11_there X L K x1 = some r ∧ f_X12_there M x1 = some (r, M') ∧ pInv X R L K P Hi H Lg Pl Sn Ct Sc Tr o0 o1 M' := by
  have hh := h
  obtain ⟨D, F, ⟨hv, hc, hm, hn⟩, ⟨hK, hF, hV⟩, -⟩ := h
  obtain ⟨r, a1, a2⟩ := q_there hv hc hm hK hF hV X x1
  exact ⟨r, _, a1, a2, hh.th 0⟩
theorem s_oath (h : pInv X R L K P Hi H Lg Pl Sn Ct Sc Tr o0 o1 M) (x1 : Int32) : ∃ r S' M', f_X11_oath X L Sc K x1 = some (r, S') ∧ f_X12_oath M x1 = some (r, M') ∧ pInv X R L K P Hi H Lg Pl Sn Ct S' Tr o0 o1 M' := by
  obtain ⟨D, F, ⟨hv, hc, hm, hn⟩, ⟨hK, hF, hV⟩, hR, hH, hS, ⟨t1, t2, t3, t4, t5, t6, t7⟩, hG, h0, h1⟩ := h
  obtain ⟨r, S', M', a1, a2, a3, a4⟩ := q_oath hv hc hm hK hF hV hn t4 X x1
  rcases a4 with rfl | ⟨t, n, rfl⟩
  · exact ⟨r, S', _, a1, a2, D, F, ⟨hv, hc, hm, hn⟩, ⟨hK, hF, hV⟩, hR.cg rfl rfl rfl, hH, hS, ⟨t1.cg rfl rfl, t2.cg rfl rfl, t3.cg rfl rfl, a3, t5, t6, t7⟩, hG.cg rfl rfl, h0.fr rfl, h1.fr rfl⟩
  · exact ⟨r, S', _, a1, a2, D, F, ⟨hv, hc, hm, hn⟩, ⟨hK, hF, hV⟩, hR.cg rfl rfl rfl, hH, hS, ⟨t1.cg rfl rfl, t2.cg rfl rfl, t3.cg rfl rfl, a3, t5, t6, t7⟩, hG.cg rfl rfl, h0.fr rfl, h1.fr rfl⟩
theorem s_byteAt (h : pInv X R L K P Hi H Lg Pl Sn Ct Sc Tr o0 o1 M) (x1 : Int32) : ∃ r M', f_X11_byteAt X Sc x1 = some r ∧ f_X12_byteAt M x1 = some (r, M') ∧ pInv X R L K P Hi H Lg Pl Sn Ct Sc Tr o0 o1 M' := by
  have hh := h
  obtain ⟨D, F, hD, hF, hR, hH, hS, ⟨t1, t2, t3, t4, t5, t6, t7⟩, hG, h0, h1⟩ := h
  obtain ⟨r, a1, a2⟩ := q_byteAt X t4 x1
  exact ⟨r, _, a1, a2, hh.th 0⟩
theorem s_odds (h : pInv X R L K P Hi H Lg Pl Sn Ct Sc Tr o0 o1 M) (K2 : FkT) (x1 x2 x3 : Int32) : ∃ r K2' M', f_X11_odds X L K2 K x1 x2 x3 = some (r, K2') ∧ f_X12_odds M x1 x2 x3 = some (r, M') ∧ pInv X R L K P Hi H Lg Pl Sn Ct Sc Tr o0 o1 M' := by
  have hh := h
  obtain ⟨D, F, ⟨hv, hc, hm, hn⟩, ⟨hK, hF, hV⟩, -⟩ := h
  obtain ⟨r, K2', A, s', a', b', a1, a2⟩ := q_odds hv hc hm hK hF hV X K2 x1 x2 x3
  refine ⟨r, K2', _, a1, a2, hh.fr ?_⟩
  have e1 : pVw (Mo_s_aside (Mo_s_thrown M 0) A) = pVw M := rfl
  exact (vw_pM (Mo_s_aside (Mo_s_thrown M 0) A) s' a' b').trans e1
theorem s_book (h : pInv X R L K P Hi H Lg Pl Sn Ct Sc Tr o0 o1 M) (K2 : FkT) (x1 : Int32) : ∃ r G' R' K2' K' Hi' H' M', f_X11_book X Lg R L K2 K Hi H x1 = some (r, G', R', K2', K', Hi', H') ∧ f_X12_book M x1 = some (r, M') ∧ pInv X R' L K' P Hi' H' G' Pl Sn Ct Sc Tr o0 o1 M' := by
  obtain ⟨D, F, ⟨hv, hc, hm, hn⟩, ⟨hK, hF, hV⟩, hR, hH, hS, hT, hG, h0, h1⟩ := h
  obtain ⟨r, G', R', K2', K', Hi', H', M', F', a1, a2, a3, a4, a5, a6, a7, a8, a9, a10, a11⟩ := q_book hv hc hn hm hR hK hF hV hH hG X K2 x1
  exact ⟨r, G', R', K2', K', Hi', H', M', a1, a2, D, F', ⟨hv, hc, hm.fr' hv a10, by rw [pOth_name a11]; exact hn⟩, ⟨a6, a7, a8⟩, a3, a9, hS.cg (fun j q1 q2 => a10 j (Or.inr q1)), hT.fr (pTdV_oth a11), a5, h0.fr (pOth_kept a11), h1.fr (pOth_kept a11)⟩
theorem s_told (h : pInv X R L K P Hi H Lg Pl Sn Ct Sc Tr o0 o1 M) (x1 : Int32) : ∃ r M', f_X11_told X Lg x1 = some r ∧ f_X12_told M x1 = some (r, M') ∧ pInv X R L K P Hi H Lg Pl Sn Ct Sc Tr o0 o1 M' := by
  have hh := h
  obtain ⟨D, F, hD, hF, hR, hH, hS, hT, hG, h0, h1⟩ := h
  obtain ⟨r, a1, a2⟩ := q_told X hG x1
  exact ⟨r, _, a1, a2, hh.th 0⟩
theorem s_sentence (h : pInv X R L K P Hi H Lg Pl Sn Ct Sc Tr o0 o1 M) (P2 : PhT) : (∃ r P2' R' M', f_X11_sentence X P2 R L P = some (r, X, P2', R', false) ∧ f_X12_sentence M = some (r, M') ∧ pInv X R' L K P Hi H Lg Pl Sn Ct Sc Tr o0 o1 M') ∨ (∃ r P2' R' M', f_X11_sentence X P2 R L P = some (r, X, P2', R', true) ∧ f_X12_sentence M = some (r, M') ∧ pInv X R' L K P2' Hi H Lg Pl Sn Ct Sc Tr o0 o1 M') := by
  obtain ⟨D, F, ⟨hv, hc, hm, hn⟩, ⟨hK, hF, hV⟩, hR, hH, hS, hT, hG, h0, h1⟩ := h
  rcases q_sentence hv hc hn hm hR X P2 P with ⟨r, P2', R', M', a1, a2, a3, a4, a5, a6⟩ | ⟨r, P2', R', M', a1, a2, a3, a4, a5, a6, a7⟩
  · left
    have b := pOth_rest a5
    have c1 : Mo_snaps M' = Mo_snaps M := congrArg (fun z => z.2.2.2.1.1) a5
    have c2 : Mo_snapMany M' = Mo_snapMany M := congrArg (fun z => z.2.2.2.1.2.1) a5
    have c3 : Mo_hasWritten M' = Mo_hasWritten M := congrArg (fun z => z.2.2.2.2.2.2.2.2.2.2.2) a5
    have c4 : Mo_written M' = Mo_written M := congrArg (fun z => z.2.2.2.2.2.2.2.2.2.1) a5
    exact ⟨r, P2', R', M', a1, a2, D, F, ⟨hv, hc, by rw [a6]; exact hm, by rw [pOth_name b]; exact hn⟩, ⟨hK, by rw [a6]; exact hF, hV⟩, a3, by rw [c1, c2]; exact hH, by rw [a6]; exact hS, hT.fr (pTdV_oth b), hG.cg c3 c4, h0.fr (pOth_kept b), h1.fr (pOth_kept b)⟩
  · right
    have b := pOth_rest a5
    have c1 : Mo_snaps M' = Mo_snaps M := congrArg (fun z => z.2.2.2.1.1) a5
    have c2 : Mo_snapMany M' = Mo_snapMany M := congrArg (fun z => z.2.2.2.1.2.1) a5
    have c3 : Mo_hasWritten M' = Mo_hasWritten M := congrArg (fun z => z.2.2.2.2.2.2.2.2.2.2.2) a5
    have c4 : Mo_written M' = Mo_written M := congrArg (fun z => z.2.2.2.2.2.2.2.2.2.1) a5
    exact ⟨r, P2', R', M', a1, a2, D, F, ⟨hv, hc, hm.fr hv (fun i hi => a6 i (by omega)), by rw [pOth_name b]; exact hn⟩, ⟨hK, hF.cg hv (fun k q1 q2 => a6 k q2), hV⟩, a3, by rw [c1, c2]; exact hH, a7, hT.fr (pTdV_oth b), hG.cg c3 c4, h0.fr (pOth_kept b), h1.fr (pOth_kept b)⟩
theorem s_said (h : pInv X R L K P Hi H Lg Pl Sn Ct Sc Tr o0 o1 M) (x1 : Int32) : ∃ r M', f_X11_said X P L K x1 = some r ∧ f_X12_said M x1 = some (r, M') ∧ pInv X R L K P Hi H Lg Pl Sn Ct Sc Tr o0 o1 M' := by
  have hh := h
  obtain ⟨D, F, ⟨hv, hc, hm, hn⟩, ⟨hK, hF, hV⟩, hR, hH, hS, -⟩ := h
  obtain ⟨r, a, b, a1, a2⟩ := q_said hv hc hm hK hF hV X hS x1
  exact ⟨r, _, a1, a2, hh.fr (vw_pMt M 0 _ _ _)⟩
theorem s_count (h : pInv X R L K P Hi H Lg Pl Sn Ct Sc Tr o0 o1 M) (x1 : Int32) : ∃ r M', f_X11_count X L R x1 = some r ∧ f_X12_count M x1 = some (r, M') ∧ pInv X R L K P Hi H Lg Pl Sn Ct Sc Tr o0 o1 M' := by
  have hh := h
  obtain ⟨D, F, ⟨hv, hc, hm, hn⟩, -, hR, -⟩ := h
  obtain ⟨r, a1, a2⟩ := q_count hc hm hR.2.1 X x1
  exact ⟨r, _, a1, a2, hh.th 0⟩
theorem s_land (h : pInv X R L K P Hi H Lg Pl Sn Ct Sc Tr o0 o1 M) (L2 : LdT) : (∃ r L' R' M', f_X11_land X L2 R L K P Hi = some (r, X, L', R', K, P, Hi, false) ∧ f_X12_land M = some (r, M') ∧ pInv X R' L K P Hi H Lg Pl Sn Ct Sc Tr o0 o1 M') ∨ (∃ r L' R' K' P' Hi' M', f_X11_land X L2 R L K P Hi = some (r, X, L', R', K', P', Hi', true) ∧ f_X12_land M = some (r, M') ∧ pInv X R' L' K' P' Hi' H Lg Pl Sn Ct Sc Tr o0 o1 M') := by
  obtain ⟨D, F, ⟨hv, hc, hm, hn⟩, ⟨hK, hF, hV⟩, hR, hH, hS, hT, hG, h0, h1⟩ := h
  rcases q_land hR X L2 L K P Hi with ⟨r, L', R', M', a1, a2, a3, a4, a5⟩ | ⟨r, L', R', K', P', Hi', M', D', a1, a2, a3, a4, b1, b2, b3, b4, b5, b6, b7, b8, b9, c1, c2, c3, c4, d1, d2, d3⟩
  · left
    have e1 : Mo_now M' = Mo_now M := congrArg (fun z => z.1.1) a5
    have e2 : Mo_name M' = Mo_name M := congrArg (fun z => z.1.2) a5
    have e3 : M'.2.2.2.2.2.1 = M.2.2.2.2.2.1 := congrArg (fun z => z.2.1) a5
    have e4 : Mo_snaps M' = Mo_snaps M := congrArg (fun z => z.2.2.1.1) a5
    have e5 : Mo_snapMany M' = Mo_snapMany M := congrArg (fun z => z.2.2.1.2.1) a5
    have e6 : pTdV M' = pTdV M := congrArg (fun z => ((z.2.2.2.1.2.2.1, z.2.2.2.1.2.2.2), z.2.2.2.2.1, z.2.2.2.2.2.1, z.2.2.2.2.2.2.1)) a5
    have e7 : Mo_hasWritten M' = Mo_hasWritten M := congrArg (fun z => z.2.2.2.2.2.2.2.1.2.2.2) a5
    have e8 : Mo_written M' = Mo_written M := congrArg (fun z => z.2.2.2.2.2.2.2.1.2.1) a5
    exact ⟨r, L', R', M', a1, a2, D, F, ⟨hv, hc, by rw [e1]; exact hm, by rw [e2]; exact hn⟩, ⟨hK, by rw [e1]; exact hF, hV⟩, a3, by rw [e4, e5]; exact hH, by rw [e1]; exact hS, hT.fr e6, hG.cg e7 e8, h0.fr e3, h1.fr e3⟩
  · right
    have e6 : pTdV M' = pTdV M := congrArg (fun z => ((z.1.2.2.1, z.1.2.2.2), z.2.1, z.2.2.1, z.2.2.2.1)) d3
    have e7 : Mo_hasWritten M' = Mo_hasWritten M := congrArg (fun z => z.2.2.2.2.1.2.2.2) d3
    have e8 : Mo_written M' = Mo_written M := congrArg (fun z => z.2.2.2.2.1.2.1) d3
    obtain ⟨fi, sz, hfi, -, g1, -⟩ := hH
    exact ⟨r, L', R', K', P', Hi', M', a1, a2, D', pF1 D', ⟨b1, b2, b3, b4⟩, ⟨b5, b6, b7⟩, a3, ⟨fi, 0, hfi, by omega, c3.trans g1, c2, c4, fun i hi => by omega⟩, Or.inl ⟨b8, c1 516 (by omega) (by omega)⟩, hT.fr e6, hG.cg e7 e8, h0.fr d1, h1.fr d1⟩
/-- an image kept -/
theorem s_image0 (h : pInv X R L K P Hi H Lg Pl Sn Ct Sc Tr o0 o1 M) {L2 L' : LdT} {K2 K' : FkT} {P2 P' : PhT} (c1 : f_X3_copy L2 L = some L') (c2 : f_X1_copy K2 K = some K') (c3 : f_X5_copy P2 P = some P') : ∃ M', f_X12_image M 0 = some (1, M') ∧ pInv X R L K P Hi H Lg Pl Sn Ct Sc Tr (some (L', K', P')) o1 M' := by
  obtain ⟨D, F, ⟨hv, hc, hm, hn⟩, ⟨hK, hF, hV⟩, hR, hH, hS, hT, hG, h0, h1⟩ := h
  obtain ⟨W, N, I, a1, a2, a3⟩ := q_image (M := M) (j := 0) (by omega) ⟨D, F, hv, hc, hm, hn, hK, hF, hV, hS⟩ c1 c2 c3
  exact ⟨_, a1, D, F, ⟨hv, hc, hm, hn⟩, ⟨hK, hF, hV⟩, hR.cg rfl rfl rfl, hH, hS, hT.fr rfl, hG.cg rfl rfl, a2, a3 1 o1 (by omega) (by omega) h1⟩
theorem s_image1 (h : pInv X R L K P Hi H Lg Pl Sn Ct Sc Tr o0 o1 M) {L2 L' : LdT} {K2 K' : FkT} {P2 P' : PhT} (c1 : f_X3_copy L2 L = some L') (c2 : f_X1_copy K2 K = some K') (c3 : f_X5_copy P2 P = some P') : ∃ M', f_X12_image M 1 = some (1, M') ∧ pInv X R L K P Hi H Lg Pl Sn Ct Sc Tr o0 (some (L', K', P')) M' := by
  obtain ⟨D, F, ⟨hv, hc, hm, hn⟩, ⟨hK, hF, hV⟩, hR, hH, hS, hT, hG, h0, h1⟩ := h
  obtain ⟨W, N, I, a1, a2, a3⟩ := q_image (M := M) (j := 1) (by omega) ⟨D, F, hv, hc, hm, hn, hK, hF, hV, hS⟩ c1 c2 c3
  exact ⟨_, a1, D, F, ⟨hv, hc, hm, hn⟩, ⟨hK, hF, hV⟩, hR.cg rfl rfl rfl, hH, hS, hT.fr rfl, hG.cg rfl rfl, a3 0 o0 (by omega) (by omega) h0, a2⟩
theorem s_imageN (h : pInv X R L K P Hi H Lg Pl Sn Ct Sc Tr o0 o1 M) {x1 : Int32} (hx : x1 < 0 ∨ ¬ x1 < (2 : Int32)) : ∃ M', f_X12_image M x1 = some (0, M') ∧ f_X12_restore M x1 = some (0, M') ∧ pInv X R L K P Hi H Lg Pl Sn Ct Sc Tr o0 o1 M' := by
  obtain ⟨a1, a2⟩ := q_image_no (M := M) hx
  exact ⟨_, a1, a2, h.th 0⟩
theorem s_restoreN0 (h : pInv X R L K P Hi H Lg Pl Sn Ct Sc Tr none o1 M) : ∃ M', f_X12_restore M 0 = some (0, M') ∧ pInv X R L K P Hi H Lg Pl Sn Ct Sc Tr none o1 M' := by
  have hh := h
  obtain ⟨D, F, hD, hF, hR, hH, hS, hT, hG, h0, h1⟩ := h
  exact ⟨_, q_restore_no (j := 0) (by omega) h0, hh.th 0⟩
theorem s_restoreN1 (h : pInv X R L K P Hi H Lg Pl Sn Ct Sc Tr o0 none M) : ∃ M', f_X12_restore M 1 = some (0, M') ∧ pInv X R L K P Hi H Lg Pl Sn Ct Sc Tr o0 none M' := by
  have hh := h
  obtain ⟨D, F, hD, hF, hR, hH, hS, hT, hG, h0, h1⟩ := h
  exact ⟨_, q_restore_no (j := 1) (by omega) h1, hh.th 0⟩
theorem s_restoreY (h : pInv X R L K P Hi H Lg Pl Sn Ct Sc Tr o0 o1 M) {j : Nat} (hj : j < 2) {L1 L' : LdT} {K1 K' : FkT} {P1 P' : PhT} (hi : pImg j (some (L1, K1, P1)) M) {L2 : LdT} {K2 : FkT} {P2 : PhT} (c1 : f_X3_copy L2 L1 = some L') (c2 : f_X1_copy K2 K1 = some K') (c3 : f_X5_copy P2 P1 = some P') : ∃ M', f_X12_restore M (zn j) = some (1, M') ∧ pInv X R L' K' P' (Hi_s_size Hi 0) H Lg Pl Sn Ct Sc Tr o0 o1 M' := by
  obtain ⟨D, F, hD, hF, hR, hH, hS, hT, hG, h0, h1⟩ := h
  obtain ⟨w, N, a1, D', F', b1, b2, b3, b4, b5, b6, b7, b8⟩ := q_restore hj hi c1 c2 c3
  obtain ⟨fi, sz, hfi, -, g1, -⟩ := hH
  exact ⟨_, a1, D', F', ⟨b1, b2, b3, b4⟩, ⟨b5, b6, b7⟩, hR.cg rfl rfl rfl, ⟨fi, 0, hfi, by omega, g1, rfl, rfl, fun i hi => by omega⟩, b8, hT.fr rfl, hG.cg rfl rfl, h0.fr rfl, h1.fr rfl⟩
theorem pInv.i0 (h : pInv X R L K P Hi H Lg Pl Sn Ct Sc Tr o0 o1 M) : pImg 0 o0 M := by
  obtain ⟨D, F, hD, hF, hR, hH, hS, hT, hG, h0, h1⟩ := h
  exact h0
theorem pInv.i1 (h : pInv X R L K P Hi H Lg Pl Sn Ct Sc Tr o0 o1 M) : pImg 1 o1 M := by
  obtain ⟨D, F, hD, hF, hR, hH, hS, hT, hG, h0, h1⟩ := h
  exact h1
end
