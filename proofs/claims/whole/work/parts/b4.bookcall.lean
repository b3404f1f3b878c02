/-! BOOKS: the call -/
/-- what no act, no day and no book touches -/
def pOth (M : MoT) := (Mo_name M, M.2.2.2.2.2.1, (Mo_going M, Mo_goingMany M), M.2.2.2.2.2.2.2.2.1, M.2.2.2.2.2.2.2.2.2.1, M.2.2.2.2.2.2.2.2.2.2.1)
theorem oth_bb {M M' : MoT} (h : pBb M' = pBb M) : pOth M' = pOth M := congrArg (fun z => (z.2.2.1.2, z.2.2.2.1, (z.2.2.2.2.2.1.2.2.1, z.2.2.2.2.2.1.2.2.2), z.2.2.2.2.2.2.1, z.2.2.2.2.2.2.2.1, z.2.2.2.2.2.2.2.2.1)) h
theorem oth_of {M M' : MoT} (h : M'.2.2.2 = M.2.2.2) : pOth M' = pOth M := by unfold pOth Mo_name Mo_going Mo_goingMany; rw [h]
theorem oth_now (M : MoT) (v : Nat → Int32) : pOth (Mo_s_now M v) = pOth M := rfl
theorem oth_aside (M : MoT) (v : Nat → Int32) : pOth (Mo_s_aside M v) = pOth M := rfl
theorem oth_written (M : MoT) (v : Nat → Int32) : pOth (Mo_s_written M v) = pOth M := rfl
theorem oth_has (M : MoT) (v : Int32) : pOth (Mo_s_hasWritten M v) = pOth M := rfl
theorem oth_many (M : MoT) (v : Int32) : pOth (Mo_s_lineMany M v) = pOth M := rfl
theorem oth_snaps (M : MoT) (v : Nat → Int32) : pOth (Mo_s_snaps M v) = pOth M := rfl
theorem oth_snapMany (M : MoT) (v : Int32) : pOth (Mo_s_snapMany M v) = pOth M := rfl
theorem oth_pM (M : MoT) (w : Nat → Int32) (s a b : Int32) : pOth (pM M w s a b) = pOth M := Eq.trans rfl rfl
theorem pCpy_swap {w A : Nat → Int32} {k : Nat} (hk : k < 73) : pCpy (upd w (443 + k) (A k)) (upd A k (w (443 + k))) 443 0 (k + 1) 73 = pCpy w A 443 0 k 73 ∧ pCpy (upd A k (w (443 + k))) (upd w (443 + k) (A k)) 0 443 (k + 1) 73 = pCpy A w 0 443 k 73 := by
  constructor
  · funext j
    unfold pCpy upd
    by_cases q : j = 443 + k
    · rw [if_neg (by omega), if_pos q, if_pos (by omega)]; exact congrArg A (by omega)
    · by_cases q2 : 443 + (k + 1) ≤ j ∧ j < 443 + 73
      · rw [if_pos q2, if_neg (by omega), if_pos (by omega)]
      · rw [if_neg q2, if_neg q, if_neg (by omega)]
  · funext j
    unfold pCpy upd
    by_cases q : j = k
    · rw [if_neg (by omega), if_pos q, if_pos (by omega)]; exact congrArg w (by omega)
    · by_cases q2 : 0 + (k + 1) ≤ j ∧ j < 0 + 73
      · rw [if_pos q2, if_neg (by omega), if_pos (by omega)]
      · rw [if_neg q2, if_neg q, if_neg (by omega)]
theorem pm_stay_loop (M : MoT) (x : Int32) : ∀ (d : Nat) {k fu : Nat} (w A : Nat → Int32), k + d = 73 → d + 1 ≤ fu → f_X12_stay_L2 fu (Mo_s_aside (Mo_s_now M w) A) x (zn k) = if x = 0 then some (Mo_s_aside (Mo_s_now M (pCpy w A 443 0 k 73)) (pCpy A w 0 443 k 73)) else (f_X12_snap (Mo_s_aside (Mo_s_now M (pCpy w A 443 0 k 73)) (pCpy A w 0 443 k 73))).bind fun q7 => (f_X12_takeBack q7).bind fun q8 => some q8 := by
  intro d
  induction d with
  | zero =>
    intro k fu w A h1 h2
    cases fu with
    | zero => omega
    | succ fu =>
      show f_X12_stay_H2 (Mo_s_aside (Mo_s_now M w) A) (f_X12_stay_L2 fu) x (zn k) = _
      unfold f_X12_stay_H2
      have e : k = 73 := by omega
      subst e
      rw [if_neg (show ¬ zn 73 < (73 : Int32) by decide), pCpy_end, pCpy_end]
  | succ d ih =>
    intro k fu w A h1 h2
    cases fu with
    | zero => omega
    | succ fu =>
      show f_X12_stay_H2 (Mo_s_aside (Mo_s_now M w) A) (f_X12_stay_L2 fu) x (zn k) = _
      unfold f_X12_stay_H2
      have e1 : ∀ w1 A1 : Nat → Int32, Mo_s_aside (Mo_s_now (Mo_s_aside (Mo_s_now M w) A) w1) A1 = Mo_s_aside (Mo_s_now M w1) A1 := fun w1 A1 => by simp only [Mo_s_aside, Mo_s_now]
      rw [if_pos (show zn k < (73 : Int32) by rw [zn_l73, zn_lt (by omega) (by omega)]; omega), show (443 : Int32) + zn k = zn (443 + k) from zn_add 443 k, zb_zn (show 443 + k < 758 by omega) (by omega), zb_zn (show k < 73 by omega) (by omega), if_pos rfl, if_pos rfl, if_pos rfl, zl_eq, if_pos rfl, zl_eq, zn_nat (show 443 + k < 2147483648 by omega), zn_nat (show k < 2147483648 by omega), show zn k + 1 = zn (k + 1) from zn_add k 1]
      rw [e1]
      have e2 : Mo_aside (Mo_s_now (Mo_s_aside (Mo_s_now M w) A) (upd (Mo_now (Mo_s_aside (Mo_s_now M w) A)) (443 + k) (Mo_aside (Mo_s_aside (Mo_s_now M w) A) k))) = A := rfl
      have e3 : Mo_now (Mo_s_aside (Mo_s_now M w) A) = w := rfl
      have e4 : Mo_aside (Mo_s_aside (Mo_s_now M w) A) = A := rfl
      rw [e2, e3, e4]
      have := ih (k := k + 1) (fu := fu) (upd w (443 + k) (A k)) (upd A k (w (443 + k))) (by omega) (by omega)
      obtain ⟨p1, p2⟩ := pCpy_swap (w := w) (A := A) (k := k) (by omega)
      rw [p1, p2] at this
      exact this
theorem pm_stay (M : MoT) (x : Int32) : f_X12_stay M x = if x = 0 then some (Mo_s_aside (Mo_s_now M (pCpy (Mo_now M) (Mo_aside M) 443 0 0 73)) (pCpy (Mo_aside M) (Mo_now M) 0 443 0 73)) else (f_X12_snap (Mo_s_aside (Mo_s_now M (pCpy (Mo_now M) (Mo_aside M) 443 0 0 73)) (pCpy (Mo_aside M) (Mo_now M) 0 443 0 73))).bind fun q7 => (f_X12_takeBack q7).bind fun q8 => some q8 :=
  pm_stay_loop M x 73 (k := 0) (fu := zFU) (Mo_now M) (Mo_aside M) (by omega) (zFU_ge (by omega))
section
variable {D : pD} {L : LdT} {M : MoT} {F : pF} {K : FkT} {R : RdT}
/-- what is written of a book -/
theorem pc_b51 (hv : pV D) (hc : pLc D L) {w : Nat → Int32} (hK : pFc D F K) (hL : pLm D w) (hF : pFm D F w) (M : MoT) (s a b : Int32) (S : LgT) {r k : Nat} (hr : r < 1000) (hk : Lg_lived S = zn k) (x1 : Int32) :
    ∃ S' V, f_X4_live_b51 S L K (zn r) = some (if r = 0 then (-1 : Int32) else zn k, S', K) ∧ Lg_lived S' = zn k ∧ (∀ i, i < 4 → Lg_verdict S' i = V i) ∧ f_X12_book_b103 (pM M w s a b) x1 (zn k) (zn r) = (if x1 = 1 then if 0 < zn k then f_X12_book_b162 (Mo_s_hasWritten (Mo_s_written (pM M w s a b) V) 1) (zn k) (zn r) 1 else f_X12_book_b161 (Mo_s_hasWritten (Mo_s_written (pM M w s a b) V) 1) (zn k) (zn r) else f_X12_book_b161 (Mo_s_hasWritten (Mo_s_written (pM M w s a b) V) 1) (zn k) (zn r)) := by
  unfold f_X4_live_b51 f_X12_book_b103 f_X1_today
  obtain ⟨t, i1, i2⟩ := q_who hv hK (M := Mo_s_written (pM M w s a b) (upd (upd (upd (Mo_written M) 0 (zn r)) 1 (zn k)) 2 (zn (pF_day F)))) hF hL 3
  have e1 : ∀ a1 b1 : Nat → Int32, Mo_s_written (Mo_s_written (pM M w s a b) a1) b1 = Mo_s_written (pM M w s a b) b1 := fun a1 b1 => by simp only [Mo_s_written]
  have e2 : ∀ a1 : Nat → Int32, Mo_written (Mo_s_written (pM M w s a b) a1) = a1 := fun a1 => rfl
  have e3 : ∀ a1 : Nat → Int32, Mo_now (Mo_s_written (pM M w s a b) a1) = w := fun a1 => rfl
  have e4 : Mo_written (pM M w s a b) = Mo_written M := rfl
  have e5 : ∀ a1 b1 : Nat → Int32, Lg_s_verdict (Lg_s_verdict S a1) b1 = Lg_s_verdict S b1 := fun a1 b1 => by simp only [Lg_s_verdict]
  have e6 : ∀ a1 : Nat → Int32, Lg_verdict (Lg_s_verdict S a1) = a1 := fun a1 => rfl
  have e7 : ∀ a1 : Nat → Int32, Lg_lived (Lg_s_verdict S a1) = zn k := fun a1 => hk
  simp only [zl_eq, ob_eq, e1, e2, e3, e4, e5, e6, e7, hc.1.2.2.1, show (0 : Int32).toNatClampNeg = 0 from rfl, show (1 : Int32).toNatClampNeg = 1 from rfl, show (2 : Int32).toNatClampNeg = 2 from rfl, show (3 : Int32).toNatClampNeg = 3 from rfl, show (443 : Int32).toNatClampNeg = 443 from rfl, hF.1, hK.1]
  rw [i1, i2, ob_eq, ob_eq]
  refine ⟨Lg_s_verdict S (upd (upd (upd (upd (Lg_verdict S) 0 (zn r)) 1 (zn k)) 2 (zn (pF_day F))) 3 t), upd (upd (upd (upd (Mo_written M) 0 (zn r)) 1 (zn k)) 2 (zn (pF_day F))) 3 t, ?_, hk, fun i hi => ?_, rfl⟩
  · by_cases z : r = 0
    · rw [if_pos (show zn r = 0 by rw [z]; rfl), if_pos z]
    · rw [if_neg (show ¬ zn r = 0 by rw [zn_eq0 (by omega)]; exact z), if_neg z]
  · show upd (upd (upd (upd (Lg_verdict S) 0 (zn r)) 1 (zn k)) 2 (zn (pF_day F))) 3 t i = _
    have h4 : i = 0 ∨ i = 1 ∨ i = 2 ∨ i = 3 := by omega
    rcases h4 with rfl | rfl | rfl | rfl
    · rw [pu_ne _ _ (by omega), pu_ne _ _ (by omega), pu_ne _ _ (by omega), pu_eq, pu_ne _ _ (by omega), pu_ne _ _ (by omega), pu_ne _ _ (by omega), pu_eq]
    · rw [pu_ne _ _ (by omega), pu_ne _ _ (by omega), pu_eq, pu_ne _ _ (by omega), pu_ne _ _ (by omega), pu_eq]
    · rw [pu_ne _ _ (by omega), pu_eq, pu_ne _ _ (by omega), pu_eq]
    · rw [pu_eq, pu_eq]
theorem q_book (hv : pV D) (hc : pLc D L) (hn : pNn D L (Mo_name M)) (hm : pLm D (Mo_now M)) (hR : pRdr R M) (hK : pFc D F K) (hF : pFm D F (Mo_now M)) (hV : pFv D F) {Hi : HiT} {H : H8T} (hHi : pHi D Hi H (Mo_snaps M) (Mo_snapMany M)) {G : LgT} (hT : pTold G M) (X : XxT) (K2 : FkT) (x1 : Int32) :
    ∃ r G' R' K2' K' Hi' H' M' F', f_X11_book X G R L K2 K Hi H x1 = some (r, G', R', K2', K', Hi', H') ∧ f_X12_book M x1 = some (r, M') ∧ pRdr R' M' ∧ Mo_thrown M' = 0 ∧ pTold G' M' ∧ pFc D F' K' ∧ pFm D F' (Mo_now M') ∧ pFv D F' ∧ pHi D Hi' H' (Mo_snaps M') (Mo_snapMany M') ∧ pFr (Mo_now M) (Mo_now M') ∧ pOth M' = pOth M := by
  unfold f_X11_book f_X12_book
  rw [zl_eq]
  rcases zn_rng x1 0 1 (by omega) (by omega) with h1 | ⟨lv, rfl, -, h1⟩
  · rw [pm_isIn0 (show x1 < (0 : Int32) ∨ (1 : Int32) < x1 from h1), ob_eq, if_pos rfl]
    refine ⟨-1000, G, R, K2, K, Hi, H, Mo_s_thrown M 0, F, ?_, rfl, hR, rfl, hT, hK, hF, hV, hHi, pFr.rf _, rfl⟩
    rcases h1 with h1 | h1
    · rw [if_pos (show x1 < (0 : Int32) from h1)]
    · rw [if_pos (show (1 : Int32) < x1 from h1), ite_self]
  rw [show f_X12_isIn (zn lv) 0 1 = some 1 from pm_isIn1 (lo := 0) (hi := 1) (by omega) h1 (by omega), ob_eq, if_neg n10, if_neg (zn_ge0 (by omega)), if_neg (show ¬ (1 : Int32) < zn lv by rw [zn_l1, zn_lt (by omega) (by omega)]; omega)]
  obtain ⟨hf, ⟨n, t1, t2, t3, t4⟩, hk⟩ := hR
  obtain ⟨B, R1, M1, b1, b2, b3, b4, b5, b6⟩ := q_begin (M := Mo_s_thrown M 0) (most := 400) t1 (by omega) t2 t3 t4 hk
  have b1' : f_X7_begin R 400 = some R1 := b1
  have b2' : f_X12_begin (Mo_s_thrown M 0) 400 = some M1 := b2
  have b5' : M1.2.2.2 = M.2.2.2 := b5
  have bN : Mo_now M1 = Mo_now M := congrArg (fun z => z.2.1.1) b5'
  have bA : Mo_name M1 = Mo_name M := congrArg (fun z => z.2.1.2) b5'
  have bO : pOth M1 = pOth M := oth_of b5'
  have bW : Mo_written M1 = Mo_written M ∧ Mo_hasWritten M1 = Mo_hasWritten M := ⟨congrArg (fun z => z.2.2.2.2.2.2.2.2.1.2.1) b5', congrArg (fun z => z.2.2.2.2.2.2.2.2.1.2.2.2) b5'⟩
  have bS : Mo_snaps M1 = Mo_snaps M ∧ Mo_snapMany M1 = Mo_snapMany M := ⟨congrArg (fun z => z.2.2.2.1.1) b5', congrArg (fun z => z.2.2.2.1.2.1) b5'⟩
  have hE : pEnB D L (Mo_s_lineMany M1 0) := by
    refine ⟨?_, ?_⟩
    · show pNs L (pD_np D) (pD_nm D) (Mo_name M1)
      rw [bA]; exact ⟨hv.np, hv.nm, hc.1.1, hc.1.2.2.1, hn.1, hn.2⟩
    · show pLm D (Mo_now M1)
      rw [bN]; exact hm
  have cl0 : f_X4_read G R L = f_X4_read_L14 L zFU (Lg_s_lines G 0) R1 0 := by
    unfold f_X4_read
    rw [zl_eq, b1', ob_eq]
  rw [cl0, b2', ob_eq, zl_eq]
  rcases q_bookLines hv hc (zn lv) 41 (i := 0) (f1 := zFU) (f2 := zFU) (n := n) (most := 400) (B := B) (R := R1) (M := Mo_s_lineMany M1 0) (S := Lg_s_lines G 0) (by omega) (by omega) (zFU_ge (by omega)) (zFU_ge (by omega)) b3 hE rfl rfl (fun j hj => by omega) with ⟨S', R', M2, k, g1, g2, g3, ⟨v, g4⟩, g5, g6, g7, g8, g9⟩ | ⟨S', R', M2, g1, g2, g3, ⟨v, g4⟩, g5⟩
  · have g1' : f_X4_read_L14 L zFU (Lg_s_lines G 0) R1 0 = some (1, S', R') := g1
    rw [g1', g2, ob_eq, zl_eq]
    simp only [if_neg n10]
    have e1 : M2.1 = M1.1 := congrArg (fun z => z.1) g4
    have e2 : Mo_now M2 = Mo_now M := (pBb_now g4).1.trans bN
    have e3 : pOth M2 = pOth M := (oth_bb g4).trans ((oth_many M1 v).trans bO)
    have e4 : Mo_thrown M2 = 0 := (congrArg (fun z => z.2.2.2.2.2.2.2.2.2.2.2) g4).trans b6
    have e5 : Mo_snaps M2 = Mo_snaps M ∧ Mo_snapMany M2 = Mo_snapMany M := ⟨(congrArg (fun z => z.2.2.2.2.1.1) g4).trans bS.1, (congrArg (fun z => z.2.2.2.2.1.2.1) g4).trans bS.2⟩
    have e6 : Mo_taped M2 = 0 := by show M2.1.2 = 0; rw [e1, b4]
    obtain ⟨q3, c1, c2⟩ := pc_copy (D := D) K2 K
    rw [c1, ob_eq, pm_layAside, ob_eq]
    generalize hA : pCpy (Mo_aside M2) (Mo_now M2) 0 443 0 73 = A
    have hAi : ∀ i, i < 73 → A i = Mo_now M (443 + i) := fun i hi => by
      have := pCpy_in (Mo_aside M2) (Mo_now M2) (a := 0) (b := 443) (n := 73) hi
      rw [Nat.zero_add, hA, e2] at this; exact this
    have hcp : ∀ w' : Nat → Int32, pFr (Mo_now M) w' → pCpy w' A 443 0 0 73 = Mo_now M := fun w' hw => by
      funext j
      unfold pCpy
      by_cases z : 443 + 0 ≤ j ∧ j < 443 + 73
      · rw [if_pos z, hAi _ (by omega)]
        exact congrArg (Mo_now M) (by omega)
      · rw [if_neg z]; exact hw j (by omega)
    have eM : Mo_s_aside M2 A = pM (Mo_s_aside M2 A) (Mo_now M) (Mo_seed M2) (Mo_roadThere M2) (Mo_placeThere M2) := by
      have : pM (Mo_s_aside M2 A) (Mo_now (Mo_s_aside M2 A)) (Mo_seed (Mo_s_aside M2 A)) (Mo_roadThere (Mo_s_aside M2 A)) (Mo_placeThere (Mo_s_aside M2 A)) = Mo_s_aside M2 A := pM_eta _
      rw [show Mo_now (Mo_s_aside M2 A) = Mo_now M from e2] at this
      exact this.symm
    obtain ⟨r, S2, K3, F3, w', s', a', b', k', i1, i2, i3, i4, i5, i6, i7, i8, i9, i10⟩ := q_live_loop hv hc (Mo_s_aside M2 A) (n := k) g5 (T := Lg_rows S') g9 g7 (zn lv) k (k := 0) (f1 := zFU) (f2 := zFU) (S := Lg_s_lived S' 0) (c2 F hK hv) hm hF (Mo_seed M2) (Mo_roadThere M2) (Mo_placeThere M2) hV (by omega) (zFU_ge (by omega)) (zFU_ge (by omega)) rfl g6 rfl
    have i2' : f_X12_book_L73 zFU (Mo_s_aside M2 A) (zn lv) 0 0 = f_X12_book_b103 (pM (Mo_s_aside M2 A) w' s' a' b') (zn lv) (zn k') (zn r) := by rw [eM]; exact i2
    have lv0 : f_X4_live S' L q3 = f_X4_live_b51 S2 L K3 (zn r) := by
      unfold f_X4_live
      rw [zl_eq]; exact i1
    obtain ⟨S9, V, v1, v2, v3, v4⟩ := pc_b51 hv hc i7 (hm.fr' hv i10) i8 (Mo_s_aside M2 A) s' a' b' S2 (r := r) (k := k') (by omega) i5 (zn lv)
    rw [lv0, v1, ob_eq, i2', v4]
    simp only
    rw [v2]
    generalize hY : Mo_s_hasWritten (Mo_s_written (pM (Mo_s_aside M2 A) w' s' a' b') V) 1 = Y
    have y1 : Mo_now Y = w' := by rw [← hY]; rfl
    have y2 : Mo_aside Y = A := by rw [← hY]; rfl
    have y3 : pOth Y = pOth M := by rw [← hY, oth_has, oth_written, oth_pM, oth_aside]; exact e3
    have y4 : Mo_thrown Y = 0 := by rw [← hY]; exact e4
    have y5 : Mo_snaps Y = Mo_snaps M ∧ Mo_snapMany Y = Mo_snapMany M := by rw [← hY]; exact e5
    have y6 : Mo_taped Y = 0 := by rw [← hY]; exact e6
    have y7 : Rd_fault R' = Mo_fault Y := by rw [← hY]; exact g3.2.2.1.trans g3.2.2.2.symm
    have y8 : pTold S9 Y := by rw [← hY]; exact Or.inr ⟨rfl, v3⟩
    have hres : ∀ M' : MoT, ((some M').bind fun q13 => if zn r = 0 then some ((-1 : Int32), q13) else some (zn k', q13)) = some (if r = 0 then (-1 : Int32) else zn k', M') := fun M' => by
      rw [ob_eq]
      by_cases z : r = 0
      · rw [if_pos (show zn r = 0 by rw [z]; rfl), if_pos z]
      · rw [if_neg (show ¬ zn r = 0 by rw [zn_eq0 (by omega)]; exact z), if_neg z]
    have no : ∃ M', f_X12_book_b161 Y (zn k') (zn r) = some (if r = 0 then (-1 : Int32) else zn k', M') ∧ pRdr (Rd_s_length R' 0) M' ∧ Mo_thrown M' = 0 ∧ pTold S9 M' ∧ Mo_now M' = Mo_now M ∧ pHi D Hi H (Mo_snaps M') (Mo_snapMany M') ∧ pOth M' = pOth M := by
      unfold f_X12_book_b161 f_X12_book_b162
      rw [pm_stay, if_pos rfl, hres]
      refine ⟨_, rfl, pRdr.end' y7 y6 g3.1.2.2.2.2.2.2.2.2, y4, y8, ?_, ?_, ?_⟩
      · show pCpy (Mo_now Y) (Mo_aside Y) 443 0 0 73 = _
        rw [y1, y2]; exact hcp w' i10
      · show pHi D Hi H (Mo_snaps Y) (Mo_snapMany Y)
        rw [y5.1, y5.2]; exact hHi
      · rw [oth_aside, oth_now]; exact y3
    have noC : ∀ cl : Option (Int32 × LgT × RdT × FkT × FkT × HiT × H8T), cl = some (if r = 0 then (-1 : Int32) else zn k', S9, Rd_s_length R' 0, K3, K, Hi, H) → ∃ r' G' R2' K2' K' Hi' H' M' F', cl = some (r', G', R2', K2', K', Hi', H') ∧ f_X12_book_b161 Y (zn k') (zn r) = some (r', M') ∧ pRdr R2' M' ∧ Mo_thrown M' = 0 ∧ pTold G' M' ∧ pFc D F' K' ∧ pFm D F' (Mo_now M') ∧ pFv D F' ∧ pHi D Hi' H' (Mo_snaps M') (Mo_snapMany M') ∧ pFr (Mo_now M) (Mo_now M') ∧ pOth M' = pOth M := by
      intro cl hcl
      obtain ⟨M', n1, n2, n3, n4, n5, n6, n7⟩ := no
      exact ⟨_, _, _, _, _, _, _, M', F, hcl, n1, n2, n3, n4, hK, by rw [n5]; exact hF, hV, n6, by rw [n5]; exact pFr.rf _, n7⟩
    by_cases z1 : lv = 1
    · rw [if_pos (show zn lv = 1 by rw [z1]; rfl), if_pos (show zn lv = 1 by rw [z1]; rfl)]
      by_cases z2 : k' = 0
      · have c0 : ¬ (0 : Int32) < zn k' := by rw [zn_pos (by omega)]; omega
        rw [if_neg c0, if_neg c0]
        exact noC _ rfl
      · have c0 : (0 : Int32) < zn k' := by rw [zn_pos (by omega)]; omega
        rw [if_pos c0, if_pos c0]
        unfold f_X12_book_b162
        rw [pm_stay, if_neg n10, y1, y2, hcp w' i10]
        generalize hT2 : Mo_s_aside (Mo_s_now Y (Mo_now M)) (pCpy A w' 0 443 0 73) = T
        have u1 : Mo_now T = Mo_now M := by rw [← hT2]; rfl
        have u2 : Mo_aside T = pCpy A w' 0 443 0 73 := by rw [← hT2]; rfl
        have u3 : pHi D Hi H (Mo_snaps T) (Mo_snapMany T) := by
          rw [← hT2]
          show pHi D Hi H (Mo_snaps Y) (Mo_snapMany Y)
          rw [y5.1, y5.2]; exact hHi
        obtain ⟨Hi', H', S8, n8, k1, k2, k3⟩ := q_keep hv (M := T) u3 hK (by rw [u1]; exact hF) hV
        obtain ⟨K4, c3, c4⟩ := pc_copy (D := D) K K3
        rw [k1, ob_eq]
        simp only
        rw [c3, ob_eq, k2, ob_eq, pm_takeBack, ob_eq, hres]
        have e9 : pCpy (Mo_now (Mo_s_snapMany (Mo_s_snaps T S8) n8)) (Mo_aside (Mo_s_snapMany (Mo_s_snaps T S8) n8)) 443 0 0 73 = w' := by
          rw [show Mo_now (Mo_s_snapMany (Mo_s_snaps T S8) n8) = Mo_now M from u1, show Mo_aside (Mo_s_snapMany (Mo_s_snaps T S8) n8) = pCpy A w' 0 443 0 73 from u2]
          funext j
          unfold pCpy
          by_cases z : 443 + 0 ≤ j ∧ j < 443 + 73
          · rw [if_pos z, if_pos (by omega)]
            exact congrArg w' (by omega)
          · rw [if_neg z]; exact (i10 j (by omega)).symm
        rw [e9]
        have uf : Mo_fault T = Mo_fault Y := by rw [← hT2]; rfl
        have ut : Mo_taped T = Mo_taped Y := by rw [← hT2]; rfl
        have uth : Mo_thrown T = Mo_thrown Y := by rw [← hT2]; rfl
        have utd : pTold S9 T := by rw [← hT2]; exact y8
        have uo : pOth T = pOth Y := by rw [← hT2, oth_aside, oth_now]
        refine ⟨_, S9, Rd_s_length R' 0, K3, K4, Hi', H', _, F3, rfl, rfl, pRdr.end' (y7.trans uf.symm) (ut.trans y6) g3.1.2.2.2.2.2.2.2.2, uth.trans y4, utd, c4 F3 i7 hv, i8, i9, k3, i10, ?_⟩
        rw [oth_now, oth_snapMany, oth_snaps, uo]; exact y3
    · have c1 : ¬ zn lv = (1 : Int32) := by rw [zn_eq1 (by omega)]; exact z1
      rw [if_neg c1, if_neg c1]
      exact noC _ rfl
  · have g1' : f_X4_read_L14 L zFU (Lg_s_lines G 0) R1 0 = some (0, S', R') := g1
    rw [g1', g2, ob_eq, zl_eq]
    simp only [if_true]
    have e1 : M2.1 = M1.1 := congrArg (fun z => z.1) g4
    have e2 : Mo_now M2 = Mo_now M := (pBb_now g4).1.trans bN
    have e3 : pOth M2 = pOth M := (oth_bb g4).trans ((oth_many M1 v).trans bO)
    have e4 : Mo_thrown M2 = 0 := (congrArg (fun z => z.2.2.2.2.2.2.2.2.2.2.2) g4).trans b6
    have e5 : Mo_snaps M2 = Mo_snaps M ∧ Mo_snapMany M2 = Mo_snapMany M := ⟨(congrArg (fun z => z.2.2.2.2.1.1) g4).trans bS.1, (congrArg (fun z => z.2.2.2.2.1.2.1) g4).trans bS.2⟩
    have e6 : Mo_taped M2 = 0 := by show M2.1.2 = 0; rw [e1, b4]
    have e7 : Mo_written M2 = Mo_written M ∧ Mo_hasWritten M2 = Mo_hasWritten M := ⟨(congrArg (fun z => z.2.2.2.2.2.2.2.2.2.1.1) g4).trans bW.1, (congrArg (fun z => z.2.2.2.2.2.2.2.2.2.1.2.2) g4).trans bW.2⟩
    obtain ⟨fk, pl, p1, p2, p3⟩ := g3
    refine ⟨_, S', Rd_s_length R' 0, K2, K, Hi, H, M2, F, ?_, by rw [p3], pRdr.end' (p1.2.2.2.1.trans p2.symm) e6 p1.2.2.2.2.2, e4, ?_, hK, by rw [e2]; exact hF, hV, by rw [e5.1, e5.2]; exact hHi, by rw [e2]; exact pFr.rf _, e3⟩
    · rw [show Rd_faultAt (Rd_s_length R' 0) = zn pl from p1.2.2.2.2.1]
    · unfold pTold
      rw [e7.1, e7.2, g5]; exact hT
end
