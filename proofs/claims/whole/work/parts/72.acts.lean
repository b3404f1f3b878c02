theorem pvu_same {α : Type} (f : Nat → α) (k : Nat) (v : α) : va_up f k v k = v := by unfold va_up; rw [if_pos rfl]
theorem pvu_ne {α : Type} (f : Nat → α) {k j : Nat} (v : α) (h : j ≠ k) : va_up f k v j = f j := by unfold va_up; rw [if_neg h]
theorem q_keep {D : pD} (hv : pV D) {Hi : HiT} {H : H8T} {M : MoT} (h : pHi D Hi H (Mo_snaps M) (Mo_snapMany M)) {F : pF} {K : FkT} (hK : pFc D F K) (hF : pFm D F (Mo_now M)) (hV : pFv D F) : ∃ Hi' H' S' n', f_X2_keep Hi H K = some (Hi', H') ∧ f_X12_snap M = some (Mo_s_snapMany (Mo_s_snaps M S') n') ∧ pHi D Hi' H' S' n' := by
  obtain ⟨fi, sz, hf, hs, e1, e2, e3, hi⟩ := h
  obtain ⟨Hi', q, k1, k2, k3⟩ := pc_keep (K := K) (H := H) hf hs e1 e2
  have hq : pFc D F q := by
    obtain ⟨q', c1, c2⟩ := pc_copy (D := D) (H ((fi + sz) % 8)) K
    rw [c1] at k2
    cases k2
    exact c2 F hK hv
  have hsn := pm_snap M hs e3
  rcases k3 with ⟨z, k3, k4⟩ | ⟨z, k3, k4⟩
  · rw [if_pos z] at hsn
    refine ⟨Hi', _, _, _, k1, hsn, fi, sz + 1, hf, z, k3, k4, rfl, fun i hi' => ?_⟩
    by_cases y : i = sz
    · subst y
      refine ⟨F, hV, by rw [pvu_same]; exact hq, hF.cg hv (fun k h1 h2 => ?_)⟩
      show pCpy _ _ (73 * i) 443 0 73 (73 * i + (k - 443)) = _
      rw [pCpy_in _ _ (by omega)]; exact congrArg (Mo_now M) (show 443 + (k - 443) = k by omega)
    · obtain ⟨G, g1, g2, g3⟩ := hi i (by omega)
      refine ⟨G, g1, by rw [pvu_ne _ _ (by omega)]; exact g2, g3.cg hv (fun k h1 h2 => ?_)⟩
      show pCpy _ _ (73 * sz) 443 0 73 (73 * i + (k - 443)) = _
      rw [pCpy_out _ _ (by omega)]
  · subst z
    rw [if_neg (by omega)] at hsn
    refine ⟨Hi', _, _, _, k1, hsn, (fi + 1) % 8, 8, by omega, by omega, k3, k4, rfl, fun i hi' => ?_⟩
    by_cases y : i = 7
    · subst y
      refine ⟨F, hV, ?_, hF.cg hv (fun k h1 h2 => ?_)⟩
      · rw [show ((fi + 1) % 8 + 7) % 8 = (fi + 8) % 8 by omega, pvu_same]; exact hq
      · show pCpy _ _ 511 443 0 73 (73 * 7 + (k - 443)) = _
        rw [show 73 * 7 + (k - 443) = 511 + (k - 443) by omega, pCpy_in _ _ (by omega)]; exact congrArg (Mo_now M) (show 443 + (k - 443) = k by omega)
    · obtain ⟨G, g1, g2, g3⟩ := hi (i + 1) (by omega)
      refine ⟨G, g1, ?_, g3.cg hv (fun k h1 h2 => ?_)⟩
      · rw [show ((fi + 1) % 8 + i) % 8 = (fi + (i + 1)) % 8 by omega, pvu_ne _ _ (by omega)]; exact g2
      · show pCpy _ _ 511 443 0 73 (73 * i + (k - 443)) = _
        rw [pCpy_out _ _ (by omega)]
        unfold pCpy
        rw [if_pos (by omega)]; exact congrArg (Mo_snaps M) (show 73 + (73 * i + (k - 443) - 0) = 73 * (i + 1) + (k - 443) by omega)
theorem pm_undo_loop (M : MoT) {z : Nat} (hz : z < 8) : ∀ (d : Nat) {k fu : Nat} (w : Nat → Int32), k + d = 73 → d + 1 ≤ fu → Mo_snapMany M = zn z → f_X12_undo_L26 fu (Mo_s_now M w) (zn k) = some (zn z, Mo_s_now M (pCpy w (Mo_snaps M) 443 (73 * z) k 73))
  | d, k, 0, S, h1, h2, h3 => by omega
  | 0, k, fu + 1, S, h1, h2, h3 => by
    show f_X12_undo_H26 (Mo_s_now M S) (f_X12_undo_L26 fu) (zn k) = _
    unfold f_X12_undo_H26
    have e : k = 73 := by omega
    subst e
    rw [if_neg (by decide), pCpy_end]
    show some (Mo_snapMany M, _) = _
    rw [h3]
  | d + 1, k, fu + 1, S, h1, h2, h3 => by
    show f_X12_undo_H26 (Mo_s_now M S) (f_X12_undo_L26 fu) (zn k) = _
    unfold f_X12_undo_H26
    rw [if_pos (show zn k < (73 : Int32) by rw [zn_l73, zn_lt (by omega) (by omega)]; omega)]
    rw [show Mo_snapMany (Mo_s_now M S) = zn z from h3, show Mo_now (Mo_s_now M S) = S from rfl, show Mo_snaps (Mo_s_now M S) = Mo_snaps M from rfl]
    simp (disch := omega) only [zn_l443, zn_l73, zn_l1, zn_add, zn_mul, zb_zn, zn_nat, if_true, zl_eq]
    have := pm_undo_loop M hz d (k := k + 1) (fu := fu) (upd S (443 + k) (Mo_snaps M (73 * z + k))) (by omega) (by omega) h3
    rw [pCpy_step _ _ (by omega)] at this
    exact this
/-- an act is taken back -/
theorem q_undo {D : pD} (hv : pV D) {Hi : HiT} {H : H8T} {M : MoT} (h : pHi D Hi H (Mo_snaps M) (Mo_snapMany M)) {F : pF} {K : FkT} (hK : pFc D F K) (hF : pFm D F (Mo_now M)) (hV : pFv D F) (X : XxT) :
    ∃ r Hi' K' w' n' F', f_X11_undo X Hi K H = some (r, Hi', K') ∧ f_X12_undo M = some (r, Mo_s_now (Mo_s_snapMany (Mo_s_thrown M 0) n') w') ∧ pHi D Hi' H (Mo_snaps M) n' ∧ pFc D F' K' ∧ pFm D F' w' ∧ pFv D F' ∧ pFr (Mo_now M) w' := by
  obtain ⟨fi, sz, hf, hs, e1, e2, e3, hi⟩ := h
  unfold f_X11_undo f_X2_takeBack f_X12_undo
  rw [e2]
  simp only [zl_eq]
  rw [show Mo_snapMany (Mo_s_thrown M 0) = zn sz from e3]
  by_cases z : sz = 0
  · subst z
    simp only [if_pos (show zn 0 = (0 : Int32) from rfl), ob_eq]
    refine ⟨_, _, _, Mo_now M, zn 0, F, rfl, ?_, ⟨fi, 0, hf, by omega, e1, e2, rfl, fun i hi' => by omega⟩, hK, hF, hV, pFr.rf _⟩
    rw [← e3]; rfl
  · have c0 : ¬ zn sz = 0 := by rw [zn_eq0 (by omega)]; exact z
    simp only [if_neg c0]
    rw [zn_dec' (by omega)]
    rw [show Hi_first (Hi_s_size Hi (zn (sz - 1))) = zn fi from e1, show Hi_size (Hi_s_size Hi (zn (sz - 1))) = zn (sz - 1) from rfl]
    simp (disch := omega) only [zn_l8, zn_add, zn_rem, zb_zn, zn_nat, if_true, zl_eq]
    obtain ⟨G, g1, g2, g3⟩ := hi (sz - 1) (by omega)
    obtain ⟨K', c1, c2⟩ := pc_copy (D := D) K (H ((fi + (sz - 1)) % 8))
    rw [c1, ob_eq, ob_eq]
    have hl := pm_undo_loop (Mo_s_snapMany (Mo_s_thrown M 0) (zn (sz - 1))) (z := sz - 1) (by omega) 73 (k := 0) (fu := zFU) (Mo_now M) (by omega) (zFU_ge (by omega)) rfl
    refine ⟨_, _, _, _, _, G, rfl, hl, ⟨fi, sz - 1, hf, by omega, e1, rfl, rfl, fun i hi' => hi i (by omega)⟩, c2 G g2 hv, g3.cg hv (fun k h1 h2 => ?_), g1, fun i hi' => ?_⟩
    · show pCpy _ (Mo_snaps M) 443 (73 * (sz - 1)) 0 73 k = _
      have := pCpy_in (Mo_now M) (Mo_snaps M) (a := 443) (b := 73 * (sz - 1)) (n := 73) (i := k - 443) (by omega)
      rw [show 443 + (k - 443) = k by omega] at this
      exact this
    · exact pCpy_out _ _ (by omega)
/-- an act, tried: whether, and what becomes of it -/
def pActR (D : pD) (F : pF) (K : FkT) (M : MoT) (w : Nat → Int32) (s a b : Int32) (cl : Option (Int32 × FkT)) (c m x y : Int32) : Prop :=
  ∃ (r : Nat) (K' : FkT), r ≤ 3 ∧ cl = some (zn r, K') ∧ Fk_seed K' = Fk_seed K ∧ (∃ a1 b1, f_X12_why (pM M w s a b) c m x = some (zn r, pM M w s a1 b1)) ∧ (r ≠ 0 → K' = K) ∧
    (r = 0 → ∃ F' w', pFc D F' K' ∧ pFm D F' w' ∧ pFv D F' ∧ pFr w w' ∧ pF_day F' = pF_day F ∧ ∀ M1 s1 a1 b1, ∃ a2 b2, f_X12_live (pM M1 w s1 a1 b1) c m x y = some (pM M1 w' s1 a2 b2))
theorem q_act {D : pD} (hv : pV D) {Hi : HiT} {H : H8T} {M : MoT} {w : Nat → Int32} {s a b : Int32} (hHi : pHi D Hi H (Mo_snaps M) (Mo_snapMany M)) {F : pF} {K q3 : FkT} (hq : pFc D F q3) (hK : pFc D F K) (hF : pFm D F w) (hV : pFv D F) (X : XxT) {cl : Option (Int32 × FkT)} {c m x y : Int32} (h : pActR D F K M w s a b cl c m x y) :
    ∃ r K' Hi' H' S' n' w' a' b' F', cl = some (r, K') ∧ f_X11_keptIfDone X Hi q3 H r = some (r, Hi', H') ∧ f_X12_act (pM M w s a b) c m x y = some (r, pM (Mo_s_snapMany (Mo_s_snaps M S') n') w' s a' b') ∧ pHi D Hi' H' S' n' ∧ pFc D F' K' ∧ pFm D F' w' ∧ pFv D F' ∧ pFr w w' := by
  obtain ⟨r, K', hr, h1, h2, ⟨a1, b1, h3⟩, h4, h5⟩ := h
  unfold f_X11_keptIfDone f_X12_act
  rw [h3, ob_eq]
  by_cases z : r = 0
  · obtain ⟨F', w', g1, g2, g3, g4, g5, g6⟩ := h5 z
    subst z
    obtain ⟨Hi', H', S', n', k1, k2, k3⟩ := q_keep hv (M := pM M w s a1 b1) hHi hq hF hV
    obtain ⟨a2, b2, l1⟩ := g6 (Mo_s_snapMany (Mo_s_snaps M S') n') s a1 b1
    refine ⟨_, K', Hi', H', S', n', w', a2, b2, F', h1, ?_, ?_, k3, g1, g2, g3, g4⟩
    · rw [if_pos (show zn 0 = (0 : Int32) from rfl), k1, ob_eq]
    · simp only
      rw [if_pos (show zn 0 = (0 : Int32) from rfl), k2, ob_eq, show Mo_s_snapMany (Mo_s_snaps (pM M w s a1 b1) S') n' = pM (Mo_s_snapMany (Mo_s_snaps M S') n') w s a1 b1 from rfl, l1, ob_eq]; rfl
  · have e := h4 z
    subst e
    have c0 : ¬ zn r = 0 := by rw [zn_eq0 (by omega)]; exact z
    refine ⟨_, K', Hi, H, Mo_snaps M, Mo_snapMany M, w, a1, b1, F, h1, ?_, ?_, hHi, hK, hF, hV, pFr.rf w⟩
    · rw [if_neg c0]
    · simp only
      rw [if_neg c0]; rfl
