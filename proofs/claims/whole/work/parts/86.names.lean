section
variable {n most : Nat} {B : Nat → Nat} {R : RdT} {M : MoT} {L : LdT}
/-! finding a name -/
theorem pc_pl_loop {N : Nat → Int64} {np : Nat} (hnp : np ≤ 10) (h1 : Ld_places L = zn np) {x y : Int64} (hxy : pNm x y) (hN : ∀ p, p < np → pNm (Ld_placeNames L p) (N p)) : ∀ (d : Nat) {k f1 f2 : Nat}, k + d = np → d + 1 ≤ f1 → d + 1 ≤ f2 → ∃ i, i ≤ np ∧ f_X3_placeNamed_L2 L f1 x (zn k) = some (zo i) ∧ f_X12_findIn_L3 16 N f2 (zn 0) (zn np) y (zn k) = some (zo i)
  | d, k, 0, f2, a1, a2, a3 => by omega
  | d, k, f1 + 1, 0, a1, a2, a3 => by omega
  | 0, k, f1 + 1, f2 + 1, a1, a2, a3 => by
    show ∃ i, i ≤ np ∧ f_X3_placeNamed_H2 L (f_X3_placeNamed_L2 L f1) x (zn k) = _ ∧ f_X12_findIn_H3 16 N (f_X12_findIn_L3 16 N f2) (zn 0) (zn np) y (zn k) = _
    unfold f_X3_placeNamed_H2 f_X12_findIn_H3
    have e : ¬ zn k < zn np := by rw [zn_lt (by omega) (by omega)]; omega
    rw [h1, if_neg e, if_neg e]
    exact ⟨0, by omega, rfl, rfl⟩
  | d + 1, k, f1 + 1, f2 + 1, a1, a2, a3 => by
    show ∃ i, i ≤ np ∧ f_X3_placeNamed_H2 L (f_X3_placeNamed_L2 L f1) x (zn k) = _ ∧ f_X12_findIn_H3 16 N (f_X12_findIn_L3 16 N f2) (zn 0) (zn np) y (zn k) = _
    unfold f_X3_placeNamed_H2 f_X12_findIn_H3
    have e : zn k < zn np := by rw [zn_lt (by omega) (by omega)]; omega
    rw [h1, if_pos e, if_pos e]
    simp (disch := omega) only [zn_add, zb_zn, zn_nat, if_true, lg_eq0, Nat.zero_add]
    have eq := pNm_eq (hN k (by omega)) hxy
    rw [show zn k + 1 = zn (k + 1) from zn_add k 1]
    by_cases q : Ld_placeNames L k = x
    · rw [if_pos q, if_pos (eq.mp q)]
      exact ⟨k + 1, by omega, rfl, rfl⟩
    · rw [if_neg q, if_neg (fun z => q (eq.mpr z))]
      exact pc_pl_loop hnp h1 hxy hN d (by omega) (by omega) (by omega)
theorem q_placeNamed {N : Nat → Int64} {np : Nat} (hnp : np ≤ 10) (h1 : Ld_places L = zn np) {x y : Int64} (hxy : pNm x y) (hN : ∀ p, p < np → pNm (Ld_placeNames L p) (N p)) : ∃ i, i ≤ np ∧ f_X3_placeNamed L x = some (zo i) ∧ f_X12_findIn 16 N (0 : Int32) (zn np) y = some (zo i) :=
  pc_pl_loop hnp h1 hxy hN np (k := 0) (f1 := zFU) (f2 := zFU) (by omega) (zFU_ge (by omega)) (zFU_ge (by omega))
theorem pc_mn_loop {N : Nat → Int64} {nm : Nat} (hnm : nm ≤ 6) (h1 : Ld_men L = zn nm) {x y : Int64} (hxy : pNm x y) (hN : ∀ p, p < nm → pNm (Ld_manNames L p) (N (10 + p))) : ∀ (d : Nat) {k f1 f2 : Nat}, k + d = nm → d + 1 ≤ f1 → d + 1 ≤ f2 → ∃ i, i ≤ nm ∧ f_X3_manNamed_L2 L f1 x (zn k) = some (zo i) ∧ f_X12_findIn_L3 16 N f2 (zn 10) (zn nm) y (zn k) = some (zo i)
  | d, k, 0, f2, a1, a2, a3 => by omega
  | d, k, f1 + 1, 0, a1, a2, a3 => by omega
  | 0, k, f1 + 1, f2 + 1, a1, a2, a3 => by
    show ∃ i, i ≤ nm ∧ f_X3_manNamed_H2 L (f_X3_manNamed_L2 L f1) x (zn k) = _ ∧ f_X12_findIn_H3 16 N (f_X12_findIn_L3 16 N f2) (zn 10) (zn nm) y (zn k) = _
    unfold f_X3_manNamed_H2 f_X12_findIn_H3
    have e : ¬ zn k < zn nm := by rw [zn_lt (by omega) (by omega)]; omega
    rw [h1, if_neg e, if_neg e]
    exact ⟨0, by omega, rfl, rfl⟩
  | d + 1, k, f1 + 1, f2 + 1, a1, a2, a3 => by
    show ∃ i, i ≤ nm ∧ f_X3_manNamed_H2 L (f_X3_manNamed_L2 L f1) x (zn k) = _ ∧ f_X12_findIn_H3 16 N (f_X12_findIn_L3 16 N f2) (zn 10) (zn nm) y (zn k) = _
    unfold f_X3_manNamed_H2 f_X12_findIn_H3
    have e : zn k < zn nm := by rw [zn_lt (by omega) (by omega)]; omega
    rw [h1, if_pos e, if_pos e]
    simp (disch := omega) only [zn_add, zb_zn, zn_nat, if_true, lg_eq0]
    have eq := pNm_eq (hN k (by omega)) hxy
    rw [show zn k + 1 = zn (k + 1) from zn_add k 1]
    by_cases q : Ld_manNames L k = x
    · rw [if_pos q, if_pos (eq.mp q)]
      exact ⟨k + 1, by omega, rfl, rfl⟩
    · rw [if_neg q, if_neg (fun z => q (eq.mpr z))]
      exact pc_mn_loop hnm h1 hxy hN d (by omega) (by omega) (by omega)
theorem q_manNamed {N : Nat → Int64} {nm : Nat} (hnm : nm ≤ 6) (h1 : Ld_men L = zn nm) {x y : Int64} (hxy : pNm x y) (hN : ∀ p, p < nm → pNm (Ld_manNames L p) (N (10 + p))) : ∃ i, i ≤ nm ∧ f_X3_manNamed L x = some (zo i) ∧ f_X12_findIn 16 N (10 : Int32) (zn nm) y = some (zo i) :=
  pc_mn_loop hnm h1 hxy hN nm (k := 0) (f1 := zFU) (f2 := zFU) (by omega) (zFU_ge (by omega)) (zFU_ge (by omega))
theorem zo_m1 {i : Nat} (h : i < 2147483648) : (zo i = (-1 : Int32)) = (i = 0) := by
  cases i with
  | zero => exact propext ⟨fun _ => rfl, fun _ => rfl⟩
  | succ k =>
    refine propext ⟨fun z => ?_, fun z => by omega⟩
    have z' : zn k = zm := z
    rw [zm_eq (by omega)] at z'; exact z'.elim
/-- the names told so far -/
def pNs (L : LdT) (np nm : Nat) (N : Nat → Int64) : Prop := np ≤ 10 ∧ nm ≤ 6 ∧ Ld_places L = zn np ∧ Ld_men L = zn nm ∧ (∀ p, p < np → pNm (Ld_placeNames L p) (N p)) ∧ (∀ p, p < nm → pNm (Ld_manNames L p) (N (10 + p)))
/-- frame of reading a land -/
def pFl (M M' : MoT) : Prop := M'.1 = M.1 ∧ M'.2.2.2.2 = M.2.2.2.2 ∧ Mo_thrown M' = Mo_thrown M
theorem pFl.tr {M1 M2 M3 : MoT} (h : pFl M1 M2) (h' : pFl M2 M3) : pFl M1 M3 := ⟨h'.1.trans h.1, h'.2.1.trans h.2.1, h'.2.2.trans h.2.2⟩
theorem pFb.l {M M' : MoT} (h : pFb M M') : pFl M M' := ⟨h.1, by rw [h.2.1], h.2.2⟩
theorem pFb.rd {M M' : MoT} (h : pFb M M') : Mo_read M' = Mo_read M := by show M'.2.2.2.1.1 = M.2.2.2.1.1; rw [h.2.1]
theorem pFb.rn {M M' : MoT} (h : pFb M M') : Mo_readName M' = Mo_readName M := by show M'.2.2.2.1.2 = M.2.2.2.1.2; rw [h.2.1]
theorem pm_badB {M' : MoT} {k : Int32} (b : f_X12_bad M k = some (0, M')) : ((f_X12_bad M k).bind fun q => if zb_bo q.1 = true then some (q.1, q.2) else none) = some (0, M') := by rw [b, ob_eq]; rfl
/-- a new name -/
theorem pG.fresh (h : pG n most B R M) {np nm : Nat} (hs : pNs L np nm (Mo_readName M)) (hw0 : Mo_read M 0 = zn np) (hw2 : Mo_read M 2 = zn nm) {slot : Nat} (hsl : slot < 16) :
    (∃ R' M' x y, f_X3_freshName L R = some (x, R') ∧ f_X12_readNew M (zn slot) = some (1, M') ∧ pG n most B R' M' ∧ pNm x y ∧ Mo_readName M' = vp_updL (Mo_readName M) slot y ∧ Mo_read M' = Mo_read M ∧ pFl M M' ∧ Mo_told M' = Mo_told M) ∨
    (∃ R' M' x, f_X3_freshName L R = some (x, R') ∧ f_X12_readNew M (zn slot) = some (0, M') ∧ pW R' M' ∧ pFl M M') := by
  have hG := h
  obtain ⟨hx, ht, hf, hm⟩ := h
  obtain ⟨s1, s2, s3, s4, s5, s6⟩ := hs
  unfold f_X3_freshName f_X3_freshName_b39 f_X12_readNew
  rcases tk_name ht with ⟨k1, k2, k3, k4, k5⟩ | ⟨k1, k2⟩
  · rw [if_pos k1, k4, ob_eq, if_neg n10]
    rw [show Mo_read M (0 : Int32).toNatClampNeg = zn np from hw0, show Mo_read M (2 : Int32).toNatClampNeg = zn nm from hw2]
    obtain ⟨i, i1, i2, i3⟩ := q_placeNamed s1 s3 k5 s5
    obtain ⟨j, j1, j2, j3⟩ := q_manNamed s2 s4 k5 s6
    rw [i2, ob_eq, i3, ob_eq, j2, ob_eq, j3, ob_eq]
    simp (disch := omega) only [zo_m1]
    obtain ⟨R', M', b1, b2, b3, b4⟩ := hG.bad (k := 3) (by omega) (by omega) (Or.inr (by rw [k3]; decide))
    have b1' : f_X7_fail R 3 = some R' := b1
    have b2' : f_X12_bad M 3 = some (0, M') := b2
    by_cases q1 : i = 0
    · rw [if_pos q1, if_pos q1]
      by_cases q2 : j = 0
      · left
        rw [if_pos q2, if_pos q2]
        simp (disch := omega) only [zb_zn, zn_nat, if_true, zl_eq]
        have hG2 : pG n most B R (Mo_s_readName M (vp_updL (Mo_readName M) slot (Mo_word M))) := ⟨hx, ht, hf, hm⟩
        obtain ⟨R2, M2, a1, a2, a3, a4, a5⟩ := hG2.adv (by rw [k1]; decide)
        refine ⟨R2, M2, Rd_name R, Mo_word M, by rw [a1, ob_eq], by rw [a2, ob_eq], a3, k5, a4.rn, a4.rd, ⟨a4.1, ?_, a4.2.2⟩, a5⟩
        have := a4.2.1
        rw [this]; rfl
      · right
        rw [if_neg q2, if_neg q2, pm_badB b2', b1', ob_eq]
        exact ⟨R', M', _, rfl, rfl, b3, b4.l⟩
    · right
      rw [if_neg q1, if_neg q1, pm_badB b2', b1', ob_eq]
      exact ⟨R', M', _, rfl, rfl, b3, b4.l⟩
  · right
    obtain ⟨R', M', b1, b2, b3, b4⟩ := hG.bad (k := 1) (by omega) (by omega) (Or.inl rfl)
    have b1' : f_X7_fail R 1 = some R' := b1
    have b2' : f_X12_bad M 1 = some (0, M') := b2
    rw [if_neg k1, k2, ob_eq, if_pos rfl, pm_badB b2', b1', ob_eq]
    exact ⟨R', M', _, rfl, rfl, b3, b4.l⟩
/-- a place told -/
theorem pG.known (h : pG n most B R M) {np nm : Nat} (hs : pNs L np nm (Mo_readName M)) :
    (∃ p, p < np ∧ f_X3_knownPlace L R = some (zn p, R) ∧ f_X12_isOne M 0 (zn np) = some (1, Mo_s_told M (zn p)) ∧ ¬ Rd_kind R = 0 ∧ Mo_kind M = 2) ∨
    (∃ R' M', f_X3_knownPlace L R = some (-1, R') ∧ f_X12_isOne M 0 (zn np) = some (0, M') ∧ pW R' M' ∧ pFb M M') := by
  have hG := h
  obtain ⟨hx, ht, hf, hm⟩ := h
  obtain ⟨s1, s2, s3, s4, s5, s6⟩ := hs
  unfold f_X3_knownPlace f_X3_knownPlace_b34 f_X12_isOne f_X12_isOne_b46
  rcases tk_name ht with ⟨k1, k2, k3, k4, k5⟩ | ⟨k1, k2⟩
  · rw [if_pos k1, if_pos hf, k4, ob_eq, if_neg n10]
    obtain ⟨i, i1, i2, i3⟩ := q_placeNamed s1 s3 k5 s5
    rw [i2, ob_eq, i3, ob_eq, zl_eq]
    rw [show Mo_told (Mo_s_told M (zo i)) = zo i from rfl]
    simp (disch := omega) only [zo_m1]
    cases i with
    | zero =>
      right
      have hG2 : pG n most B R (Mo_s_told M (zo 0)) := ⟨hx, ht, hf, hm⟩
      obtain ⟨R', M', b1, b2, b3, b4⟩ := hG2.bad (k := 3) (by omega) (by omega) (Or.inr (by show ¬ Mo_kind M = 1; rw [k3]; decide))
      rw [if_pos rfl, if_pos rfl, show f_X7_fail R 3 = some R' from b1, ob_eq, show f_X12_bad (Mo_s_told M (zo 0)) 3 = some (0, M') from b2, ob_eq]
      exact ⟨R', M', rfl, rfl, b3, b4⟩
    | succ p =>
      left
      rw [if_neg (by omega), if_neg (by omega)]
      exact ⟨p, by omega, rfl, rfl, by rw [k1]; decide, k3⟩
  · right
    obtain ⟨R', M', b1, b2, b3, b4⟩ := hG.bad (k := 1) (by omega) (by omega) (Or.inl rfl)
    have b1' : f_X7_fail R 1 = some R' := b1
    have b2' : f_X12_bad M 1 = some (0, M') := b2
    rw [if_neg k1, k2, ob_eq, if_pos rfl, pm_badB b2', b1', ob_eq]
    exact ⟨R', M', rfl, rfl, b3, b4⟩
/-- a man told -/
theorem pG.knownM (h : pG n most B R M) {np nm : Nat} (hs : pNs L np nm (Mo_readName M)) :
    (∃ p, p < nm ∧ f_X3_knownMan L R = some (zn p, R) ∧ f_X12_isOne M 10 (zn nm) = some (1, Mo_s_told M (zn p)) ∧ ¬ Rd_kind R = 0 ∧ Mo_kind M = 2) ∨
    (∃ R' M', f_X3_knownMan L R = some (-1, R') ∧ f_X12_isOne M 10 (zn nm) = some (0, M') ∧ pW R' M' ∧ pFb M M') := by
  have hG := h
  obtain ⟨hx, ht, hf, hm⟩ := h
  obtain ⟨s1, s2, s3, s4, s5, s6⟩ := hs
  unfold f_X3_knownMan f_X3_knownMan_b34 f_X12_isOne f_X12_isOne_b46
  rcases tk_name ht with ⟨k1, k2, k3, k4, k5⟩ | ⟨k1, k2⟩
  · rw [if_pos k1, if_pos hf, k4, ob_eq, if_neg n10]
    obtain ⟨i, i1, i2, i3⟩ := q_manNamed s2 s4 k5 s6
    rw [i2, ob_eq, i3, ob_eq, zl_eq]
    rw [show Mo_told (Mo_s_told M (zo i)) = zo i from rfl]
    simp (disch := omega) only [zo_m1]
    cases i with
    | zero =>
      right
      have hG2 : pG n most B R (Mo_s_told M (zo 0)) := ⟨hx, ht, hf, hm⟩
      obtain ⟨R', M', b1, b2, b3, b4⟩ := hG2.bad (k := 3) (by omega) (by omega) (Or.inr (by show ¬ Mo_kind M = 1; rw [k3]; decide))
      rw [if_pos rfl, if_pos rfl, show f_X7_fail R 3 = some R' from b1, ob_eq, show f_X12_bad (Mo_s_told M (zo 0)) 3 = some (0, M') from b2, ob_eq]
      exact ⟨R', M', rfl, rfl, b3, b4⟩
    | succ p =>
      left
      rw [if_neg (by omega), if_neg (by omega)]
      exact ⟨p, by omega, rfl, rfl, by rw [k1]; decide, k3⟩
  · right
    obtain ⟨R', M', b1, b2, b3, b4⟩ := hG.bad (k := 1) (by omega) (by omega) (Or.inl rfl)
    have b1' : f_X7_fail R 1 = some R' := b1
    have b2' : f_X12_bad M 1 = some (0, M') := b2
    rw [if_neg k1, k2, ob_eq, if_pos rfl, pm_badB b2', b1', ob_eq]
    exact ⟨R', M', rfl, rfl, b3, b4⟩
end
