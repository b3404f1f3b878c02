/-! the men: reading and writing one thing of one man -/
def pUp (F : pF) (m i v : Nat) : pF := (F.1, fun m' i' => if m' = m ∧ i' = i then v else F.2 m' i')
theorem pUp_day (F : pF) (m i v : Nat) : pF_day (pUp F m i v) = pF_day F := rfl
theorem pUp_same (F : pF) (m i v : Nat) : pF_o (pUp F m i v) m i = v := by simp [pUp, pF_o]
theorem pUp_ne (F : pF) {m i v m' i' : Nat} (h : ¬ (m' = m ∧ i' = i)) : pF_o (pUp F m i v) m' i' = pF_o F m' i' := by simp only [pUp, pF_o, if_neg h]
theorem pUp_nei (F : pF) (m : Nat) {i v i' : Nat} (h : i' ≠ i) : pF_o (pUp F m i v) m i' = pF_o F m i' := pUp_ne F (fun q => h q.2)
theorem pUp_nem (F : pF) {m i v m' : Nat} (i' : Nat) (h : m' ≠ m) : pF_o (pUp F m i v) m' i' = pF_o F m' i' := pUp_ne F (fun q => h q.1)
theorem pci_inj {i j : Nat} (hi : i ≠ 6) (hj : j ≠ 6) (h : pci i = pci j) : i = j := by
  unfold pci at h; split at h <;> split at h <;> omega
theorem pci_lt {i : Nat} (hi : i < 14) : pci i < 13 := by unfold pci; split <;> omega
theorem pFc.put {D : pD} {F : pF} {K : FkT} (h : pFc D F K) {m i v : Nat} (hi : i < 14) (h6 : i ≠ 6) {u : Int32} (hu : u = pval i v) : pFc D (pUp F m i v) (Fk_s_row K (upd (Fk_row K) (m * 13 + pci i) u)) := by
  refine ⟨h.1, fun m' i' hm' hi' h6' => ?_⟩
  show upd (Fk_row K) (m * 13 + pci i) u (m' * 13 + pci i') = _
  unfold upd
  have a1 := pci_lt hi
  have a2 := pci_lt hi'
  by_cases q : m' = m ∧ i' = i
  · obtain ⟨rfl, rfl⟩ := q
    rw [if_pos rfl, pUp_same, hu]
  · rw [if_neg, pUp_ne F q, h.2 m' i' hm' hi' h6']
    intro e
    have e1 : m' = m := by omega
    exact q ⟨e1, pci_inj h6' h6 (by omega)⟩
theorem pFm.put {D : pD} {F : pF} {w : Nat → Int32} (hv : pV D) (h : pFm D F w) {m i v : Nat} (hm : m < pD_nm D) {u : Int32} (hu : u = pval i v) : pFm D (pUp F m i v) (upd w (444 + 6 * i + m) u) := by
  have hn := hv.nm
  refine ⟨?_, fun m' i' hm' hi' => ?_⟩
  · show (if 443 = _ then _ else _) = _
    rw [if_neg (by omega)]; exact h.1
  · show (if 444 + 6 * i' + m' = _ then _ else _) = _
    by_cases q : m' = m ∧ i' = i
    · obtain ⟨rfl, rfl⟩ := q
      rw [if_pos rfl, pUp_same, hu]
    · rw [if_neg, pUp_ne F q, h.2 m' i' hm' hi']
      intro e
      exact q ⟨by omega, by omega⟩
/-- a thing that the reference does not keep, or the class -/
theorem pFm.skip {D : pD} {F : pF} {w : Nat → Int32} (h : pFm D F w) {m i v : Nat} (hi : 12 ≤ i) : pFm D (pUp F m i v) w :=
  ⟨h.1, fun m' i' hm' hi' => by rw [pUp_ne F (by omega)]; exact h.2 m' i' hm' hi'⟩
theorem pFc.skip {D : pD} {F : pF} {K : FkT} (h : pFc D F K) {m v : Nat} : pFc D (pUp F m 6 v) K :=
  ⟨h.1, fun m' i' hm' hi' h6 => by rw [pUp_ne F (by omega)]; exact h.2 m' i' hm' hi' h6⟩
theorem pc_put {K : FkT} {m c : Nat} (hm : m < 6) (hc : c < 13) (u : Int32) : f_X1_put K (zn m) (zn c) u = some (Fk_s_row K (upd (Fk_row K) (m * 13 + c) u)) := by
  unfold f_X1_put zlet
  simp (disch := omega) only [zn_l13, zn_mul, zn_add, zb_zn, zn_nat, if_true]
  exact zb_row (show m * 13 + c < 78 by omega) (by omega)
theorem pc_more {K : FkT} {m c : Nat} (hm : m < 6) (hc : c < 13) (u : Int32) : f_X1_more K (zn m) (zn c) u = some (Fk_s_row K (upd (Fk_row K) (m * 13 + c) (Fk_row K (m * 13 + c) + u))) := by
  unfold f_X1_more zlet
  simp (disch := omega) only [zn_l13, zn_mul, zn_add, zb_zn, zn_nat, if_true]
  exact zb_row (show m * 13 + c < 78 by omega) (by omega)
theorem pc_of {K : FkT} {m c : Nat} (hm : m < 6) (hc : c < 13) : f_X1_of K (zn m) (zn c) = some (Fk_row K (m * 13 + c)) := by
  unfold f_X1_of
  simp (disch := omega) only [zn_l13, zn_mul, zn_add, zb_zn, zn_nat, if_true]
  exact zb_row (show m * 13 + c < 78 by omega) (by omega)
theorem pc_of0 {D : pD} {F : pF} {K : FkT} (hv : pV D) (h : pFc D F K) {m : Nat} (hm : m < pD_nm D) : f_X1_of K (zn m) (0 : Int32) = some (zn (pF_o F m 0)) := (pc_of (c := 0) (Nat.lt_of_lt_of_le hm hv.nm) (by omega)).trans (congrArg some (h.2 m 0 hm (by omega) (by omega)))
theorem pc_put0 {D : pD} {K : FkT} (hv : pV D) {m : Nat} (hm : m < pD_nm D) (u : Int32) : f_X1_put K (zn m) (0 : Int32) u = some (Fk_s_row K (upd (Fk_row K) (m * 13 + 0) u)) := pc_put (c := 0) (Nat.lt_of_lt_of_le hm hv.nm) (by omega) u
theorem pc_more0 {D : pD} {F : pF} {K : FkT} (hv : pV D) (h : pFc D F K) {m : Nat} (hm : m < pD_nm D) (u : Int32) : f_X1_more K (zn m) (0 : Int32) u = some (Fk_s_row K (upd (Fk_row K) (m * 13 + 0) (zn (pF_o F m 0) + u))) := by
  refine (pc_more (c := 0) (Nat.lt_of_lt_of_le hm hv.nm) (by omega) u).trans ?_
  have e : Fk_row K (m * 13 + 0) = zn (pF_o F m 0) := h.2 m 0 hm (by omega) (by omega)
  rw [e]
theorem pc_of1 {D : pD} {F : pF} {K : FkT} (hv : pV D) (h : pFc D F K) {m : Nat} (hm : m < pD_nm D) : f_X1_of K (zn m) (1 : Int32) = some (zn (pF_o F m 1)) := (pc_of (c := 1) (Nat.lt_of_lt_of_le hm hv.nm) (by omega)).trans (congrArg some (h.2 m 1 hm (by omega) (by omega)))
theorem pc_put1 {D : pD} {K : FkT} (hv : pV D) {m : Nat} (hm : m < pD_nm D) (u : Int32) : f_X1_put K (zn m) (1 : Int32) u = some (Fk_s_row K (upd (Fk_row K) (m * 13 + 1) u)) := pc_put (c := 1) (Nat.lt_of_lt_of_le hm hv.nm) (by omega) u
theorem pc_more1 {D : pD} {F : pF} {K : FkT} (hv : pV D) (h : pFc D F K) {m : Nat} (hm : m < pD_nm D) (u : Int32) : f_X1_more K (zn m) (1 : Int32) u = some (Fk_s_row K (upd (Fk_row K) (m * 13 + 1) (zn (pF_o F m 1) + u))) := by
  refine (pc_more (c := 1) (Nat.lt_of_lt_of_le hm hv.nm) (by omega) u).trans ?_
  have e : Fk_row K (m * 13 + 1) = zn (pF_o F m 1) := h.2 m 1 hm (by omega) (by omega)
  rw [e]
theorem pc_of2 {D : pD} {F : pF} {K : FkT} (hv : pV D) (h : pFc D F K) {m : Nat} (hm : m < pD_nm D) : f_X1_of K (zn m) (2 : Int32) = some (zn (pF_o F m 2)) := (pc_of (c := 2) (Nat.lt_of_lt_of_le hm hv.nm) (by omega)).trans (congrArg some (h.2 m 2 hm (by omega) (by omega)))
theorem pc_put2 {D : pD} {K : FkT} (hv : pV D) {m : Nat} (hm : m < pD_nm D) (u : Int32) : f_X1_put K (zn m) (2 : Int32) u = some (Fk_s_row K (upd (Fk_row K) (m * 13 + 2) u)) := pc_put (c := 2) (Nat.lt_of_lt_of_le hm hv.nm) (by omega) u
theorem pc_more2 {D : pD} {F : pF} {K : FkT} (hv : pV D) (h : pFc D F K) {m : Nat} (hm : m < pD_nm D) (u : Int32) : f_X1_more K (zn m) (2 : Int32) u = some (Fk_s_row K (upd (Fk_row K) (m * 13 + 2) (zn (pF_o F m 2) + u))) := by
  refine (pc_more (c := 2) (Nat.lt_of_lt_of_le hm hv.nm) (by omega) u).trans ?_
  have e : Fk_row K (m * 13 + 2) = zn (pF_o F m 2) := h.2 m 2 hm (by omega) (by omega)
  rw [e]
theorem pc_of3 {D : pD} {F : pF} {K : FkT} (hv : pV D) (h : pFc D F K) {m : Nat} (hm : m < pD_nm D) : f_X1_of K (zn m) (3 : Int32) = some (zo (pF_o F m 3)) := (pc_of (c := 3) (Nat.lt_of_lt_of_le hm hv.nm) (by omega)).trans (congrArg some (h.2 m 3 hm (by omega) (by omega)))
theorem pc_put3 {D : pD} {K : FkT} (hv : pV D) {m : Nat} (hm : m < pD_nm D) (u : Int32) : f_X1_put K (zn m) (3 : Int32) u = some (Fk_s_row K (upd (Fk_row K) (m * 13 + 3) u)) := pc_put (c := 3) (Nat.lt_of_lt_of_le hm hv.nm) (by omega) u
theorem pc_more3 {D : pD} {F : pF} {K : FkT} (hv : pV D) (h : pFc D F K) {m : Nat} (hm : m < pD_nm D) (u : Int32) : f_X1_more K (zn m) (3 : Int32) u = some (Fk_s_row K (upd (Fk_row K) (m * 13 + 3) (zo (pF_o F m 3) + u))) := by
  refine (pc_more (c := 3) (Nat.lt_of_lt_of_le hm hv.nm) (by omega) u).trans ?_
  have e : Fk_row K (m * 13 + 3) = zo (pF_o F m 3) := h.2 m 3 hm (by omega) (by omega)
  rw [e]
theorem pc_of4 {D : pD} {F : pF} {K : FkT} (hv : pV D) (h : pFc D F K) {m : Nat} (hm : m < pD_nm D) : f_X1_of K (zn m) (4 : Int32) = some (zn (pF_o F m 4)) := (pc_of (c := 4) (Nat.lt_of_lt_of_le hm hv.nm) (by omega)).trans (congrArg some (h.2 m 4 hm (by omega) (by omega)))
theorem pc_put4 {D : pD} {K : FkT} (hv : pV D) {m : Nat} (hm : m < pD_nm D) (u : Int32) : f_X1_put K (zn m) (4 : Int32) u = some (Fk_s_row K (upd (Fk_row K) (m * 13 + 4) u)) := pc_put (c := 4) (Nat.lt_of_lt_of_le hm hv.nm) (by omega) u
theorem pc_more4 {D : pD} {F : pF} {K : FkT} (hv : pV D) (h : pFc D F K) {m : Nat} (hm : m < pD_nm D) (u : Int32) : f_X1_more K (zn m) (4 : Int32) u = some (Fk_s_row K (upd (Fk_row K) (m * 13 + 4) (zn (pF_o F m 4) + u))) := by
  refine (pc_more (c := 4) (Nat.lt_of_lt_of_le hm hv.nm) (by omega) u).trans ?_
  have e : Fk_row K (m * 13 + 4) = zn (pF_o F m 4) := h.2 m 4 hm (by omega) (by omega)
  rw [e]
theorem pc_of5 {D : pD} {F : pF} {K : FkT} (hv : pV D) (h : pFc D F K) {m : Nat} (hm : m < pD_nm D) : f_X1_of K (zn m) (5 : Int32) = some (zn (pF_o F m 5)) := (pc_of (c := 5) (Nat.lt_of_lt_of_le hm hv.nm) (by omega)).trans (congrArg some (h.2 m 5 hm (by omega) (by omega)))
theorem pc_put5 {D : pD} {K : FkT} (hv : pV D) {m : Nat} (hm : m < pD_nm D) (u : Int32) : f_X1_put K (zn m) (5 : Int32) u = some (Fk_s_row K (upd (Fk_row K) (m * 13 + 5) u)) := pc_put (c := 5) (Nat.lt_of_lt_of_le hm hv.nm) (by omega) u
theorem pc_more5 {D : pD} {F : pF} {K : FkT} (hv : pV D) (h : pFc D F K) {m : Nat} (hm : m < pD_nm D) (u : Int32) : f_X1_more K (zn m) (5 : Int32) u = some (Fk_s_row K (upd (Fk_row K) (m * 13 + 5) (zn (pF_o F m 5) + u))) := by
  refine (pc_more (c := 5) (Nat.lt_of_lt_of_le hm hv.nm) (by omega) u).trans ?_
  have e : Fk_row K (m * 13 + 5) = zn (pF_o F m 5) := h.2 m 5 hm (by omega) (by omega)
  rw [e]
theorem pc_of6 {D : pD} {F : pF} {K : FkT} (hv : pV D) (h : pFc D F K) {m : Nat} (hm : m < pD_nm D) : f_X1_of K (zn m) (6 : Int32) = some (zn (pF_o F m 7)) := (pc_of (c := 6) (Nat.lt_of_lt_of_le hm hv.nm) (by omega)).trans (congrArg some (h.2 m 7 hm (by omega) (by omega)))
theorem pc_put6 {D : pD} {K : FkT} (hv : pV D) {m : Nat} (hm : m < pD_nm D) (u : Int32) : f_X1_put K (zn m) (6 : Int32) u = some (Fk_s_row K (upd (Fk_row K) (m * 13 + 6) u)) := pc_put (c := 6) (Nat.lt_of_lt_of_le hm hv.nm) (by omega) u
theorem pc_more6 {D : pD} {F : pF} {K : FkT} (hv : pV D) (h : pFc D F K) {m : Nat} (hm : m < pD_nm D) (u : Int32) : f_X1_more K (zn m) (6 : Int32) u = some (Fk_s_row K (upd (Fk_row K) (m * 13 + 6) (zn (pF_o F m 7) + u))) := by
  refine (pc_more (c := 6) (Nat.lt_of_lt_of_le hm hv.nm) (by omega) u).trans ?_
  have e : Fk_row K (m * 13 + 6) = zn (pF_o F m 7) := h.2 m 7 hm (by omega) (by omega)
  rw [e]
theorem pc_of7 {D : pD} {F : pF} {K : FkT} (hv : pV D) (h : pFc D F K) {m : Nat} (hm : m < pD_nm D) : f_X1_of K (zn m) (7 : Int32) = some (zn (pF_o F m 8)) := (pc_of (c := 7) (Nat.lt_of_lt_of_le hm hv.nm) (by omega)).trans (congrArg some (h.2 m 8 hm (by omega) (by omega)))
theorem pc_put7 {D : pD} {K : FkT} (hv : pV D) {m : Nat} (hm : m < pD_nm D) (u : Int32) : f_X1_put K (zn m) (7 : Int32) u = some (Fk_s_row K (upd (Fk_row K) (m * 13 + 7) u)) := pc_put (c := 7) (Nat.lt_of_lt_of_le hm hv.nm) (by omega) u
theorem pc_more7 {D : pD} {F : pF} {K : FkT} (hv : pV D) (h : pFc D F K) {m : Nat} (hm : m < pD_nm D) (u : Int32) : f_X1_more K (zn m) (7 : Int32) u = some (Fk_s_row K (upd (Fk_row K) (m * 13 + 7) (zn (pF_o F m 8) + u))) := by
  refine (pc_more (c := 7) (Nat.lt_of_lt_of_le hm hv.nm) (by omega) u).trans ?_
  have e : Fk_row K (m * 13 + 7) = zn (pF_o F m 8) := h.2 m 8 hm (by omega) (by omega)
  rw [e]
theorem pc_of8 {D : pD} {F : pF} {K : FkT} (hv : pV D) (h : pFc D F K) {m : Nat} (hm : m < pD_nm D) : f_X1_of K (zn m) (8 : Int32) = some (zn (pF_o F m 9)) := (pc_of (c := 8) (Nat.lt_of_lt_of_le hm hv.nm) (by omega)).trans (congrArg some (h.2 m 9 hm (by omega) (by omega)))
theorem pc_put8 {D : pD} {K : FkT} (hv : pV D) {m : Nat} (hm : m < pD_nm D) (u : Int32) : f_X1_put K (zn m) (8 : Int32) u = some (Fk_s_row K (upd (Fk_row K) (m * 13 + 8) u)) := pc_put (c := 8) (Nat.lt_of_lt_of_le hm hv.nm) (by omega) u
theorem pc_more8 {D : pD} {F : pF} {K : FkT} (hv : pV D) (h : pFc D F K) {m : Nat} (hm : m < pD_nm D) (u : Int32) : f_X1_more K (zn m) (8 : Int32) u = some (Fk_s_row K (upd (Fk_row K) (m * 13 + 8) (zn (pF_o F m 9) + u))) := by
  refine (pc_more (c := 8) (Nat.lt_of_lt_of_le hm hv.nm) (by omega) u).trans ?_
  have e : Fk_row K (m * 13 + 8) = zn (pF_o F m 9) := h.2 m 9 hm (by omega) (by omega)
  rw [e]
theorem pc_of9 {D : pD} {F : pF} {K : FkT} (hv : pV D) (h : pFc D F K) {m : Nat} (hm : m < pD_nm D) : f_X1_of K (zn m) (9 : Int32) = some (zn (pF_o F m 10)) := (pc_of (c := 9) (Nat.lt_of_lt_of_le hm hv.nm) (by omega)).trans (congrArg some (h.2 m 10 hm (by omega) (by omega)))
theorem pc_put9 {D : pD} {K : FkT} (hv : pV D) {m : Nat} (hm : m < pD_nm D) (u : Int32) : f_X1_put K (zn m) (9 : Int32) u = some (Fk_s_row K (upd (Fk_row K) (m * 13 + 9) u)) := pc_put (c := 9) (Nat.lt_of_lt_of_le hm hv.nm) (by omega) u
theorem pc_more9 {D : pD} {F : pF} {K : FkT} (hv : pV D) (h : pFc D F K) {m : Nat} (hm : m < pD_nm D) (u : Int32) : f_X1_more K (zn m) (9 : Int32) u = some (Fk_s_row K (upd (Fk_row K) (m * 13 + 9) (zn (pF_o F m 10) + u))) := by
  refine (pc_more (c := 9) (Nat.lt_of_lt_of_le hm hv.nm) (by omega) u).trans ?_
  have e : Fk_row K (m * 13 + 9) = zn (pF_o F m 10) := h.2 m 10 hm (by omega) (by omega)
  rw [e]
theorem pc_of10 {D : pD} {F : pF} {K : FkT} (hv : pV D) (h : pFc D F K) {m : Nat} (hm : m < pD_nm D) : f_X1_of K (zn m) (10 : Int32) = some (zn (pF_o F m 11)) := (pc_of (c := 10) (Nat.lt_of_lt_of_le hm hv.nm) (by omega)).trans (congrArg some (h.2 m 11 hm (by omega) (by omega)))
theorem pc_put10 {D : pD} {K : FkT} (hv : pV D) {m : Nat} (hm : m < pD_nm D) (u : Int32) : f_X1_put K (zn m) (10 : Int32) u = some (Fk_s_row K (upd (Fk_row K) (m * 13 + 10) u)) := pc_put (c := 10) (Nat.lt_of_lt_of_le hm hv.nm) (by omega) u
theorem pc_more10 {D : pD} {F : pF} {K : FkT} (hv : pV D) (h : pFc D F K) {m : Nat} (hm : m < pD_nm D) (u : Int32) : f_X1_more K (zn m) (10 : Int32) u = some (Fk_s_row K (upd (Fk_row K) (m * 13 + 10) (zn (pF_o F m 11) + u))) := by
  refine (pc_more (c := 10) (Nat.lt_of_lt_of_le hm hv.nm) (by omega) u).trans ?_
  have e : Fk_row K (m * 13 + 10) = zn (pF_o F m 11) := h.2 m 11 hm (by omega) (by omega)
  rw [e]
theorem pc_of11 {D : pD} {F : pF} {K : FkT} (hv : pV D) (h : pFc D F K) {m : Nat} (hm : m < pD_nm D) : f_X1_of K (zn m) (11 : Int32) = some (zn (pF_o F m 12)) := (pc_of (c := 11) (Nat.lt_of_lt_of_le hm hv.nm) (by omega)).trans (congrArg some (h.2 m 12 hm (by omega) (by omega)))
theorem pc_put11 {D : pD} {K : FkT} (hv : pV D) {m : Nat} (hm : m < pD_nm D) (u : Int32) : f_X1_put K (zn m) (11 : Int32) u = some (Fk_s_row K (upd (Fk_row K) (m * 13 + 11) u)) := pc_put (c := 11) (Nat.lt_of_lt_of_le hm hv.nm) (by omega) u
theorem pc_more11 {D : pD} {F : pF} {K : FkT} (hv : pV D) (h : pFc D F K) {m : Nat} (hm : m < pD_nm D) (u : Int32) : f_X1_more K (zn m) (11 : Int32) u = some (Fk_s_row K (upd (Fk_row K) (m * 13 + 11) (zn (pF_o F m 12) + u))) := by
  refine (pc_more (c := 11) (Nat.lt_of_lt_of_le hm hv.nm) (by omega) u).trans ?_
  have e : Fk_row K (m * 13 + 11) = zn (pF_o F m 12) := h.2 m 12 hm (by omega) (by omega)
  rw [e]
theorem pc_of12 {D : pD} {F : pF} {K : FkT} (hv : pV D) (h : pFc D F K) {m : Nat} (hm : m < pD_nm D) : f_X1_of K (zn m) (12 : Int32) = some (zn (pF_o F m 13)) := (pc_of (c := 12) (Nat.lt_of_lt_of_le hm hv.nm) (by omega)).trans (congrArg some (h.2 m 13 hm (by omega) (by omega)))
theorem pc_put12 {D : pD} {K : FkT} (hv : pV D) {m : Nat} (hm : m < pD_nm D) (u : Int32) : f_X1_put K (zn m) (12 : Int32) u = some (Fk_s_row K (upd (Fk_row K) (m * 13 + 12) u)) := pc_put (c := 12) (Nat.lt_of_lt_of_le hm hv.nm) (by omega) u
theorem pc_more12 {D : pD} {F : pF} {K : FkT} (hv : pV D) (h : pFc D F K) {m : Nat} (hm : m < pD_nm D) (u : Int32) : f_X1_more K (zn m) (12 : Int32) u = some (Fk_s_row K (upd (Fk_row K) (m * 13 + 12) (zn (pF_o F m 13) + u))) := by
  refine (pc_more (c := 12) (Nat.lt_of_lt_of_le hm hv.nm) (by omega) u).trans ?_
  have e : Fk_row K (m * 13 + 12) = zn (pF_o F m 13) := h.2 m 13 hm (by omega) (by omega)
  rw [e]
theorem pFm.g0 {D : pD} {F : pF} {w : Nat → Int32} (h : pFm D F w) {m : Nat} (hm : m < pD_nm D) : w (444 + m) = zn (pF_o F m 0) := h.2 m 0 hm (by omega)
theorem pFm.p0 {D : pD} {F : pF} {w : Nat → Int32} (hv : pV D) (h : pFm D F w) {m v : Nat} (hm : m < pD_nm D) : pFm D (pUp F m 0 v) (upd w (444 + m) (zn v)) := h.put hv (i := 0) hm rfl
theorem pFm.g1 {D : pD} {F : pF} {w : Nat → Int32} (h : pFm D F w) {m : Nat} (hm : m < pD_nm D) : w (450 + m) = zn (pF_o F m 1) := h.2 m 1 hm (by omega)
theorem pFm.p1 {D : pD} {F : pF} {w : Nat → Int32} (hv : pV D) (h : pFm D F w) {m v : Nat} (hm : m < pD_nm D) : pFm D (pUp F m 1 v) (upd w (450 + m) (zn v)) := h.put hv (i := 1) hm rfl
theorem pFm.g2 {D : pD} {F : pF} {w : Nat → Int32} (h : pFm D F w) {m : Nat} (hm : m < pD_nm D) : w (456 + m) = zn (pF_o F m 2) := h.2 m 2 hm (by omega)
theorem pFm.p2 {D : pD} {F : pF} {w : Nat → Int32} (hv : pV D) (h : pFm D F w) {m v : Nat} (hm : m < pD_nm D) : pFm D (pUp F m 2 v) (upd w (456 + m) (zn v)) := h.put hv (i := 2) hm rfl
theorem pFm.g3 {D : pD} {F : pF} {w : Nat → Int32} (h : pFm D F w) {m : Nat} (hm : m < pD_nm D) : w (462 + m) = zo (pF_o F m 3) := h.2 m 3 hm (by omega)
theorem pFm.p3 {D : pD} {F : pF} {w : Nat → Int32} (hv : pV D) (h : pFm D F w) {m v : Nat} (hm : m < pD_nm D) : pFm D (pUp F m 3 v) (upd w (462 + m) (zo v)) := h.put hv (i := 3) hm rfl
theorem pFm.g4 {D : pD} {F : pF} {w : Nat → Int32} (h : pFm D F w) {m : Nat} (hm : m < pD_nm D) : w (468 + m) = zn (pF_o F m 4) := h.2 m 4 hm (by omega)
theorem pFm.p4 {D : pD} {F : pF} {w : Nat → Int32} (hv : pV D) (h : pFm D F w) {m v : Nat} (hm : m < pD_nm D) : pFm D (pUp F m 4 v) (upd w (468 + m) (zn v)) := h.put hv (i := 4) hm rfl
theorem pFm.g5 {D : pD} {F : pF} {w : Nat → Int32} (h : pFm D F w) {m : Nat} (hm : m < pD_nm D) : w (474 + m) = zn (pF_o F m 5) := h.2 m 5 hm (by omega)
theorem pFm.p5 {D : pD} {F : pF} {w : Nat → Int32} (hv : pV D) (h : pFm D F w) {m v : Nat} (hm : m < pD_nm D) : pFm D (pUp F m 5 v) (upd w (474 + m) (zn v)) := h.put hv (i := 5) hm rfl
theorem pFm.g6 {D : pD} {F : pF} {w : Nat → Int32} (h : pFm D F w) {m : Nat} (hm : m < pD_nm D) : w (480 + m) = zn (pF_o F m 6) := h.2 m 6 hm (by omega)
theorem pFm.p6 {D : pD} {F : pF} {w : Nat → Int32} (hv : pV D) (h : pFm D F w) {m v : Nat} (hm : m < pD_nm D) : pFm D (pUp F m 6 v) (upd w (480 + m) (zn v)) := h.put hv (i := 6) hm rfl
theorem pFm.g7 {D : pD} {F : pF} {w : Nat → Int32} (h : pFm D F w) {m : Nat} (hm : m < pD_nm D) : w (486 + m) = zn (pF_o F m 7) := h.2 m 7 hm (by omega)
theorem pFm.p7 {D : pD} {F : pF} {w : Nat → Int32} (hv : pV D) (h : pFm D F w) {m v : Nat} (hm : m < pD_nm D) : pFm D (pUp F m 7 v) (upd w (486 + m) (zn v)) := h.put hv (i := 7) hm rfl
theorem pFm.g8 {D : pD} {F : pF} {w : Nat → Int32} (h : pFm D F w) {m : Nat} (hm : m < pD_nm D) : w (492 + m) = zn (pF_o F m 8) := h.2 m 8 hm (by omega)
theorem pFm.p8 {D : pD} {F : pF} {w : Nat → Int32} (hv : pV D) (h : pFm D F w) {m v : Nat} (hm : m < pD_nm D) : pFm D (pUp F m 8 v) (upd w (492 + m) (zn v)) := h.put hv (i := 8) hm rfl
theorem pFm.g9 {D : pD} {F : pF} {w : Nat → Int32} (h : pFm D F w) {m : Nat} (hm : m < pD_nm D) : w (498 + m) = zn (pF_o F m 9) := h.2 m 9 hm (by omega)
theorem pFm.p9 {D : pD} {F : pF} {w : Nat → Int32} (hv : pV D) (h : pFm D F w) {m v : Nat} (hm : m < pD_nm D) : pFm D (pUp F m 9 v) (upd w (498 + m) (zn v)) := h.put hv (i := 9) hm rfl
theorem pFm.g10 {D : pD} {F : pF} {w : Nat → Int32} (h : pFm D F w) {m : Nat} (hm : m < pD_nm D) : w (504 + m) = zn (pF_o F m 10) := h.2 m 10 hm (by omega)
theorem pFm.p10 {D : pD} {F : pF} {w : Nat → Int32} (hv : pV D) (h : pFm D F w) {m v : Nat} (hm : m < pD_nm D) : pFm D (pUp F m 10 v) (upd w (504 + m) (zn v)) := h.put hv (i := 10) hm rfl
theorem pFm.g11 {D : pD} {F : pF} {w : Nat → Int32} (h : pFm D F w) {m : Nat} (hm : m < pD_nm D) : w (510 + m) = zn (pF_o F m 11) := h.2 m 11 hm (by omega)
theorem pFm.p11 {D : pD} {F : pF} {w : Nat → Int32} (hv : pV D) (h : pFm D F w) {m v : Nat} (hm : m < pD_nm D) : pFm D (pUp F m 11 v) (upd w (510 + m) (zn v)) := h.put hv (i := 11) hm rfl
theorem pFc.p0 {D : pD} {F : pF} {K : FkT} (h : pFc D F K) {m v : Nat} : pFc D (pUp F m 0 v) (Fk_s_row K (upd (Fk_row K) (m * 13 + 0) (zn v))) := h.put (i := 0) (by omega) (by omega) rfl
theorem pFc.p1 {D : pD} {F : pF} {K : FkT} (h : pFc D F K) {m v : Nat} : pFc D (pUp F m 1 v) (Fk_s_row K (upd (Fk_row K) (m * 13 + 1) (zn v))) := h.put (i := 1) (by omega) (by omega) rfl
theorem pFc.p2 {D : pD} {F : pF} {K : FkT} (h : pFc D F K) {m v : Nat} : pFc D (pUp F m 2 v) (Fk_s_row K (upd (Fk_row K) (m * 13 + 2) (zn v))) := h.put (i := 2) (by omega) (by omega) rfl
theorem pFc.p3 {D : pD} {F : pF} {K : FkT} (h : pFc D F K) {m v : Nat} : pFc D (pUp F m 3 v) (Fk_s_row K (upd (Fk_row K) (m * 13 + 3) (zo v))) := h.put (i := 3) (by omega) (by omega) rfl
theorem pFc.p4 {D : pD} {F : pF} {K : FkT} (h : pFc D F K) {m v : Nat} : pFc D (pUp F m 4 v) (Fk_s_row K (upd (Fk_row K) (m * 13 + 4) (zn v))) := h.put (i := 4) (by omega) (by omega) rfl
theorem pFc.p5 {D : pD} {F : pF} {K : FkT} (h : pFc D F K) {m v : Nat} : pFc D (pUp F m 5 v) (Fk_s_row K (upd (Fk_row K) (m * 13 + 5) (zn v))) := h.put (i := 5) (by omega) (by omega) rfl
theorem pFc.p7 {D : pD} {F : pF} {K : FkT} (h : pFc D F K) {m v : Nat} : pFc D (pUp F m 7 v) (Fk_s_row K (upd (Fk_row K) (m * 13 + 6) (zn v))) := h.put (i := 7) (by omega) (by omega) rfl
theorem pFc.p8 {D : pD} {F : pF} {K : FkT} (h : pFc D F K) {m v : Nat} : pFc D (pUp F m 8 v) (Fk_s_row K (upd (Fk_row K) (m * 13 + 7) (zn v))) := h.put (i := 8) (by omega) (by omega) rfl
theorem pFc.p9 {D : pD} {F : pF} {K : FkT} (h : pFc D F K) {m v : Nat} : pFc D (pUp F m 9 v) (Fk_s_row K (upd (Fk_row K) (m * 13 + 8) (zn v))) := h.put (i := 9) (by omega) (by omega) rfl
theorem pFc.p10 {D : pD} {F : pF} {K : FkT} (h : pFc D F K) {m v : Nat} : pFc D (pUp F m 10 v) (Fk_s_row K (upd (Fk_row K) (m * 13 + 9) (zn v))) := h.put (i := 10) (by omega) (by omega) rfl
theorem pFc.p11 {D : pD} {F : pF} {K : FkT} (h : pFc D F K) {m v : Nat} : pFc D (pUp F m 11 v) (Fk_s_row K (upd (Fk_row K) (m * 13 + 10) (zn v))) := h.put (i := 11) (by omega) (by omega) rfl
theorem pFc.p12 {D : pD} {F : pF} {K : FkT} (h : pFc D F K) {m v : Nat} : pFc D (pUp F m 12 v) (Fk_s_row K (upd (Fk_row K) (m * 13 + 11) (zn v))) := h.put (i := 12) (by omega) (by omega) rfl
theorem pFc.p13 {D : pD} {F : pF} {K : FkT} (h : pFc D F K) {m v : Nat} : pFc D (pUp F m 13 v) (Fk_s_row K (upd (Fk_row K) (m * 13 + 12) (zn v))) := h.put (i := 13) (by omega) (by omega) rfl
