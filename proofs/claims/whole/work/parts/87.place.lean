theorem pu_eq (f : Nat → Int32) (k : Nat) (v : Int32) : upd f k v k = v := by unfold upd; rw [if_pos rfl]
theorem pu_ne (f : Nat → Int32) {k j : Nat} (v : Int32) (h : j ≠ k) : upd f k v j = f j := by unfold upd; rw [if_neg h]
theorem puL_eq (f : Nat → Int64) (k : Nat) (v : Int64) : vp_updL f k v k = v := by unfold vp_updL; rw [if_pos rfl]
theorem puL_ne (f : Nat → Int64) {k j : Nat} (v : Int64) (h : j ≠ k) : vp_updL f k v j = f j := by unfold vp_updL; rw [if_neg h]
/-- a land half told -/
def pLqP (D : pD) (L : LdT) (w : Nat → Int32) (N : Nat → Int64) : Prop :=
  ∀ p, p < pD_np D → (∀ k, k < 4 → Ld_placeRows L (p * 4 + k) = zn (pD_pl D p k)) ∧ (w (4 + p) = zn (pD_pl D p 0) ∧ w (14 + p) = zn (pD_pl D p 1) ∧ w (24 + p) = zn (pD_pl D p 2) ∧ w (34 + p) = zn (pD_pl D p 3)) ∧ (pD_pl D p 0 ≤ 2 ∧ pD_pl D p 1 ≤ 12 ∧ pD_pl D p 2 ≤ 99 ∧ pD_pl D p 3 ≤ 6) ∧ pNm (Ld_placeNames L p) (N p)
def pLqR (D : pD) (L : LdT) (w : Nat → Int32) : Prop :=
  ∀ r, r < pD_nr D → (∀ k, k < 5 → Ld_roadRows L (r * 5 + k) = zn (pD_ro D r k)) ∧ (w (192 + r) = zn (pD_ro D r 0) ∧ w (208 + r) = zn (pD_ro D r 1) ∧ w (144 + r) = zn (pD_ro D r 2) ∧ w (160 + r) = zn (pD_ro D r 3) ∧ w (176 + r) = zn (pD_ro D r 4)) ∧ ((pD_ro D r 0 < pD_np D ∧ pD_ro D r 1 < pD_np D ∧ pD_ro D r 0 ≠ pD_ro D r 1) ∧ 1 ≤ pD_ro D r 2 ∧ pD_ro D r 2 ≤ 30 ∧ pD_ro D r 3 ≤ 12 ∧ pD_ro D r 4 ≤ 1 ∧ pD_rd D (pD_ro D r 0) (pD_ro D r 1) = r + 1 ∧ pD_rd D (pD_ro D r 1) (pD_ro D r 0) = r + 1)
def pLqM (D : pD) (L : LdT) (w : Nat → Int32) (N : Nat → Int64) : Prop :=
  ∀ m, m < pD_nm D → (∀ k, k < 4 → Ld_manRows L (m * 4 + k) = zn (pD_me D m k)) ∧ (w (224 + m) = zn (pD_me D m 0) ∧ w (230 + m) = zn (pD_me D m 1) ∧ w (236 + m) = zn (pD_me D m 2)) ∧ (pD_me D m 0 < pD_np D ∧ pD_pl D (pD_me D m 0) 0 = 0 ∧ 1 ≤ pD_me D m 1 ∧ pD_me D m 1 ≤ 20 ∧ pD_me D m 2 ≤ 99 ∧ pD_me D m 3 ≤ 1) ∧ pNm (Ld_manNames L m) (N (10 + m))
def pLqK (D : pD) (w : Nat → Int32) : Prop := ∃ kb, kb < 64 ∧ w 242 = zn kb ∧ (∀ m, m < pD_nm D → pD_me D m 3 = kb / 2 ^ m % 2) ∧ (∀ m, pD_nm D ≤ m → m < 6 → kb / 2 ^ m % 2 = 0)
def pLqB (D : pD) (L : LdT) (w : Nat → Int32) : Prop :=
  ∀ a b, a < 10 → b < 10 → Ld_between L (a * 10 + b) = zo (pD_rd D a b) ∧ w (44 + 10 * a + b) = zn (pD_rd D a b) ∧ (∀ r, pD_rd D a b = r + 1 → r < pD_nr D ∧ ((pD_ro D r 0 = a ∧ pD_ro D r 1 = b) ∨ (pD_ro D r 0 = b ∧ pD_ro D r 1 = a)))
def pLqF (D : pD) (w : Nat → Int32) : Prop := (∀ p, pD_np D ≤ p → p < 10 → w (14 + p) = 0 ∧ w (24 + p) = 0 ∧ w (34 + p) = 0) ∧ (∀ r, pD_nr D ≤ r → r < 16 → w (176 + r) = 0)
def pLq (D : pD) (L : LdT) (w : Nat → Int32) (N : Nat → Int64) : Prop :=
  (pD_np D ≤ 10 ∧ pD_nr D ≤ 16 ∧ pD_nm D ≤ 6 ∧ pD_no D ≤ pD_np D) ∧
  (Ld_places L = zn (pD_np D) ∧ Ld_roads L = zn (pD_nr D) ∧ Ld_men L = zn (pD_nm D) ∧ Ld_ports L = zn (pD_no D)) ∧
  (w 0 = zn (pD_np D) ∧ w 1 = zn (pD_nr D) ∧ w 2 = zn (pD_nm D) ∧ w 3 = zn (pD_no D)) ∧
  pLqP D L w N ∧ pLqR D L w ∧ pLqM D L w N ∧ pLqK D w ∧ pLqB D L w ∧ pLqF D w
theorem pLq.ns {D : pD} {L : LdT} {w : Nat → Int32} {N : Nat → Int64} (h : pLq D L w N) : pNs L (pD_np D) (pD_nm D) N :=
  ⟨h.1.1, h.1.2.2.1, h.2.1.1, h.2.1.2.2.1, fun p hp => (h.2.2.2.1 p hp).2.2.2, fun m hm => (h.2.2.2.2.2.1 m hm).2.2.2⟩
theorem pm_put1 (M : MoT) {i : Nat} (hi : i < 443) : f_X12_put M (zn i) 1 = some (1, Mo_s_read M (upd (Mo_read M) i (Mo_told M))) := by
  unfold f_X12_put
  rw [if_neg n10, zb_zn hi (by omega), if_pos rfl, zl_eq, zn_nat (by omega)]; rfl
theorem pm_put0 (M : MoT) (x : Int32) : f_X12_put M x 0 = some (0, M) := by
  unfold f_X12_put
  rw [if_pos rfl]; rfl
/-! the class goes on behind a fault -/
section
variable {R : RdT} {fk pl : Nat}
theorem pc_b125 (L : LdT) (R : RdT) (x2 z0 : Int32) {i : Nat} (hi : i < 40) : ∃ L', f_X3_readPlace_b125 L R x2 z0 (zn i) = some (L', R) := by
  unfold f_X3_readPlace_b125
  rw [zb_zn hi (by omega), if_pos rfl]
  simp only [zl_eq]
  split
  · exact ⟨_, rfl⟩
  · exact ⟨_, rfl⟩
theorem pc_b101 (h : pWc R fk pl) (L : LdT) (x2 z0 : Int32) {i j : Nat} (hi : i < 40) (hj : j + 3 < 40) : ∃ L', f_X3_readPlace_b101 L R x2 (zn j) z0 (zn i) = some (L', R) := by
  unfold f_X3_readPlace_b101
  rw [zb_zn hi (by omega), if_pos rfl]
  simp only [zl_eq]
  rw [show zn j + (3 : Int32) = zn (j + 3) from zn_add j 3, h.number, ob_eq]
  split
  · exact pc_b125 _ _ _ _ hj
  · exact pc_b125 _ _ _ _ hj
theorem pc_b77 (h : pWc R fk pl) (L : LdT) (x2 z0 : Int32) {i j : Nat} (hi : i < 40) (hj : j + 3 < 40) : ∃ L', f_X3_readPlace_b77 L R x2 (zn j) z0 (zn i) = some (L', R) := by
  unfold f_X3_readPlace_b77
  rw [zb_zn hi (by omega), if_pos rfl]
  simp only [zl_eq]
  rw [show zn j + (2 : Int32) = zn (j + 2) from zn_add j 2, h.number, ob_eq]
  split
  · exact pc_b101 h _ _ _ (by omega) hj
  · exact pc_b101 h _ _ _ (by omega) hj
end
def pKc (D : pD) (m : Nat) : Nat := if m < pD_nm D then pD_me D m 3 else 0
/-- how much is told -/
def pSz (D : pD) : Nat := pD_np D + pD_nr D + pD_nm D + (pKc D 0 + pKc D 1 + pKc D 2 + pKc D 3 + pKc D 4 + pKc D 5)
theorem pLq.sz {D : pD} {L : LdT} {w : Nat → Int32} {N : Nat → Int64} (h : pLq D L w N) : pSz D ≤ 38 := by
  have k : ∀ m, pKc D m ≤ 1 := fun m => by
    unfold pKc
    by_cases q : m < pD_nm D
    · rw [if_pos q]; exact (h.2.2.2.2.2.1 m q).2.2.1.2.2.2.2.2
    · rw [if_neg q]; omega
  have := k 0; have := k 1; have := k 2; have := k 3; have := k 4; have := k 5
  have := h.1
  unfold pSz; omega
/-- what reading a line gives -/
def pLine (n most : Nat) (B : Nat → Nat) (M : MoT) (sz : Nat) (lines : Int32) (cl : Option (LdT × RdT)) (mo : Option (Int32 × MoT)) : Prop :=
  (∃ L' R' M' D', cl = some (L', R') ∧ mo = some (1, M') ∧ pG n most B R' M' ∧ pLq D' L' (Mo_read M') (Mo_readName M') ∧ pFl M M' ∧ Ld_lines L' = lines ∧ sz < pSz D') ∨
  (∃ L' R' M', cl = some (L', R') ∧ mo = some (0, M') ∧ pW R' M' ∧ pFl M M')
/-- one place more -/
def pAddP (D : pD) (s o y h : Nat) : pD := ((pD_np D + 1, pD_nr D, pD_nm D, if s = 2 then pD_no D + 1 else pD_no D), (fun p k => if p = pD_np D then (if k = 0 then s else if k = 1 then o else if k = 2 then y else h) else pD_pl D p k, pD_ro D, pD_me D), (pD_rd D, pD_far D, pD_nx D))
theorem pAddP_sz (D : pD) (s o y h : Nat) : pSz D < pSz (pAddP D s o y h) := by
  show pSz D < (pD_np D + 1) + pD_nr D + pD_nm D + (pKc D 0 + pKc D 1 + pKc D 2 + pKc D 3 + pKc D 4 + pKc D 5)
  unfold pSz; omega
theorem pAddP_q {D : pD} {L L' : LdT} {w w' : Nat → Int32} {N N' : Nat → Int64} (h : pLq D L w N) (hnp : pD_np D < 10) {s o y hh : Nat} (hs : s ≤ 2) (ho : o ≤ 12) (hy : y ≤ 99) (hh6 : hh ≤ 6) {x1 x2 : Int64} (hx : pNm x1 x2)
    (e1 : Ld_places L' = zn (pD_np D + 1)) (e2 : Ld_roads L' = Ld_roads L) (e3 : Ld_men L' = Ld_men L) (e4 : Ld_ports L' = zn (if s = 2 then pD_no D + 1 else pD_no D)) (e5 : Ld_placeNames L' = vp_updL (Ld_placeNames L) (pD_np D) x1) (e6 : Ld_manNames L' = Ld_manNames L)
    (e7 : ∀ j, Ld_placeRows L' j = if j = pD_np D * 4 + 0 then zn s else if j = pD_np D * 4 + 1 then zn o else if j = pD_np D * 4 + 2 then zn y else if j = pD_np D * 4 + 3 then zn hh else Ld_placeRows L j) (e8 : Ld_roadRows L' = Ld_roadRows L) (e9 : Ld_manRows L' = Ld_manRows L) (e10 : Ld_between L' = Ld_between L)
    (f1 : N' = vp_updL N (pD_np D) x2) (f2 : ∀ j, w' j = if j = 0 then zn (pD_np D + 1) else if j = 3 then zn (if s = 2 then pD_no D + 1 else pD_no D) else if j = 4 + pD_np D then zn s else if j = 14 + pD_np D then zn o else if j = 24 + pD_np D then zn y else if j = 34 + pD_np D then zn hh else w j) : pLq (pAddP D s o y hh) L' w' N' := by
  obtain ⟨⟨b1, b2, b3, b4⟩, ⟨c1, c2, c3, c4⟩, ⟨d1, d2, d3, d4⟩, hP, hR, hM, hK, hB, hF⟩ := h
  have wo : ∀ j, j ≠ 0 → j ≠ 3 → j ≠ 4 + pD_np D → j ≠ 14 + pD_np D → j ≠ 24 + pD_np D → j ≠ 34 + pD_np D → w' j = w j := fun j a1 a2 a3 a4 a5 a6 => by
    rw [f2, if_neg a1, if_neg a2, if_neg a3, if_neg a4, if_neg a5, if_neg a6]
  refine ⟨⟨by show pD_np D + 1 ≤ 10; omega, b2, b3, ?_⟩, ⟨e1, by rw [e2]; exact c2, by rw [e3]; exact c3, e4⟩, ⟨by rw [f2, if_pos rfl]; rfl, ?_, ?_, by rw [f2, if_neg (by omega), if_pos rfl]; rfl⟩, ?_, ?_, ?_, ?_, ?_, ?_, ?_⟩
  · show (if s = 2 then pD_no D + 1 else pD_no D) ≤ pD_np D + 1
    split <;> omega
  · rw [wo 1 (by omega) (by omega) (by omega) (by omega) (by omega) (by omega)]; exact d2
  · rw [wo 2 (by omega) (by omega) (by omega) (by omega) (by omega) (by omega)]; exact d3
  · intro p hp
    have hp' : p < pD_np D + 1 := hp
    by_cases q : p = pD_np D
    · subst q
      have e : ∀ k, pD_pl (pAddP D s o y hh) (pD_np D) k = (if k = 0 then s else if k = 1 then o else if k = 2 then y else hh) := fun k => by show (if pD_np D = pD_np D then _ else _) = _; rw [if_pos rfl]
      refine ⟨fun k hk => ?_, ⟨?_, ?_, ?_, ?_⟩, ⟨?_, ?_, ?_, ?_⟩, ?_⟩
      · have hk4 : k = 0 ∨ k = 1 ∨ k = 2 ∨ k = 3 := by omega
        rw [e7, e]
        rcases hk4 with rfl | rfl | rfl | rfl
        · rw [if_pos rfl]; rfl
        · rw [if_neg (by omega), if_pos rfl]; rfl
        · rw [if_neg (by omega), if_neg (by omega), if_pos rfl]; rfl
        · rw [if_neg (by omega), if_neg (by omega), if_neg (by omega), if_pos rfl]; rfl
      · rw [f2, if_neg (by omega), if_neg (by omega), if_pos rfl, e]; rfl
      · rw [f2, if_neg (by omega), if_neg (by omega), if_neg (by omega), if_pos rfl, e]; rfl
      · rw [f2, if_neg (by omega), if_neg (by omega), if_neg (by omega), if_neg (by omega), if_pos rfl, e]; rfl
      · rw [f2, if_neg (by omega), if_neg (by omega), if_neg (by omega), if_neg (by omega), if_neg (by omega), if_pos rfl, e]; rfl
      · rw [e]; exact hs
      · rw [e]; exact ho
      · rw [e]; exact hy
      · rw [e]; exact hh6
      · rw [e5, f1, puL_eq, puL_eq]; exact hx
    · have e : ∀ k, pD_pl (pAddP D s o y hh) p k = pD_pl D p k := fun k => by show (if p = pD_np D then _ else _) = _; rw [if_neg q]
      obtain ⟨g1, ⟨g2, g3, g4, g5⟩, g6, g7⟩ := hP p (by omega)
      refine ⟨fun k hk => ?_, ⟨?_, ?_, ?_, ?_⟩, ?_, ?_⟩
      · rw [e7, e, if_neg (by omega), if_neg (by omega), if_neg (by omega), if_neg (by omega)]; exact g1 k hk
      · rw [wo _ (by omega) (by omega) (by omega) (by omega) (by omega) (by omega), e]; exact g2
      · rw [wo _ (by omega) (by omega) (by omega) (by omega) (by omega) (by omega), e]; exact g3
      · rw [wo _ (by omega) (by omega) (by omega) (by omega) (by omega) (by omega), e]; exact g4
      · rw [wo _ (by omega) (by omega) (by omega) (by omega) (by omega) (by omega), e]; exact g5
      · rw [e, e, e, e]; exact g6
      · rw [e5, f1, puL_ne _ _ q, puL_ne _ _ q]; exact g7
  · intro r hr
    have hr' : r < pD_nr D := hr
    obtain ⟨g1, ⟨g2, g3, g4, g5, g6⟩, ⟨g7, g8, g9⟩, g10⟩ := hR r hr'
    refine ⟨by rw [e8]; exact g1, ⟨?_, ?_, ?_, ?_, ?_⟩, ⟨by show _ < pD_np D + 1; exact Nat.lt_succ_of_lt g7, by show _ < pD_np D + 1; exact Nat.lt_succ_of_lt g8, g9⟩, g10⟩
    · rw [wo _ (by omega) (by omega) (by omega) (by omega) (by omega) (by omega)]; exact g2
    · rw [wo _ (by omega) (by omega) (by omega) (by omega) (by omega) (by omega)]; exact g3
    · rw [wo _ (by omega) (by omega) (by omega) (by omega) (by omega) (by omega)]; exact g4
    · rw [wo _ (by omega) (by omega) (by omega) (by omega) (by omega) (by omega)]; exact g5
    · rw [wo _ (by omega) (by omega) (by omega) (by omega) (by omega) (by omega)]; exact g6
  · intro m hm
    have hm' : m < pD_nm D := hm
    obtain ⟨g1, ⟨g2, g3, g4⟩, ⟨g5, g6, g7⟩, g8⟩ := hM m hm'
    refine ⟨by rw [e9]; exact g1, ⟨?_, ?_, ?_⟩, ⟨by show _ < pD_np D + 1; exact Nat.lt_succ_of_lt g5, ?_, g7⟩, ?_⟩
    · rw [wo _ (by omega) (by omega) (by omega) (by omega) (by omega) (by omega)]; exact g2
    · rw [wo _ (by omega) (by omega) (by omega) (by omega) (by omega) (by omega)]; exact g3
    · rw [wo _ (by omega) (by omega) (by omega) (by omega) (by omega) (by omega)]; exact g4
    · show (if pD_me D m 0 = pD_np D then _ else _) = 0
      rw [if_neg (by omega)]; exact g6
    · rw [e6, f1, puL_ne _ _ (by omega)]; exact g8
  · obtain ⟨kb, k1, k2, k3, k4⟩ := hK
    exact ⟨kb, k1, by rw [wo _ (by omega) (by omega) (by omega) (by omega) (by omega) (by omega)]; exact k2, k3, k4⟩
  · intro a b ha hb
    obtain ⟨g1, g2, g3⟩ := hB a b ha hb
    refine ⟨by rw [e10]; exact g1, ?_, g3⟩
    rw [wo _ (by omega) (by omega) (by omega) (by omega) (by omega) (by omega)]; exact g2
  · intro p hp1 hp2
    have hp1' : pD_np D + 1 ≤ p := hp1
    obtain ⟨g1, g2, g3⟩ := hF.1 p (by omega) hp2
    refine ⟨?_, ?_, ?_⟩
    · rw [wo _ (by omega) (by omega) (by omega) (by omega) (by omega) (by omega)]; exact g1
    · rw [wo _ (by omega) (by omega) (by omega) (by omega) (by omega) (by omega)]; exact g2
    · rw [wo _ (by omega) (by omega) (by omega) (by omega) (by omega) (by omega)]; exact g3
  · intro r hr1 hr2
    rw [wo _ (by omega) (by omega) (by omega) (by omega) (by omega) (by omega)]
    exact hF.2 r hr1 hr2
