/-- one road more -/
def pAddR (D : pD) (a b l d f : Nat) : pD := ((pD_np D, pD_nr D + 1, pD_nm D, pD_no D), (pD_pl D, fun r k => if r = pD_nr D then (if k = 0 then a else if k = 1 then b else if k = 2 then l else if k = 3 then d else f) else pD_ro D r k, pD_me D), (fun x y => if (x = a ∧ y = b) ∨ (x = b ∧ y = a) then pD_nr D + 1 else pD_rd D x y, pD_far D, pD_nx D))
theorem pAddR_sz (D : pD) (a b l d f : Nat) : pSz D < pSz (pAddR D a b l d f) := by
  show pSz D < pD_np D + (pD_nr D + 1) + pD_nm D + (pKc D 0 + pKc D 1 + pKc D 2 + pKc D 3 + pKc D 4 + pKc D 5)
  unfold pSz; omega
theorem pAddR_q {D : pD} {L L' : LdT} {w w' : Nat → Int32} {N N' : Nat → Int64} (h : pLq D L w N) (hnr : pD_nr D < 16) {a b l d f : Nat} (ha : a < pD_np D) (hb : b < pD_np D) (hab : a ≠ b) (h0 : pD_rd D a b = 0) (hl : 1 ≤ l) (hl2 : l ≤ 30) (hd : d ≤ 12) (hf : f ≤ 1)
    (e1 : Ld_places L' = Ld_places L) (e2 : Ld_roads L' = zn (pD_nr D + 1)) (e3 : Ld_men L' = Ld_men L) (e4 : Ld_ports L' = Ld_ports L) (e5 : Ld_placeNames L' = Ld_placeNames L) (e6 : Ld_manNames L' = Ld_manNames L)
    (e7 : Ld_placeRows L' = Ld_placeRows L) (e8 : ∀ j, Ld_roadRows L' j = if j = pD_nr D * 5 + 0 then zn a else if j = pD_nr D * 5 + 1 then zn b else if j = pD_nr D * 5 + 2 then zn l else if j = pD_nr D * 5 + 3 then zn d else if j = pD_nr D * 5 + 4 then zn f else Ld_roadRows L j) (e9 : Ld_manRows L' = Ld_manRows L)
    (e10 : ∀ j, Ld_between L' j = if j = b * 10 + a then zn (pD_nr D) else if j = a * 10 + b then zn (pD_nr D) else Ld_between L j)
    (f1 : N' = N) (f2 : ∀ j, w' j = if j = 44 + 10 * b + a then zn (pD_nr D + 1) else if j = 44 + 10 * a + b then zn (pD_nr D + 1) else if j = 1 then zn (pD_nr D + 1) else if j = 208 + pD_nr D then zn b else if j = 192 + pD_nr D then zn a else if j = 176 + pD_nr D then zn f else if j = 160 + pD_nr D then zn d else if j = 144 + pD_nr D then zn l else w j) : pLq (pAddR D a b l d f) L' w' N' := by
  obtain ⟨⟨b1, b2, b3, b4⟩, ⟨c1, c2, c3, c4⟩, ⟨d1, d2, d3, d4⟩, hP, hR, hM, hK, hB, hF⟩ := h
  subst f1
  have wo : ∀ j, (j < 44 ∨ 144 ≤ j) → j ≠ 1 → j ≠ 208 + pD_nr D → j ≠ 192 + pD_nr D → j ≠ 176 + pD_nr D → j ≠ 160 + pD_nr D → j ≠ 144 + pD_nr D → w' j = w j := fun j a0 a1 a2 a3 a4 a5 a6 => by
    rw [f2, if_neg (by omega), if_neg (by omega), if_neg a1, if_neg a2, if_neg a3, if_neg a4, if_neg a5, if_neg a6]
  have rn : ∀ k, pD_ro (pAddR D a b l d f) (pD_nr D) k = (if k = 0 then a else if k = 1 then b else if k = 2 then l else if k = 3 then d else f) := fun k => by show (if pD_nr D = pD_nr D then _ else _) = _; rw [if_pos rfl]
  have ro : ∀ r, r ≠ pD_nr D → ∀ k, pD_ro (pAddR D a b l d f) r k = pD_ro D r k := fun r hr k => by show (if r = pD_nr D then _ else _) = _; rw [if_neg hr]
  have rd : ∀ x y, pD_rd (pAddR D a b l d f) x y = if (x = a ∧ y = b) ∨ (x = b ∧ y = a) then pD_nr D + 1 else pD_rd D x y := fun x y => rfl
  refine ⟨⟨b1, by show pD_nr D + 1 ≤ 16; omega, b3, b4⟩, ⟨by rw [e1]; exact c1, e2, by rw [e3]; exact c3, by rw [e4]; exact c4⟩, ⟨?_, ?_, ?_, ?_⟩, ?_, ?_, ?_, ?_, ?_, ?_, ?_⟩
  · rw [wo 0 (by omega) (by omega) (by omega) (by omega) (by omega) (by omega) (by omega)]; exact d1
  · rw [f2, if_neg (by omega), if_neg (by omega), if_pos rfl]; rfl
  · rw [wo 2 (by omega) (by omega) (by omega) (by omega) (by omega) (by omega) (by omega)]; exact d3
  · rw [wo 3 (by omega) (by omega) (by omega) (by omega) (by omega) (by omega) (by omega)]; exact d4
  · intro p hp
    have hp' : p < pD_np D := hp
    obtain ⟨g1, ⟨g2, g3, g4, g5⟩, g6, g7⟩ := hP p hp'
    refine ⟨by rw [e7]; exact g1, ⟨?_, ?_, ?_, ?_⟩, g6, by rw [e5]; exact g7⟩
    · rw [wo _ (by omega) (by omega) (by omega) (by omega) (by omega) (by omega) (by omega)]; exact g2
    · rw [wo _ (by omega) (by omega) (by omega) (by omega) (by omega) (by omega) (by omega)]; exact g3
    · rw [wo _ (by omega) (by omega) (by omega) (by omega) (by omega) (by omega) (by omega)]; exact g4
    · rw [wo _ (by omega) (by omega) (by omega) (by omega) (by omega) (by omega) (by omega)]; exact g5
  · intro r hr
    have hr' : r < pD_nr D + 1 := hr
    by_cases q : r = pD_nr D
    · subst q
      refine ⟨fun k hk => ?_, ⟨?_, ?_, ?_, ?_, ?_⟩, ⟨?_, ?_, ?_⟩, ?_, ?_, ?_, ?_, ?_, ?_⟩
      · have hk5 : k = 0 ∨ k = 1 ∨ k = 2 ∨ k = 3 ∨ k = 4 := by omega
        rw [e8, rn]
        rcases hk5 with rfl | rfl | rfl | rfl | rfl
        · rw [if_pos rfl]; rfl
        · rw [if_neg (by omega), if_pos rfl]; rfl
        · rw [if_neg (by omega), if_neg (by omega), if_pos rfl]; rfl
        · rw [if_neg (by omega), if_neg (by omega), if_neg (by omega), if_pos rfl]; rfl
        · rw [if_neg (by omega), if_neg (by omega), if_neg (by omega), if_neg (by omega), if_pos rfl]; rfl
      · rw [f2, if_neg (by omega), if_neg (by omega), if_neg (by omega), if_neg (by omega), if_pos rfl, rn]; rfl
      · rw [f2, if_neg (by omega), if_neg (by omega), if_neg (by omega), if_pos rfl, rn]; rfl
      · rw [f2, if_neg (by omega), if_neg (by omega), if_neg (by omega), if_neg (by omega), if_neg (by omega), if_neg (by omega), if_neg (by omega), if_pos rfl, rn]; rfl
      · rw [f2, if_neg (by omega), if_neg (by omega), if_neg (by omega), if_neg (by omega), if_neg (by omega), if_neg (by omega), if_pos rfl, rn]; rfl
      · rw [f2, if_neg (by omega), if_neg (by omega), if_neg (by omega), if_neg (by omega), if_neg (by omega), if_pos rfl, rn]; rfl
      · rw [rn]; exact ha
      · rw [rn]; exact hb
      · rw [rn, rn]; exact hab
      · rw [rn]; exact hl
      · rw [rn]; exact hl2
      · rw [rn]; exact hd
      · rw [rn]; exact hf
      · rw [rn, rn]; exact if_pos (Or.inl ⟨rfl, rfl⟩)
      · rw [rn, rn]; exact if_pos (Or.inr ⟨rfl, rfl⟩)
    · obtain ⟨g1, ⟨g2, g3, g4, g5, g6⟩, ⟨g7, g8, g9⟩, g10, g11, g12, g13, g14, g15⟩ := hR r (by omega)
      have no : ¬ ((pD_ro D r 0 = a ∧ pD_ro D r 1 = b) ∨ (pD_ro D r 0 = b ∧ pD_ro D r 1 = a)) := by
        rintro (⟨z1, z2⟩ | ⟨z1, z2⟩)
        · rw [z1, z2, h0] at g14; omega
        · rw [z1, z2, h0] at g15; omega
      refine ⟨fun k hk => ?_, ⟨?_, ?_, ?_, ?_, ?_⟩, ⟨?_, ?_, ?_⟩, ?_, ?_, ?_, ?_, ?_, ?_⟩
      · rw [e8, ro r q, if_neg (by omega), if_neg (by omega), if_neg (by omega), if_neg (by omega), if_neg (by omega)]; exact g1 k hk
      · rw [wo _ (by omega) (by omega) (by omega) (by omega) (by omega) (by omega) (by omega), ro r q]; exact g2
      · rw [wo _ (by omega) (by omega) (by omega) (by omega) (by omega) (by omega) (by omega), ro r q]; exact g3
      · rw [wo _ (by omega) (by omega) (by omega) (by omega) (by omega) (by omega) (by omega), ro r q]; exact g4
      · rw [wo _ (by omega) (by omega) (by omega) (by omega) (by omega) (by omega) (by omega), ro r q]; exact g5
      · rw [wo _ (by omega) (by omega) (by omega) (by omega) (by omega) (by omega) (by omega), ro r q]; exact g6
      · rw [ro r q]; exact g7
      · rw [ro r q]; exact g8
      · rw [ro r q, ro r q]; exact g9
      · rw [ro r q]; exact g10
      · rw [ro r q]; exact g11
      · rw [ro r q]; exact g12
      · rw [ro r q]; exact g13
      · rw [ro r q, ro r q, rd, if_neg no]; exact g14
      · rw [ro r q, ro r q, rd, if_neg (fun z => no (by omega))]; exact g15
  · intro m hm
    have hm' : m < pD_nm D := hm
    obtain ⟨g1, ⟨g2, g3, g4⟩, g5, g8⟩ := hM m hm'
    refine ⟨by rw [e9]; exact g1, ⟨?_, ?_, ?_⟩, g5, by rw [e6]; exact g8⟩
    · rw [wo _ (by omega) (by omega) (by omega) (by omega) (by omega) (by omega) (by omega)]; exact g2
    · rw [wo _ (by omega) (by omega) (by omega) (by omega) (by omega) (by omega) (by omega)]; exact g3
    · rw [wo _ (by omega) (by omega) (by omega) (by omega) (by omega) (by omega) (by omega)]; exact g4
  · obtain ⟨kb, k1, k2, k3, k4⟩ := hK
    exact ⟨kb, k1, by rw [wo _ (by omega) (by omega) (by omega) (by omega) (by omega) (by omega) (by omega)]; exact k2, k3, k4⟩
  · intro x y hx hy
    obtain ⟨g1, g2, g3⟩ := hB x y hx hy
    by_cases q : (x = a ∧ y = b) ∨ (x = b ∧ y = a)
    · refine ⟨?_, ?_, fun r hr => ?_⟩
      · rw [e10, rd, if_pos q]
        rcases q with ⟨rfl, rfl⟩ | ⟨rfl, rfl⟩
        · rw [if_neg (by omega), if_pos rfl]; rfl
        · rw [if_pos rfl]; rfl
      · rw [f2, rd, if_pos q]
        rcases q with ⟨rfl, rfl⟩ | ⟨rfl, rfl⟩
        · rw [if_neg (by omega), if_pos rfl]
        · rw [if_pos rfl]
      · rw [rd, if_pos q] at hr
        have er : r = pD_nr D := by omega
        subst er
        refine ⟨by show _ < pD_nr D + 1; omega, ?_⟩
        rw [rn, rn]
        rcases q with ⟨z1, z2⟩ | ⟨z1, z2⟩
        · exact Or.inl ⟨z1.symm, z2.symm⟩
        · exact Or.inr ⟨z2.symm, z1.symm⟩
    · refine ⟨?_, ?_, fun r hr => ?_⟩
      · rw [e10, rd, if_neg q, if_neg (by omega), if_neg (by omega)]; exact g1
      · rw [f2, rd, if_neg q, if_neg (by omega), if_neg (by omega), if_neg (by omega), if_neg (by omega), if_neg (by omega), if_neg (by omega), if_neg (by omega), if_neg (by omega)]; exact g2
      · rw [rd, if_neg q] at hr
        obtain ⟨i1, i2⟩ := g3 r hr
        refine ⟨by show _ < pD_nr D + 1; omega, ?_⟩
        rw [ro r (by omega), ro r (by omega)]; exact i2
  · intro p hp1 hp2
    have hp1' : pD_np D ≤ p := hp1
    obtain ⟨g1, g2, g3⟩ := hF.1 p hp1' hp2
    refine ⟨?_, ?_, ?_⟩
    · rw [wo _ (by omega) (by omega) (by omega) (by omega) (by omega) (by omega) (by omega)]; exact g1
    · rw [wo _ (by omega) (by omega) (by omega) (by omega) (by omega) (by omega) (by omega)]; exact g2
    · rw [wo _ (by omega) (by omega) (by omega) (by omega) (by omega) (by omega) (by omega)]; exact g3
  · intro r hr1 hr2
    have hr1' : pD_nr D + 1 ≤ r := hr1
    rw [wo _ (by omega) (by omega) (by omega) (by omega) (by omega) (by omega) (by omega)]
    exact hF.2 r (by omega) hr2
section
variable {n most : Nat} {B : Nat → Nat} {R : RdT} {M : MoT} {L : LdT} {D : pD}
theorem pc_b171 (L : LdT) (R : RdT) {a b : Nat} (ha : a < 10) (hb : b < 10) : f_X3_readRoad_b171 L R (zn a) (zn b) = some (Ld_s_roads (Ld_s_between L (upd (upd (Ld_between L) (a * 10 + b) (Ld_roads L)) (b * 10 + a) (Ld_roads L))) (Ld_roads L + 1), R) := by
  unfold f_X3_readRoad_b171
  rw [show zn a * (10 : Int32) = zn (a * 10) from zn_mul a 10, show zn b * (10 : Int32) = zn (b * 10) from zn_mul b 10, zn_add, zn_add, zb_zn (show a * 10 + b < 100 by omega) (by omega), zb_zn (show b * 10 + a < 100 by omega) (by omega)]
  simp only [zl_eq, if_true]
  rw [zn_nat (show a * 10 + b < 2147483648 by omega), zn_nat (show b * 10 + a < 2147483648 by omega)]; rfl
theorem pm_b158 (M : MoT) {a b r : Nat} (ha : a < 10) (hb : b < 10) (hr : r < 16) {v : Int32} (hv : Mo_read M 1 = v) : f_X12_readRoad_b158 M (zn r) (zn a) (zn b) = some (1, Mo_s_read M (upd (upd (upd (upd (upd (Mo_read M) (192 + r) (zn a)) (208 + r) (zn b)) 1 (v + 1)) (44 + 10 * a + b) (v + 1)) (44 + 10 * b + a) (v + 1))) := by
  unfold f_X12_readRoad_b158
  rw [show (192 : Int32) + zn r = zn (192 + r) from zn_add 192 r, show (208 : Int32) + zn r = zn (208 + r) from zn_add 208 r, show (10 : Int32) * zn a = zn (10 * a) from zn_mul 10 a, show (10 : Int32) * zn b = zn (10 * b) from zn_mul 10 b, show (44 : Int32) + zn (10 * a) = zn (44 + 10 * a) from zn_add 44 _, show (44 : Int32) + zn (10 * b) = zn (44 + 10 * b) from zn_add 44 _, zn_add, zn_add, zb_zn (show 192 + r < 443 by omega) (by omega), zb_zn (show 208 + r < 443 by omega) (by omega), zb_zn (show 44 + 10 * a + b < 443 by omega) (by omega), zb_zn (show 44 + 10 * b + a < 443 by omega) (by omega)]
  simp only [zl_eq, if_true]
  rw [zn_nat (show 192 + r < 2147483648 by omega), zn_nat (show 208 + r < 2147483648 by omega), zn_nat (show 44 + 10 * a + b < 2147483648 by omega), zn_nat (show 44 + 10 * b + a < 2147483648 by omega)]
  have e1 : upd (upd (Mo_read M) (192 + r) (zn a)) (208 + r) (zn b) 1 = v := by
    rw [pu_ne _ _ (by omega), pu_ne _ _ (by omega)]; exact hv
  have e2 : ∀ f : Nat → Int32, upd f 1 (v + 1) 1 = v + 1 := fun f => pu_eq _ _ _
  have e3 : ∀ f : Nat → Int32, f 1 = v + 1 → upd f (44 + 10 * a + b) (v + 1) 1 = v + 1 := fun f hf => by rw [pu_ne _ _ (by omega)]; exact hf
  show some ((1 : Int32), Mo_s_read M (upd (upd (upd (upd (upd (Mo_read M) (192 + r) (zn a)) (208 + r) (zn b)) 1 (upd (upd (Mo_read M) (192 + r) (zn a)) (208 + r) (zn b) 1 + 1)) (44 + 10 * a + b) (upd (upd (upd (Mo_read M) (192 + r) (zn a)) (208 + r) (zn b)) 1 (upd (upd (Mo_read M) (192 + r) (zn a)) (208 + r) (zn b) 1 + 1) 1)) (44 + 10 * b + a) (upd (upd (upd (upd (Mo_read M) (192 + r) (zn a)) (208 + r) (zn b)) 1 (upd (upd (Mo_read M) (192 + r) (zn a)) (208 + r) (zn b) 1 + 1)) (44 + 10 * a + b) (upd (upd (upd (Mo_read M) (192 + r) (zn a)) (208 + r) (zn b)) 1 (upd (upd (Mo_read M) (192 + r) (zn a)) (208 + r) (zn b) 1 + 1) 1) 1))) = _
  rw [e1, e2, e3 _ (e2 _)]
theorem q_roadLine (h : pG n most B R M) (hk0 : ¬ Rd_kind R = 0) (hk2 : Mo_kind M = 2) (hD : pLq D L (Mo_read M) (Mo_readName M)) : pLine n most B M (pSz D) (Ld_lines L) (f_X3_readRoad L R) (f_X12_readRoad M) := by
  obtain ⟨b1, b2, b3, b4⟩ := hD.1
  obtain ⟨c1, c2, c3, c4⟩ := hD.2.1
  obtain ⟨d1, d2, d3, d4⟩ := hD.2.2.1
  unfold f_X3_readRoad f_X12_readRoad
  rcases pm_first h hk0 hk2 (i := 1) (c := pD_nr D) (mx := 16) (by omega) d2 b2 (by omega) with ⟨e, R1, M1, i1, i2, i3, i4⟩ | ⟨e, R1, M1, i1, i2, i3, i4, i5⟩
  · right
    rw [c2, if_neg (by rw [zn_l16, zn_lt (by omega) (by omega)]; omega), i1, ob_eq, show f_X12_readFirst M 1 16 = some (0, M1) from i2, ob_eq]
    exact ⟨_, R1, M1, rfl, rfl, i3, i4.l⟩
  rw [c2, if_pos (show zn (pD_nr D) < (16 : Int32) by rw [zn_l16, zn_lt (by omega) (by omega)]; omega), i1, ob_eq, show f_X12_readFirst M 1 16 = some (1, M1) from i2, ob_eq]
  simp only [if_neg n10]
  rw [show Mo_read M1 (0 : Int32).toNatClampNeg = zn (pD_np D) from by rw [i4.rd]; exact d1]
  rcases i3.known (L := L) (np := pD_np D) (nm := pD_nm D) (by rw [i4.rn]; exact hD.ns) with ⟨a, ha, j1, j2, j3, j4⟩ | ⟨R2, M2, j1, j2, j3, j4⟩
  rotate_left
  · right
    rw [j1, ob_eq, j2, ob_eq]
    exact ⟨_, R2, M2, rfl, rfl, j3, i4.l.tr j4.l⟩
  rw [j1, ob_eq, j2, ob_eq]
  simp only [if_neg n10]
  rw [if_neg (show ¬ zn a = (-1 : Int32) by show ¬ zn a = zm; rw [zm_eq (by omega)]; exact id)]
  have hG2 : pG n most B R1 (Mo_s_told M1 (zn a)) := ⟨i3.1, i3.2.1, i3.2.2.1, i3.2.2.2⟩
  obtain ⟨R3, M3, k1, k2, k3, k4, k5⟩ := hG2.adv j3
  rw [k1, ob_eq, k2, ob_eq, show Mo_read M3 (0 : Int32).toNatClampNeg = zn (pD_np D) from by rw [k4.rd]; show Mo_read M1 0 = _; rw [i4.rd]; exact d1]
  have w3 : pFl M M3 := i4.l.tr ⟨k4.l.1, k4.l.2.1, k4.l.2.2⟩
  have rd3 : Mo_read M3 = Mo_read M := by rw [k4.rd]; exact i4.rd
  have rn3 : Mo_readName M3 = Mo_readName M := by rw [k4.rn]; exact i4.rn
  rcases k3.known (L := L) (np := pD_np D) (nm := pD_nm D) (by rw [rn3]; exact hD.ns) with ⟨b, hb, l1, l2, l3, l4⟩ | ⟨R4, M4, l1, l2, l3, l4⟩
  rotate_left
  · right
    rw [l1, ob_eq, l2, ob_eq]
    exact ⟨_, R4, M4, rfl, rfl, l3, w3.tr l4.l⟩
  rw [l1, ob_eq, l2, ob_eq]
  simp only [if_neg n10]
  rw [if_neg (show ¬ zn b = (-1 : Int32) by show ¬ zn b = zm; rw [zm_eq (by omega)]; exact id)]
  have hG4 : pG n most B R3 (Mo_s_told M3 (zn b)) := ⟨k3.1, k3.2.1, k3.2.2.1, k3.2.2.2⟩
  have w4 : pFl M (Mo_s_told M3 (zn b)) := w3
  rw [show Mo_told (Mo_s_told M1 (zn a)) = zn a from rfl, show Mo_told (Mo_s_told M3 (zn b)) = zn b from rfl, show Mo_read (Mo_s_told M3 (zn b)) = Mo_read M from rd3]
  rw [show (10 : Int32) * zn a = zn (10 * a) from zn_mul 10 a, show (44 : Int32) + zn (10 * a) = zn (44 + 10 * a) from zn_add 44 _, zn_add (44 + 10 * a) b, zb_zn (show 44 + 10 * a + b < 443 by omega) (by omega), if_pos rfl, zn_nat (show 44 + 10 * a + b < 2147483648 by omega)]
  obtain ⟨g1, g2, g3⟩ := hD.2.2.2.2.2.2.2.1 a b (by omega) (by omega)
  have hrdb : pD_rd D a b ≤ 16 := by
    cases hr : pD_rd D a b with
    | zero => omega
    | succ r => have := (g3 r hr).1; omega
  obtain ⟨R5, M5, m1, m2, m3, m4⟩ := hG4.bad (k := 3) (by omega) (by omega) (Or.inr (by show ¬ Mo_kind M3 = 1; rw [l4]; decide))
  have m1' : f_X7_fail R3 3 = some R5 := m1
  have m2' : f_X12_bad (Mo_s_told M3 (zn b)) 3 = some (0, M5) := m2
  rw [pm_badB m2', m1', ob_eq]
  by_cases qab : a = b
  · right
    rw [if_pos (by rw [qab]), if_pos (by rw [qab])]
    exact ⟨_, R5, M5, rfl, rfl, m3, w4.tr m4.l⟩
  rw [if_neg (show ¬ zn a = zn b by rw [zn_eq (by omega) (by omega)]; exact qab), if_neg (show ¬ zn a = zn b by rw [zn_eq (by omega) (by omega)]; exact qab)]
  have hbt : f_X3_roadBetween L (zn a) (zn b) = some (zo (pD_rd D a b)) := by
    rw [pr_roadBetween L (show a * 10 + b < 100 by omega), g1]
  rw [hbt, ob_eq, g2]
  by_cases qrd : pD_rd D a b = 0
  rotate_left
  · right
    rw [if_neg (show ¬ zo (pD_rd D a b) = (-1 : Int32) by rw [zo_m1 (by omega)]; exact qrd), if_pos (show (0 : Int32) < zn (pD_rd D a b) by rw [zn_pos (by omega)]; omega)]
    exact ⟨_, R5, M5, rfl, rfl, m3, w4.tr m4.l⟩
  rw [if_pos (show zo (pD_rd D a b) = (-1 : Int32) by rw [zo_m1 (by omega)]; exact qrd), if_neg (show ¬ (0 : Int32) < zn (pD_rd D a b) by rw [zn_pos (by omega)]; omega)]
  obtain ⟨R7, M7, n1, n2, n3, n4, n5⟩ := hG4.adv l3
  rw [n1, ob_eq, n2, ob_eq]
  have w7 : pFl M M7 := w4.tr ⟨n4.l.1, n4.l.2.1, n4.l.2.2⟩
  have rd7 : Mo_read M7 = Mo_read M := by rw [n4.rd]; exact rd3
  have rn7 : Mo_readName M7 = Mo_readName M := by rw [n4.rn]; exact rn3
  rw [show Mo_read (Mo_s_told M1 (zn a)) (1 : Int32).toNatClampNeg = zn (pD_nr D) from by show Mo_read M1 1 = _; rw [i4.rd]; exact d2]
  rw [show zn (pD_nr D) * (5 : Int32) = zn (pD_nr D * 5) from zn_mul _ 5, show zn (pD_nr D * 5) + (0 : Int32) = zn (pD_nr D * 5 + 0) from zn_add _ 0, show zn (pD_nr D * 5) + (1 : Int32) = zn (pD_nr D * 5 + 1) from zn_add _ 1, show zn (pD_nr D * 5) + (2 : Int32) = zn (pD_nr D * 5 + 2) from zn_add _ 2, show zn (pD_nr D * 5) + (3 : Int32) = zn (pD_nr D * 5 + 3) from zn_add _ 3, show zn (pD_nr D * 5) + (4 : Int32) = zn (pD_nr D * 5 + 4) from zn_add _ 4]
  rw [zb_zn (show pD_nr D * 5 + 0 < 80 by omega) (by omega), zb_zn (show pD_nr D * 5 + 1 < 80 by omega) (by omega), zb_zn (show pD_nr D * 5 + 2 < 80 by omega) (by omega), zb_zn (show pD_nr D * 5 + 3 < 80 by omega) (by omega), zb_zn (show pD_nr D * 5 + 4 < 80 by omega) (by omega)]
  simp only [if_true, zl_eq]
  rw [zn_nat (show pD_nr D * 5 + 0 < 2147483648 by omega), zn_nat (show pD_nr D * 5 + 1 < 2147483648 by omega), zn_nat (show pD_nr D * 5 + 2 < 2147483648 by omega), zn_nat (show pD_nr D * 5 + 3 < 2147483648 by omega), zn_nat (show pD_nr D * 5 + 4 < 2147483648 by omega)]
  rw [show (144 : Int32) + zn (pD_nr D) = zn (144 + pD_nr D) from zn_add 144 _, show (160 : Int32) + zn (pD_nr D) = zn (160 + pD_nr D) from zn_add 160 _, show (176 : Int32) + zn (pD_nr D) = zn (176 + pD_nr D) from zn_add 176 _]
  rcases n3.putn (lo := 1) (hi := 30) (i := 144 + pD_nr D) (by omega) (by omega) (by omega) with ⟨R8, M8, y8, o1, o2, o3, o4, o5, o6, o7, o8⟩ | ⟨R8, M8, o1, o2, ⟨fk, pl, o3, o3'⟩, o4⟩
  rotate_left
  · right
    rw [show f_X7_number R7 1 30 = some (zn 1, R8) from o1, ob_eq, show (f_X12_readNumber M7 1 30).bind _ = _ from o2 _, o3.number, ob_eq]
    simp only [if_true, if_neg o3.ne]
    rw [pc_b171 _ _ (by omega) (by omega)]
    exact ⟨_, R8, M8, rfl, rfl, ⟨fk, pl, o3, o3'⟩, w7.tr o4⟩
  rw [show f_X7_number R7 1 30 = some (zn y8, R8) from o1, ob_eq, show (f_X12_readNumber M7 1 30).bind _ = _ from o2 _]
  simp only [if_neg n10]
  rcases o3.putn (lo := 0) (hi := 12) (i := 160 + pD_nr D) (by omega) (by omega) (by omega) with ⟨R9, M9, y9, p1, p2, p3, p4, p5, p6, p7, p8⟩ | ⟨R9, M9, p1, p2, ⟨fk, pl, p3, p3'⟩, p4⟩
  rotate_left
  · right
    rw [show f_X7_number R8 0 12 = some (zn 0, R9) from p1, ob_eq, show (f_X12_readNumber M8 0 12).bind _ = _ from p2 _]
    simp only [if_true, if_neg p3.ne]
    rw [pc_b171 _ _ (by omega) (by omega)]
    exact ⟨_, R9, M9, rfl, rfl, ⟨fk, pl, p3, p3'⟩, (w7.tr o6).tr p4⟩
  rw [show f_X7_number R8 0 12 = some (zn y9, R9) from p1, ob_eq, show (f_X12_readNumber M8 0 12).bind _ = _ from p2 _]
  simp only [if_neg n10]
  have w9 : pFl M M9 := (w7.tr o6).tr p6
  have hr9 : Mo_read M9 = upd (upd (Mo_read M) (144 + pD_nr D) (zn y8)) (160 + pD_nr D) (zn y9) := by rw [p4, o4, rd7]
  have rn9 : Mo_readName M9 = Mo_readName M := by rw [p5, o5, rn7]
  have r1 : Mo_read M9 1 = zn (pD_nr D) := by rw [hr9, pu_ne _ _ (by omega), pu_ne _ _ (by omega)]; exact d2
  rw [if_pos p3.2.2.1]
  have fin : ∀ (f : Nat) (R' : RdT) (M' : MoT) (LR : Nat → Int32), f ≤ 1 → pG n most B R' M' → pFl M M' → Mo_readName M' = Mo_readName M → (∀ j, Mo_read M' j = if j = 176 + pD_nr D then zn f else Mo_read M9 j) → (∀ j, LR j = if j = pD_nr D * 5 + 0 then zn a else if j = pD_nr D * 5 + 1 then zn b else if j = pD_nr D * 5 + 2 then zn y8 else if j = pD_nr D * 5 + 3 then zn y9 else if j = pD_nr D * 5 + 4 then zn f else Ld_roadRows L j) → pLine n most B M (pSz D) (Ld_lines L) (f_X3_readRoad_b171 (Ld_s_roadRows L LR) R' (zn a) (zn b)) (f_X12_readRoad_b158 M' (zn (pD_nr D)) (zn a) (zn b)) := by
    intro f R' M' LR hf hG' hw' hn' hm' hl'
    have r1' : Mo_read M' 1 = zn (pD_nr D) := by rw [hm', if_neg (by omega)]; exact r1
    rw [pc_b171 _ _ (by omega) (by omega), pm_b158 M' (by omega) (by omega) e r1', show zn (pD_nr D) + 1 = zn (pD_nr D + 1) from zn_add _ 1]
    left
    refine ⟨_, R', _, pAddR D a b y8 y9 f, rfl, rfl, ⟨hG'.1, hG'.2.1, hG'.2.2.1, hG'.2.2.2⟩, pAddR_q hD e ha hb qab qrd o7 o8 p8 hf rfl ?_ rfl rfl rfl rfl rfl hl' rfl ?_ hn' ?_, ⟨hw'.1, hw'.2.1, hw'.2.2⟩, rfl, pAddR_sz _ _ _ _ _ _⟩
    · show Ld_roads L + 1 = _
      rw [c2]; exact zn_add _ 1
    · intro j
      show upd (upd (Ld_between L) (a * 10 + b) (Ld_roads L)) (b * 10 + a) (Ld_roads L) j = _
      rw [c2]; rfl
    · intro j
      show upd (upd (upd (upd (upd (Mo_read M') (192 + pD_nr D) (zn a)) (208 + pD_nr D) (zn b)) 1 (zn (pD_nr D + 1))) (44 + 10 * a + b) (zn (pD_nr D + 1))) (44 + 10 * b + a) (zn (pD_nr D + 1)) j = _
      unfold upd
      rw [hm', hr9]; rfl
  rcases tk_word p3.2.1 (j := 4) (by omega) with ⟨v1, v2, v3, v4⟩ | ⟨v1, v2⟩
  · rw [show f_X12_isWord M9 4 = some 1 from v4, ob_eq, if_pos (show Rd_key R9 = 4 from v1), if_neg n10, zb_zn (show 176 + pD_nr D < 443 by omega) (by omega), if_pos rfl, zn_nat (show 176 + pD_nr D < 2147483648 by omega)]
    have hG10 : pG n most B R9 (Mo_s_read M9 (upd (Mo_read M9) (176 + pD_nr D) 1)) := ⟨p3.1, p3.2.1, p3.2.2.1, p3.2.2.2⟩
    obtain ⟨R10, M10, s1, s2, s3, s4, s5⟩ := hG10.adv (by rw [v2]; decide)
    rw [s1, ob_eq, s2, ob_eq]
    refine fin 1 R10 M10 _ (by omega) s3 (w9.tr ⟨s4.l.1, s4.l.2.1, s4.l.2.2⟩) (by rw [s4.rn]; exact rn9) (fun j => by rw [s4.rd]; rfl) (fun j => ?_)
    show upd (upd (upd (upd (upd (upd (Ld_roadRows L) (pD_nr D * 5 + 0) (zn a)) (pD_nr D * 5 + 1) (zn b)) (pD_nr D * 5 + 2) (zn y8)) (pD_nr D * 5 + 3) (zn y9)) (pD_nr D * 5 + 4) 0) (pD_nr D * 5 + 4) 1 j = _
    unfold upd
    by_cases q0 : j = pD_nr D * 5 + 0
    · simp only [if_pos q0, if_neg (show ¬ j = pD_nr D * 5 + 4 by omega), if_neg (show ¬ j = pD_nr D * 5 + 3 by omega), if_neg (show ¬ j = pD_nr D * 5 + 2 by omega), if_neg (show ¬ j = pD_nr D * 5 + 1 by omega)]
    · by_cases q1 : j = pD_nr D * 5 + 1
      · simp only [if_neg q0, if_pos q1, if_neg (show ¬ j = pD_nr D * 5 + 4 by omega), if_neg (show ¬ j = pD_nr D * 5 + 3 by omega), if_neg (show ¬ j = pD_nr D * 5 + 2 by omega)]
      · by_cases q2 : j = pD_nr D * 5 + 2
        · simp only [if_neg q0, if_neg q1, if_pos q2, if_neg (show ¬ j = pD_nr D * 5 + 4 by omega), if_neg (show ¬ j = pD_nr D * 5 + 3 by omega)]
        · by_cases q3 : j = pD_nr D * 5 + 3
          · simp only [if_neg q0, if_neg q1, if_neg q2, if_pos q3, if_neg (show ¬ j = pD_nr D * 5 + 4 by omega)]
          · by_cases q4 : j = pD_nr D * 5 + 4
            · simp only [if_neg q0, if_neg q1, if_neg q2, if_neg q3, if_pos q4]; rfl
            · simp only [if_neg q0, if_neg q1, if_neg q2, if_neg q3, if_neg q4]
  · rw [show f_X12_isWord M9 4 = some 0 from v2, ob_eq, if_neg (show ¬ Rd_key R9 = 4 from v1), if_pos rfl]
    refine fin 0 R9 M9 _ (by omega) p3 w9 rn9 (fun j => ?_) (fun j => ?_)
    · by_cases q : j = 176 + pD_nr D
      · rw [if_pos q, q, hr9, pu_ne _ _ (by omega), pu_ne _ _ (by omega)]
        exact hD.2.2.2.2.2.2.2.2.2 _ (Nat.le_refl _) e
      · rw [if_neg q]
    · show upd (upd (upd (upd (upd (Ld_roadRows L) (pD_nr D * 5 + 0) (zn a)) (pD_nr D * 5 + 1) (zn b)) (pD_nr D * 5 + 2) (zn y8)) (pD_nr D * 5 + 3) (zn y9)) (pD_nr D * 5 + 4) 0 j = _
      unfold upd
      by_cases q0 : j = pD_nr D * 5 + 0
      · simp only [if_pos q0, if_neg (show ¬ j = pD_nr D * 5 + 4 by omega), if_neg (show ¬ j = pD_nr D * 5 + 3 by omega), if_neg (show ¬ j = pD_nr D * 5 + 2 by omega), if_neg (show ¬ j = pD_nr D * 5 + 1 by omega)]
      · by_cases q1 : j = pD_nr D * 5 + 1
        · simp only [if_neg q0, if_pos q1, if_neg (show ¬ j = pD_nr D * 5 + 4 by omega), if_neg (show ¬ j = pD_nr D * 5 + 3 by omega), if_neg (show ¬ j = pD_nr D * 5 + 2 by omega)]
        · by_cases q2 : j = pD_nr D * 5 + 2
          · simp only [if_neg q0, if_neg q1, if_pos q2, if_neg (show ¬ j = pD_nr D * 5 + 4 by omega), if_neg (show ¬ j = pD_nr D * 5 + 3 by omega)]
          · by_cases q3 : j = pD_nr D * 5 + 3
            · simp only [if_neg q0, if_neg q1, if_neg q2, if_pos q3, if_neg (show ¬ j = pD_nr D * 5 + 4 by omega)]
            · by_cases q4 : j = pD_nr D * 5 + 4
              · simp only [if_neg q0, if_neg q1, if_neg q2, if_neg q3, if_pos q4]; rfl
              · simp only [if_neg q0, if_neg q1, if_neg q2, if_neg q3, if_neg q4]
end
