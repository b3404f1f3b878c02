section
variable {D : pD} {L : LdT}
theorem pc_miles (m : Nat → Int32) {a b : Nat} (ha : a < 10) (hb : b < 10) : f_X3_milesBetween (Ld_s_miles L m) (zn a) (zn b) = some (m (a * 10 + b)) := by
  rw [pr_milesBetween (Ld_s_miles L m) (show a * 10 + b < 100 by omega)]; rfl
theorem pc_joinedOf {m : Nat → Int32} {a b v : Nat} (ha : a < 10) (hb : b < 10) (hm : m (a * 10 + b) = zn v) (hv : v ≤ 100000) : f_X3_joined (Ld_s_miles L m) (zn a) (zn b) = some (if v = 100000 then 0 else 1) := by
  unfold f_X3_joined
  rw [pc_miles m ha hb, ob_eq, hm, zn_l100000]
  by_cases q : v = 100000
  · rw [if_neg (by rw [zn_lt (by omega) (by omega)]; omega), if_pos q]
  · rw [if_pos (by rw [zn_lt (by omega) (by omega)]; omega), if_neg q]
/-- what the miles are -/
def pMl (n : Nat) (m : Nat → Int32) (g : Nat → Nat → Nat) : Prop := ∀ x y, x < n → y < n → m (x * 10 + y) = zn (g x y)
theorem pMl.upd {n a b : Nat} {m : Nat → Int32} {g g' : Nat → Nat → Nat} {v : Int32} (hn : n ≤ 10) (ha : a < 10) (hb : b < 10) (h : pMl n m g) (hv : v = zn (g' a b)) (hg : ∀ x y, ¬ (x = a ∧ y = b) → g' x y = g x y) : pMl n (upd m (a * 10 + b) v) g' := by
  intro x y hx hy
  by_cases q : x = a ∧ y = b
  · obtain ⟨rfl, rfl⟩ := q
    rw [pu_eq, hv]
  · rw [pu_ne _ _ (by omega), h x y hx hy, hg x y q]
theorem q_mea123 (hp : pD_np D ≤ 10) (hP : Ld_places L = zn (pD_np D)) {k103 : LdT → Int32 → Option LdT} {k113 : LdT → Int32 → Int32 → Option LdT} {k a : Nat} (hk : k < pD_np D) (ha : a < pD_np D) {g : Nat → Nat → Nat} (hg0 : g k k = 0) (hgl : ∀ x y, g x y ≤ 100000) : ∀ (d : Nat) {b fu : Nat} {m : Nat → Int32}, b + d = pD_np D → d + 1 ≤ fu → pMl (pD_np D) m (pPart k g a b) → ∃ m', f_X3_measure_L123 k103 k113 fu (Ld_s_miles L m) (zn k) (zn a) (zn b) = k113 (Ld_s_miles L m') (zn k) (zn (a + 1)) ∧ pMl (pD_np D) m' (pPart k g (a + 1) 0)
  | d, b, 0, m, h1, h2, h3 => by omega
  | 0, b, fu + 1, m, h1, h2, h3 => by
    show ∃ m', f_X3_measure_H123 (Ld_s_miles L m) k103 k113 (f_X3_measure_L123 k103 k113 fu) (zn k) (zn a) (zn b) = _ ∧ _
    unfold f_X3_measure_H123 f_X3_measure_b185
    rw [if_neg (show ¬ zn b < Ld_places (Ld_s_miles L m) from by show ¬ zn b < Ld_places L; rw [hP, zn_lt (by omega) (by omega)]; omega), show zn a + 1 = zn (a + 1) from zn_add a 1]
    refine ⟨m, rfl, fun x y hx hy => ?_⟩
    rw [pPart_down hy, h3 x y hx hy]
    have : b = pD_np D := by omega
    rw [this]
  | d + 1, b, fu + 1, m, h1, h2, h3 => by
    show ∃ m', f_X3_measure_H123 (Ld_s_miles L m) k103 k113 (f_X3_measure_L123 k103 k113 fu) (zn k) (zn a) (zn b) = _ ∧ _
    unfold f_X3_measure_H123 f_X3_measure_b185 f_X3_measure_b179
    have hb : b < pD_np D := by omega
    have gak : m (a * 10 + k) = zn (g a k) := by rw [h3 a k ha hk, pPart_col hg0]
    have gkb : m (k * 10 + b) = zn (g k b) := by rw [h3 k b hk hb, pPart_row hg0]
    have gab : m (a * 10 + b) = zn (g a b) := by rw [h3 a b ha hb, pPart_at]
    have l1 := hgl a k
    have l2 := hgl k b
    have l3 := hgl a b
    rw [if_pos (show zn b < Ld_places (Ld_s_miles L m) from by show zn b < Ld_places L; rw [hP, zn_lt (by omega) (by omega)]; omega), pc_joinedOf (by omega) (by omega) gak l1, ob_eq]
    by_cases q : g a k = 100000
    · rw [if_pos q, if_pos rfl, show zn a + 1 = zn (a + 1) from zn_add a 1]
      refine ⟨m, rfl, fun x y hx hy => ?_⟩
      rw [pPart_down hy, h3 x y hx hy, pPart_skip (b := b) (by omega) (hgl a y) hy]
    · rw [if_neg q, if_neg n10, pc_miles m (by omega) (by omega), ob_eq, pc_miles m (by omega) (by omega), ob_eq, pc_miles m (by omega) (by omega), ob_eq, gak, gkb, gab, zn_add, show zn b + 1 = zn (b + 1) from zn_add b 1]
      by_cases q2 : g a k + g k b < g a b
      · rw [if_pos (by rw [zn_lt (by omega) (by omega)]; exact q2), zn_l10, zn_mul, zn_add, zb_zn (by omega) (by omega), if_pos rfl, zl_eq, zn_nat (by omega)]
        refine q_mea123 hp hP hk ha hg0 hgl d (b := b + 1) (fu := fu) (m := upd m (a * 10 + b) (zn (g a k + g k b))) (by omega) (by omega) (pMl.upd hp (by omega) (by omega) h3 ?_ fun x y hxy => ?_)
        · rw [pPart_next, if_pos ⟨rfl, rfl⟩]; congr 1; unfold pStp; omega
        · rw [pPart_next, if_neg hxy]
      · rw [if_neg (by rw [zn_lt (by omega) (by omega)]; exact q2)]
        refine q_mea123 hp hP hk ha hg0 hgl d (b := b + 1) (fu := fu) (m := m) (by omega) (by omega) fun x y hx hy => ?_
        rw [h3 x y hx hy, pPart_next]
        by_cases qq : x = a ∧ y = b
        · obtain ⟨rfl, rfl⟩ := qq
          rw [if_pos ⟨rfl, rfl⟩, pPart_at]; congr 1; unfold pStp; omega
        · rw [if_neg qq]
theorem q_mea113 (hp : pD_np D ≤ 10) (hP : Ld_places L = zn (pD_np D)) {k103 : LdT → Int32 → Option LdT} {k : Nat} (hk : k < pD_np D) {g : Nat → Nat → Nat} (hg0 : g k k = 0) (hgl : ∀ x y, g x y ≤ 100000) : ∀ (d : Nat) {a fu : Nat} {m : Nat → Int32}, a + d = pD_np D → d + 1 ≤ fu → pMl (pD_np D) m (pPart k g a 0) → ∃ m', f_X3_measure_L113 k103 fu (Ld_s_miles L m) (zn k) (zn a) = k103 (Ld_s_miles L m') (zn (k + 1)) ∧ pMl (pD_np D) m' (pStp k g)
  | d, a, 0, m, h1, h2, h3 => by omega
  | 0, a, fu + 1, m, h1, h2, h3 => by
    show ∃ m', f_X3_measure_H113 (Ld_s_miles L m) k103 (f_X3_measure_L113 k103 fu) (zn k) (zn a) = _ ∧ _
    unfold f_X3_measure_H113
    rw [if_neg (show ¬ zn a < Ld_places (Ld_s_miles L m) from by show ¬ zn a < Ld_places L; rw [hP, zn_lt (by omega) (by omega)]; omega), show zn k + 1 = zn (k + 1) from zn_add k 1]
    refine ⟨m, rfl, fun x y hx hy => ?_⟩
    have e : a = pD_np D := by omega
    rw [h3 x y hx hy, e, pPart_last hx]
  | d + 1, a, fu + 1, m, h1, h2, h3 => by
    show ∃ m', f_X3_measure_H113 (Ld_s_miles L m) k103 (f_X3_measure_L113 k103 fu) (zn k) (zn a) = _ ∧ _
    unfold f_X3_measure_H113
    rw [if_pos (show zn a < Ld_places (Ld_s_miles L m) from by show zn a < Ld_places L; rw [hP, zn_lt (by omega) (by omega)]; omega)]
    obtain ⟨m1, e1, e2⟩ := q_mea123 hp hP (k103 := k103) (k113 := f_X3_measure_L113 k103 fu) hk (a := a) (by omega) hg0 hgl (pD_np D) (b := 0) (fu := zFU) (m := m) (by omega) (zFU_ge (by omega)) h3
    rw [show (0 : Int32) = zn 0 from rfl, e1]
    exact q_mea113 hp hP hk hg0 hgl d (by omega) (by omega) e2
theorem q_mea103 (hB : pBt D) (hP : Ld_places L = zn (pD_np D)) : ∀ (d : Nat) {k fu : Nat} {m : Nat → Int32}, k + d = pD_np D → d + 1 ≤ fu → pMl (pD_np D) m (pFw (pF0 D) k) → ∃ m', f_X3_measure_L103 fu (Ld_s_miles L m) (zn k) = some (Ld_s_miles L m') ∧ pMl (pD_np D) m' (pFw (pF0 D) (pD_np D))
  | d, k, 0, m, h1, h2, h3 => by omega
  | 0, k, fu + 1, m, h1, h2, h3 => by
    have hp := hB.1
    show ∃ m', f_X3_measure_H103 (Ld_s_miles L m) (f_X3_measure_L103 fu) (zn k) = _ ∧ _
    unfold f_X3_measure_H103
    rw [if_neg (show ¬ zn k < Ld_places (Ld_s_miles L m) from by show ¬ zn k < Ld_places L; rw [hP, zn_lt (by omega) (by omega)]; omega)]
    have e : k = pD_np D := by omega
    subst e
    exact ⟨m, rfl, h3⟩
  | d + 1, k, fu + 1, m, h1, h2, h3 => by
    have hp := hB.1
    show ∃ m', f_X3_measure_H103 (Ld_s_miles L m) (f_X3_measure_L103 fu) (zn k) = _ ∧ _
    unfold f_X3_measure_H103
    rw [if_pos (show zn k < Ld_places (Ld_s_miles L m) from by show zn k < Ld_places L; rw [hP, zn_lt (by omega) (by omega)]; omega)]
    obtain ⟨m1, e1, e2⟩ := q_mea113 hp hP (k103 := f_X3_measure_L103 fu) (k := k) (by omega) (g := pFw (pF0 D) k) (pFw_diag (pBt.diag k) k) (pFw_lim hB k) (pD_np D) (a := 0) (fu := zFU) (m := m) (by omega) (zFU_ge (by omega)) (fun x y hx hy => by rw [h3 x y hx hy, pPart_first])
    rw [show (0 : Int32) = zn 0 from rfl, e1]
    exact q_mea103 hB hP d (by omega) (by omega) e2
/-- after the first roads -/
def pFs (D : pD) (k x y : Nat) : Nat := if x = y then (if x < pD_np D then 0 else 100000) else if pD_rd D x y ≠ 0 ∧ pD_rd D x y ≤ k then pD_ro D (pD_rd D x y - 1) 2 else 100000
theorem q_mea39 (hB : pBt D) (hP : Ld_places L = zn (pD_np D)) (hR : Ld_roads L = zn (pD_nr D)) (hr : ∀ r k, r < pD_nr D → k < 5 → Ld_roadRows L (r * 5 + k) = zn (pD_ro D r k)) : ∀ (d : Nat) {k fu : Nat} {m : Nat → Int32}, k + d = pD_nr D → d + 1 ≤ fu → pMl 10 m (pFs D k) → ∃ m', f_X3_measure_L39 fu (Ld_s_miles L m) (zn k) = some (Ld_s_miles L m') ∧ pMl (pD_np D) m' (pFw (pF0 D) (pD_np D))
  | d, k, 0, m, h1, h2, h3 => by omega
  | 0, k, fu + 1, m, h1, h2, h3 => by
    have hp := hB.1
    have hq := hB.2.1
    show ∃ m', f_X3_measure_H39 (Ld_s_miles L m) (f_X3_measure_L39 fu) (zn k) = _ ∧ _
    unfold f_X3_measure_H39
    rw [if_neg (show ¬ zn k < Ld_roads (Ld_s_miles L m) from by show ¬ zn k < Ld_roads L; rw [hR, zn_lt (by omega) (by omega)]; omega)]
    refine q_mea103 hB hP (pD_np D) (k := 0) (fu := zFU) (by omega) (zFU_ge (by omega)) fun x y hx hy => ?_
    rw [h3 x y (by omega) (by omega)]
    show zn (pFs D k x y) = zn (pF0 D x y)
    congr 1
    unfold pFs pF0
    by_cases q : x = y
    · rw [if_pos q, if_pos q, if_pos hx]
    · rw [if_neg q, if_neg q]
      by_cases q2 : pD_rd D x y = 0
      · rw [if_neg (fun z => z.1 q2), if_neg (fun z => z.2.2 q2)]
      · obtain ⟨i, -⟩ := hB.2.2.2 x y (by omega) (by omega) (pD_rd D x y - 1) (by omega)
        rw [if_pos ⟨q2, by omega⟩, if_pos ⟨hx, hy, q2⟩]
  | d + 1, k, fu + 1, m, h1, h2, h3 => by
    have hp := hB.1
    have hq := hB.2.1
    show ∃ m', f_X3_measure_H39 (Ld_s_miles L m) (f_X3_measure_L39 fu) (zn k) = _ ∧ _
    unfold f_X3_measure_H39
    have hk : k < pD_nr D := by omega
    obtain ⟨⟨r1, r2, r3⟩, r4, r5, r6, r7⟩ := hB.2.2.1 k hk
    have of0 : ∀ (m : Nat → Int32) (j : Nat), j < 5 → f_X3_ofRoad (Ld_s_miles L m) (zn k) (zn j) = some (zn (pD_ro D k j)) := fun m j hj => by
      exact (pr_ofRoad (Ld_s_miles L m) (show k * 5 + j < 80 by omega)).trans (congrArg some (hr k j hk hj))
    rw [if_pos (show zn k < Ld_roads (Ld_s_miles L m) from by show zn k < Ld_roads L; rw [hR, zn_lt (by omega) (by omega)]; omega), show f_X3_ofRoad (Ld_s_miles L m) (zn k) 0 = some (zn (pD_ro D k 0)) from of0 m 0 (by omega), ob_eq, show f_X3_ofRoad (Ld_s_miles L m) (zn k) 1 = some (zn (pD_ro D k 1)) from of0 m 1 (by omega), ob_eq, show f_X3_ofRoad (Ld_s_miles L m) (zn k) 2 = some (zn (pD_ro D k 2)) from of0 m 2 (by omega), ob_eq, zn_l10, zn_mul, zn_add, zn_mul, zn_add, zb_zn (by omega) (by omega), if_pos rfl, zl_eq, zn_nat (by omega)]
    rw [show f_X3_ofRoad (Ld_s_miles (Ld_s_miles L m) (upd (Ld_miles (Ld_s_miles L m)) (pD_ro D k 0 * 10 + pD_ro D k 1) (zn (pD_ro D k 2)))) (zn k) 2 = some (zn (pD_ro D k 2)) from of0 _ 2 (by omega), ob_eq, zb_zn (by omega) (by omega), if_pos rfl, zl_eq, zn_nat (by omega), show zn k + 1 = zn (k + 1) from zn_add k 1]
    refine q_mea39 hB hP hR hr d (k := k + 1) (fu := fu) (m := upd (upd m (pD_ro D k 0 * 10 + pD_ro D k 1) (zn (pD_ro D k 2))) (pD_ro D k 1 * 10 + pD_ro D k 0) (zn (pD_ro D k 2))) (by omega) (by omega) fun x y hx hy => ?_
    have e : ∀ x y, pFs D (k + 1) x y = if (x = pD_ro D k 0 ∧ y = pD_ro D k 1) ∨ (x = pD_ro D k 1 ∧ y = pD_ro D k 0) then pD_ro D k 2 else if x < 10 ∧ y < 10 then pFs D k x y else pFs D (k + 1) x y := fun x y => by
      by_cases q : (x = pD_ro D k 0 ∧ y = pD_ro D k 1) ∨ (x = pD_ro D k 1 ∧ y = pD_ro D k 0)
      · rw [if_pos q]
        have er : pD_rd D x y = k + 1 := by rcases q with ⟨rfl, rfl⟩ | ⟨rfl, rfl⟩ <;> assumption
        unfold pFs
        rw [if_neg (by omega), er, if_pos (by omega)]; rfl
      · rw [if_neg q]
        by_cases q10 : x < 10 ∧ y < 10
        · rw [if_pos q10]
          have er : pD_rd D x y ≠ k + 1 := fun z => by
            have := (hB.2.2.2 x y q10.1 q10.2 k z).2
            omega
          unfold pFs
          by_cases q2 : x = y
          · rw [if_pos q2, if_pos q2]
          · rw [if_neg q2, if_neg q2]
            by_cases q3 : pD_rd D x y ≠ 0 ∧ pD_rd D x y ≤ k
            · rw [if_pos q3, if_pos (by omega)]
            · rw [if_neg q3, if_neg (by omega)]
        · rw [if_neg q10]
    rw [e x y]
    by_cases q1 : x = pD_ro D k 1 ∧ y = pD_ro D k 0
    · obtain ⟨rfl, rfl⟩ := q1
      rw [pu_eq, if_pos (Or.inr ⟨rfl, rfl⟩)]
    · rw [pu_ne _ _ (by omega)]
      by_cases q0 : x = pD_ro D k 0 ∧ y = pD_ro D k 1
      · obtain ⟨rfl, rfl⟩ := q0
        rw [pu_eq, if_pos (Or.inl ⟨rfl, rfl⟩)]
      · rw [pu_ne _ _ (by omega), if_neg (by omega), if_pos ⟨hx, hy⟩, h3 x y hx hy]
theorem q_mea11 (hB : pBt D) (hP : Ld_places L = zn (pD_np D)) (hR : Ld_roads L = zn (pD_nr D)) (hr : ∀ r k, r < pD_nr D → k < 5 → Ld_roadRows L (r * 5 + k) = zn (pD_ro D r k)) : ∀ (d : Nat) {k fu : Nat} {m : Nat → Int32}, k + d = pD_np D → d + 1 ≤ fu → pMl 10 m (fun x y => if x = y ∧ x < k then 0 else 100000) → ∃ m', f_X3_measure_L11 fu (Ld_s_miles L m) (zn k) = some (Ld_s_miles L m') ∧ pMl (pD_np D) m' (pFw (pF0 D) (pD_np D))
  | d, k, 0, m, h1, h2, h3 => by omega
  | 0, k, fu + 1, m, h1, h2, h3 => by
    have hp := hB.1
    have hq := hB.2.1
    show ∃ m', f_X3_measure_H11 (Ld_s_miles L m) (f_X3_measure_L11 fu) (zn k) = _ ∧ _
    unfold f_X3_measure_H11
    rw [if_neg (show ¬ zn k < Ld_places (Ld_s_miles L m) from by show ¬ zn k < Ld_places L; rw [hP, zn_lt (by omega) (by omega)]; omega)]
    refine q_mea39 hB hP hR hr (pD_nr D) (k := 0) (fu := zFU) (by omega) (zFU_ge (by omega)) fun x y hx hy => ?_
    rw [h3 x y hx hy]
    show zn (if x = y ∧ x < k then 0 else 100000) = zn (pFs D 0 x y)
    congr 1
    unfold pFs
    by_cases q : x = y
    · rw [if_pos q]
      by_cases q2 : x < pD_np D
      · rw [if_pos q2, if_pos (by omega)]
      · rw [if_neg q2, if_neg (by omega)]
    · rw [if_neg q, if_neg (fun z => q z.1), if_neg (by omega)]
  | d + 1, k, fu + 1, m, h1, h2, h3 => by
    have hp := hB.1
    show ∃ m', f_X3_measure_H11 (Ld_s_miles L m) (f_X3_measure_L11 fu) (zn k) = _ ∧ _
    unfold f_X3_measure_H11
    rw [if_pos (show zn k < Ld_places (Ld_s_miles L m) from by show zn k < Ld_places L; rw [hP, zn_lt (by omega) (by omega)]; omega), zn_l10, zn_mul, zn_add, zb_zn (by omega) (by omega), if_pos rfl, zl_eq, zn_nat (by omega), show zn k + 1 = zn (k + 1) from zn_add k 1]
    refine q_mea11 hB hP hR hr d (k := k + 1) (fu := fu) (m := upd m (k * 10 + k) 0) (by omega) (by omega) (pMl.upd (by omega) (by omega) (by omega) h3 ?_ fun x y hxy => ?_)
    · rw [if_pos (by omega)]; rfl
    · by_cases q : x = y ∧ x < k
      · rw [if_pos q, if_pos (by omega)]
      · rw [if_neg q, if_neg (by omega)]
theorem q_measure (hB : pBt D) (hP : Ld_places L = zn (pD_np D)) (hR : Ld_roads L = zn (pD_nr D)) (hr : ∀ r k, r < pD_nr D → k < 5 → Ld_roadRows L (r * 5 + k) = zn (pD_ro D r k)) : ∃ m', f_X3_measure L = some (Ld_s_miles L m') ∧ pMl (pD_np D) m' (pFw (pF0 D) (pD_np D)) := by
  have hp := hB.1
  unfold f_X3_measure
  rw [zl_eq]
  refine q_mea11 hB hP hR hr (pD_np D) (k := 0) (fu := zFU) (by omega) (zFU_ge (by omega)) fun x y hx hy => ?_
  show _ = zn (if x = y ∧ x < 0 then 0 else 100000)
  rw [if_neg (by omega)]
  unfold zr_fill
  rw [if_pos (by omega)]; rfl
end
