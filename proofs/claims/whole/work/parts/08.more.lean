section
variable {l : Launch} {G : zj_G} {M : zj_M} {W0 : List va_W} {Φ : zj_F} {k n : Nat} {WW : List va_W} {lv : List (Option Value)} {pc : Nat} {st : List Value}
theorem zr_newi {x : Int32} {N : Nat} (w : Cond.arrayClass .int ∈ zT) (hx : ¬ x < 0) (hN : x.toNatClampNeg = N) (hb : Nat.ble N 100000 = true) (hcs : k + 1 ≤ M.2.2.2.2.1.cells ∧ n + N ≤ M.2.2.2.2.1.slots) (hd : decode M.2.1 pc = .ok (.newarray .int, 2))
    (kk : ∀ q, zj_J l G M W0 Φ (k + 1) (n + N) (WW ++ [[(q, .inl (G.2.1 1, N, .inl (fun _ => 0)))]]) lv (pc + 2) (.ref q :: st)) : zj_J l G M W0 Φ k n WW lv pc (.int x :: st) := by
  intro p e s m args below meth c H locs ls C hP hD hS hl
  have hK := C.2.2.2.2.2.2.1.K
  have hb2 := Nat.le_of_ble_eq_true hb
  refine va_newa (atype := .int) (ty := .int) C.1 C.2.1 (C.2.2.2.2.2.1 _ w) rfl hK hP hD hS (fun q h => Or.inr h) (a0 := (N, .inl (fun _ => 0))) (fun cA => rfl) hx hN (by show N * 4 ≤ 536870912; omega) hcs.1 hcs.2 hd (fun q cA H1 hK1 hP1 hD1 hS1 => ?_)
  have h1 : va_RA s cA .int := (hK1.2 7 (cA, .int) rfl).2
  have h2 : va_RA s (G.2.1 1) .int := (hK.2 1 (G.2.1 1, .int) rfl).2
  have hc : cA = G.2.1 1 := Option.some.inj (h1.symm.trans h2)
  rw [hc] at hP1 hD1
  refine kk q p e s m args below meth c H1 locs ls C ?_ ?_ hS1 hl
  · rw [List.flatten_append, List.flatten_singleton]; exact hP1
  · rw [List.flatten_append, List.flatten_singleton]; exact hD1
theorem zr_newl {x : Int32} {N : Nat} (w : Cond.arrayClass .long ∈ zT) (hx : ¬ x < 0) (hN : x.toNatClampNeg = N) (hb : Nat.ble N 100000 = true) (hcs : k + 1 ≤ M.2.2.2.2.1.cells ∧ n + N ≤ M.2.2.2.2.1.slots) (hd : decode M.2.1 pc = .ok (.newarray .long, 2))
    (kk : ∀ q, zj_J l G M W0 Φ (k + 1) (n + N) (WW ++ [[(q, .inl (G.2.1 2, N, .inr (.inl (fun _ => 0))))]]) lv (pc + 2) (.ref q :: st)) : zj_J l G M W0 Φ k n WW lv pc (.int x :: st) := by
  intro p e s m args below meth c H locs ls C hP hD hS hl
  have hK := C.2.2.2.2.2.2.1.K
  have hb2 := Nat.le_of_ble_eq_true hb
  refine va_newa (atype := .long) (ty := .long) C.1 C.2.1 (C.2.2.2.2.2.1 _ w) rfl hK hP hD hS (fun q h => Or.inr h) (a0 := (N, .inr (.inl (fun _ => 0)))) (fun cA => rfl) hx hN (by show N * 8 ≤ 536870912; omega) hcs.1 hcs.2 hd (fun q cA H1 hK1 hP1 hD1 hS1 => ?_)
  have h1 : va_RA s cA .long := (hK1.2 7 (cA, .long) rfl).2
  have h2 : va_RA s (G.2.1 2) .long := (hK.2 2 (G.2.1 2, .long) rfl).2
  have hc : cA = G.2.1 2 := Option.some.inj (h1.symm.trans h2)
  rw [hc] at hP1 hD1
  refine kk q p e s m args below meth c H1 locs ls C ?_ ?_ hS1 hl
  · rw [List.flatten_append, List.flatten_singleton]; exact hP1
  · rw [List.flatten_append, List.flatten_singleton]; exact hD1
theorem zr_newb {x : Int32} {N : Nat} (w : Cond.arrayClass .byte ∈ zT) (hx : ¬ x < 0) (hN : x.toNatClampNeg = N) (hb : Nat.ble N 100000 = true) (hcs : k + 1 ≤ M.2.2.2.2.1.cells ∧ n + N ≤ M.2.2.2.2.1.slots) (hd : decode M.2.1 pc = .ok (.newarray .byte, 2))
    (kk : ∀ q, zj_J l G M W0 Φ (k + 1) (n + N) (WW ++ [[(q, .inl (G.2.1 0, N, .inl (fun _ => 0)))]]) lv (pc + 2) (.ref q :: st)) : zj_J l G M W0 Φ k n WW lv pc (.int x :: st) := by
  intro p e s m args below meth c H locs ls C hP hD hS hl
  have hK := C.2.2.2.2.2.2.1.K
  have hb2 := Nat.le_of_ble_eq_true hb
  refine va_newa (atype := .byte) (ty := .byte) C.1 C.2.1 (C.2.2.2.2.2.1 _ w) rfl hK hP hD hS (fun q h => Or.inr h) (a0 := (N, .inl (fun _ => 0))) (fun cA => rfl) hx hN (by show N * 1 ≤ 536870912; omega) hcs.1 hcs.2 hd (fun q cA H1 hK1 hP1 hD1 hS1 => ?_)
  have h1 : va_RA s cA .byte := (hK1.2 7 (cA, .byte) rfl).2
  have h2 : va_RA s (G.2.1 0) .byte := (hK.2 0 (G.2.1 0, .byte) rfl).2
  have hc : cA = G.2.1 0 := Option.some.inj (h1.symm.trans h2)
  rw [hc] at hP1 hD1
  refine kk q p e s m args below meth c H1 locs ls C ?_ ?_ hS1 hl
  · rw [List.flatten_append, List.flatten_singleton]; exact hP1
  · rw [List.flatten_append, List.flatten_singleton]; exact hD1
theorem zr_newz {x : Int32} {N : Nat} (w : Cond.arrayClass .boolean ∈ zT) (hx : ¬ x < 0) (hN : x.toNatClampNeg = N) (hb : Nat.ble N 100000 = true) (hcs : k + 1 ≤ M.2.2.2.2.1.cells ∧ n + N ≤ M.2.2.2.2.1.slots) (hd : decode M.2.1 pc = .ok (.newarray .boolean, 2))
    (kk : ∀ q, zj_J l G M W0 Φ (k + 1) (n + N) (WW ++ [[(q, .inl (G.2.1 3, N, .inl (fun _ => 0)))]]) lv (pc + 2) (.ref q :: st)) : zj_J l G M W0 Φ k n WW lv pc (.int x :: st) := by
  intro p e s m args below meth c H locs ls C hP hD hS hl
  have hK := C.2.2.2.2.2.2.1.K
  have hb2 := Nat.le_of_ble_eq_true hb
  refine va_newa (atype := .boolean) (ty := .boolean) C.1 C.2.1 (C.2.2.2.2.2.1 _ w) rfl hK hP hD hS (fun q h => Or.inr h) (a0 := (N, .inl (fun _ => 0))) (fun cA => rfl) hx hN (by show N * 1 ≤ 536870912; omega) hcs.1 hcs.2 hd (fun q cA H1 hK1 hP1 hD1 hS1 => ?_)
  have h1 : va_RA s cA .boolean := (hK1.2 7 (cA, .boolean) rfl).2
  have h2 : va_RA s (G.2.1 3) .boolean := (hK.2 3 (G.2.1 3, .boolean) rfl).2
  have hc : cA = G.2.1 3 := Option.some.inj (h1.symm.trans h2)
  rw [hc] at hP1 hD1
  refine kk q p e s m args below meth c H1 locs ls C ?_ ?_ hS1 hl
  · rw [List.flatten_append, List.flatten_singleton]; exact hP1
  · rw [List.flatten_append, List.flatten_singleton]; exact hD1
theorem zr_newF {x : Int32} {N i : Nat} (w : Cond.classLink M.1 i "RoadToPort$Folk" ∈ zT) (hx : ¬ x < 0) (hN : x.toNatClampNeg = N) (hb : Nat.ble N 100000 = true) (hcs : k + 1 ≤ M.2.2.2.2.1.cells ∧ n + N ≤ M.2.2.2.2.1.slots) (hd : decode M.2.1 pc = .ok (.anewarray i, 3))
    (kk : ∀ q, zj_J l G M W0 Φ (k + 1) (n + N) (WW ++ [[(q, .inl (G.2.1 4, N, .inr (.inr (.inr (.inr (fun _ => none))))))]]) lv (pc + 3) (.ref q :: st)) : zj_J l G M W0 Φ k n WW lv pc (.int x :: st) := by
  intro p e s m args below meth c H locs ls C hP hD hS hl
  have hK := C.2.2.2.2.2.2.1.K
  have hb2 := Nat.le_of_ble_eq_true hb
  refine va_newq (own := M.1) (C := "RoadToPort$Folk") C.1 C.2.1 C.2.2.2.2.1 (C.2.2.2.2.2.1 _ w) C.2.2.2.2.2.2.1.2.2.1.1 hK hP hD hS (fun q h => Or.inr h) hx hN (by omega) hcs.1 hcs.2 hd (fun q cA H1 hK1 hP1 hD1 hS1 => ?_)
  have h1 : va_RA s cA (.object "RoadToPort$Folk") := (hK1.2 7 (cA, .object "RoadToPort$Folk") rfl).2
  have h2 : va_RA s (G.2.1 4) (.object "RoadToPort$Folk") := (hK.2 4 (G.2.1 4, .object "RoadToPort$Folk") rfl).2
  obtain ⟨_, _, _, _, _, g1⟩ := h1
  obtain ⟨_, _, _, _, _, g2⟩ := h2
  have hc : cA = G.2.1 4 := Option.some.inj (g1.symm.trans g2)
  rw [hc] at hP1 hD1
  refine kk q p e s m args below meth c H1 locs ls C ?_ ?_ hS1 hl
  · rw [List.flatten_append, List.flatten_singleton]; exact hP1
  · rw [List.flatten_append, List.flatten_singleton]; exact hD1
theorem zr_newL {x : Int32} {N i : Nat} (w : Cond.classLink M.1 i "RoadToPort$Land" ∈ zT) (hx : ¬ x < 0) (hN : x.toNatClampNeg = N) (hb : Nat.ble N 100000 = true) (hcs : k + 1 ≤ M.2.2.2.2.1.cells ∧ n + N ≤ M.2.2.2.2.1.slots) (hd : decode M.2.1 pc = .ok (.anewarray i, 3))
    (kk : ∀ q, zj_J l G M W0 Φ (k + 1) (n + N) (WW ++ [[(q, .inl (G.2.1 5, N, .inr (.inr (.inr (.inr (fun _ => none))))))]]) lv (pc + 3) (.ref q :: st)) : zj_J l G M W0 Φ k n WW lv pc (.int x :: st) := by
  intro p e s m args below meth c H locs ls C hP hD hS hl
  have hK := C.2.2.2.2.2.2.1.K
  have hb2 := Nat.le_of_ble_eq_true hb
  refine va_newq (own := M.1) (C := "RoadToPort$Land") C.1 C.2.1 C.2.2.2.2.1 (C.2.2.2.2.2.1 _ w) C.2.2.2.2.2.2.1.2.2.1.2.1 hK hP hD hS (fun q h => Or.inr h) hx hN (by omega) hcs.1 hcs.2 hd (fun q cA H1 hK1 hP1 hD1 hS1 => ?_)
  have h1 : va_RA s cA (.object "RoadToPort$Land") := (hK1.2 7 (cA, .object "RoadToPort$Land") rfl).2
  have h2 : va_RA s (G.2.1 5) (.object "RoadToPort$Land") := (hK.2 5 (G.2.1 5, .object "RoadToPort$Land") rfl).2
  obtain ⟨_, _, _, _, _, g1⟩ := h1
  obtain ⟨_, _, _, _, _, g2⟩ := h2
  have hc : cA = G.2.1 5 := Option.some.inj (g1.symm.trans g2)
  rw [hc] at hP1 hD1
  refine kk q p e s m args below meth c H1 locs ls C ?_ ?_ hS1 hl
  · rw [List.flatten_append, List.flatten_singleton]; exact hP1
  · rw [List.flatten_append, List.flatten_singleton]; exact hD1
theorem zr_newP {x : Int32} {N i : Nat} (w : Cond.classLink M.1 i "RoadToPort$Phrase" ∈ zT) (hx : ¬ x < 0) (hN : x.toNatClampNeg = N) (hb : Nat.ble N 100000 = true) (hcs : k + 1 ≤ M.2.2.2.2.1.cells ∧ n + N ≤ M.2.2.2.2.1.slots) (hd : decode M.2.1 pc = .ok (.anewarray i, 3))
    (kk : ∀ q, zj_J l G M W0 Φ (k + 1) (n + N) (WW ++ [[(q, .inl (G.2.1 6, N, .inr (.inr (.inr (.inr (fun _ => none))))))]]) lv (pc + 3) (.ref q :: st)) : zj_J l G M W0 Φ k n WW lv pc (.int x :: st) := by
  intro p e s m args below meth c H locs ls C hP hD hS hl
  have hK := C.2.2.2.2.2.2.1.K
  have hb2 := Nat.le_of_ble_eq_true hb
  refine va_newq (own := M.1) (C := "RoadToPort$Phrase") C.1 C.2.1 C.2.2.2.2.1 (C.2.2.2.2.2.1 _ w) C.2.2.2.2.2.2.1.2.2.1.2.2 hK hP hD hS (fun q h => Or.inr h) hx hN (by omega) hcs.1 hcs.2 hd (fun q cA H1 hK1 hP1 hD1 hS1 => ?_)
  have h1 : va_RA s cA (.object "RoadToPort$Phrase") := (hK1.2 7 (cA, .object "RoadToPort$Phrase") rfl).2
  have h2 : va_RA s (G.2.1 6) (.object "RoadToPort$Phrase") := (hK.2 6 (G.2.1 6, .object "RoadToPort$Phrase") rfl).2
  obtain ⟨_, _, _, _, _, g1⟩ := h1
  obtain ⟨_, _, _, _, _, g2⟩ := h2
  have hc : cA = G.2.1 6 := Option.some.inj (g1.symm.trans g2)
  rw [hc] at hP1 hD1
  refine kk q p e s m args below meth c H1 locs ls C ?_ ?_ hS1 hl
  · rw [List.flatten_append, List.flatten_singleton]; exact hP1
  · rw [List.flatten_append, List.flatten_singleton]; exact hD1
def zb_cp (sp dp m : Int32) (n0 n1 : Nat) : Bool := decide (¬ sp < 0) && decide (¬ dp < 0) && decide (¬ m < 0) && decide (sp.toNatClampNeg + m.toNatClampNeg ≤ n0) && decide (dp.toNatClampNeg + m.toNatClampNeg ≤ n1)
theorem zr_copyi {b0 c0 b1 c1 a0 a1 a0' a1' n0 n1 i : Nat} {cA cB : ClassId} {f g : Nat → Int32} {sp dp m : Int32} (h0 : zj_c WW b0 c0 = some (a0', .inl (cA, n0, .inl (f)))) (h1 : zj_c WW b1 c1 = some (a1', .inl (cB, n1, .inl (g)))) (ha0 : a0 = a0') (ha1 : a1 = a1') (hA : cA = G.2.1 1) (hB : cB = G.2.1 1) (hz : zb_cp sp dp m n0 n1 = true)
    (w1 : Cond.methodLink M.1 i arraycopyName ∈ zT) (w2 : Cond.native arraycopyName ∈ zT) (w3 : Cond.static arraycopyName ∈ zT) (w4 : Cond.initialized "java/lang/System" ∈ zT) (hf : 1 ≤ M.2.2.2.2.1.frames) (hlo : (st.map fun v => v.category).sum + (nativeFrameWords "java/lang/System" "arraycopy" 5 + 11) ≤ M.2.2.2.2.1.locals) (hd : decode M.2.1 pc = .ok (.invokestatic i, 3))
    (kk : zj_J l G M W0 Φ k n (zj_set WW b1 c1 (a1', .inl (cB, n1, .inl (va_cpy f g sp.toNatClampNeg dp.toNatClampNeg m.toNatClampNeg)))) lv (pc + 3) st) : zj_J l G M W0 Φ k n WW lv pc (.int m :: .int dp :: .ref a1 :: .int sp :: .ref a0 :: st) := by
  intro p e s m' args below meth c H locs ls C hP hD hS hl
  subst ha0; subst ha1
  simp only [zb_cp, Bool.and_eq_true, decide_eq_true_eq] at hz
  refine va_copyi (own := M.1) C.1 C.2.1 (C.2.2.1.trans hl.1.1.symm) C.2.2.2.2.1 (C.2.2.2.2.2.1 _ w1) (C.2.2.2.2.2.1 _ w2) (C.2.2.2.2.2.1 _ w3) (C.2.2.2.2.2.1 _ w4) C.2.2.2.2.2.2.1.K hP hD hS (zj_off WW b0 + c0) (zj_off WW b1 + c1) 1 1 (zj_flat_at WW b0 c0 h0) (zj_flat_at WW b1 c1 h1) (by rw [hA]; rfl) (by rw [hB]; rfl) rfl hz.1.1.1.1 hz.1.1.1.2 hz.1.1.2 hz.1.2 hz.2 (fun _ _ => rfl) hf hlo hd (fun H1 locs1 hP1 hD1 hS1 => ?_)
  rw [zj_flat_set WW b1 c1 _ h1] at hP1 hD1
  exact kk p e s m' args below meth c H1 locs1 ls C hP1 hD1 hS1 hl
theorem zr_copyl {b0 c0 b1 c1 a0 a1 a0' a1' n0 n1 i : Nat} {cA cB : ClassId} {f g : Nat → Int64} {sp dp m : Int32} (h0 : zj_c WW b0 c0 = some (a0', .inl (cA, n0, .inr (.inl (f))))) (h1 : zj_c WW b1 c1 = some (a1', .inl (cB, n1, .inr (.inl (g))))) (ha0 : a0 = a0') (ha1 : a1 = a1') (hA : cA = G.2.1 2) (hB : cB = G.2.1 2) (hz : zb_cp sp dp m n0 n1 = true)
    (w1 : Cond.methodLink M.1 i arraycopyName ∈ zT) (w2 : Cond.native arraycopyName ∈ zT) (w3 : Cond.static arraycopyName ∈ zT) (w4 : Cond.initialized "java/lang/System" ∈ zT) (hf : 1 ≤ M.2.2.2.2.1.frames) (hlo : (st.map fun v => v.category).sum + (nativeFrameWords "java/lang/System" "arraycopy" 5 + 11) ≤ M.2.2.2.2.1.locals) (hd : decode M.2.1 pc = .ok (.invokestatic i, 3))
    (kk : zj_J l G M W0 Φ k n (zj_set WW b1 c1 (a1', .inl (cB, n1, .inr (.inl (va_cpy f g sp.toNatClampNeg dp.toNatClampNeg m.toNatClampNeg))))) lv (pc + 3) st) : zj_J l G M W0 Φ k n WW lv pc (.int m :: .int dp :: .ref a1 :: .int sp :: .ref a0 :: st) := by
  intro p e s m' args below meth c H locs ls C hP hD hS hl
  subst ha0; subst ha1
  simp only [zb_cp, Bool.and_eq_true, decide_eq_true_eq] at hz
  refine va_copyl (own := M.1) C.1 C.2.1 (C.2.2.1.trans hl.1.1.symm) C.2.2.2.2.1 (C.2.2.2.2.2.1 _ w1) (C.2.2.2.2.2.1 _ w2) (C.2.2.2.2.2.1 _ w3) (C.2.2.2.2.2.1 _ w4) C.2.2.2.2.2.2.1.K hP hD hS (zj_off WW b0 + c0) (zj_off WW b1 + c1) 2 2 (zj_flat_at WW b0 c0 h0) (zj_flat_at WW b1 c1 h1) (by rw [hA]; rfl) (by rw [hB]; rfl) rfl hz.1.1.1.1 hz.1.1.1.2 hz.1.1.2 hz.1.2 hz.2 (fun _ _ => rfl) hf hlo hd (fun H1 locs1 hP1 hD1 hS1 => ?_)
  rw [zj_flat_set WW b1 c1 _ h1] at hP1 hD1
  exact kk p e s m' args below meth c H1 locs1 ls C hP1 hD1 hS1 hl
def zr_mminF (x y : Int32) : Int32 := if y < x then y else x
theorem zr_mmin {i : Nat} {x y : Int32} (w1 : Cond.methodLink M.1 i Lib.Math.min.name ∈ zT) (w2 : Cond.static Lib.Math.min.name ∈ zT) (w3 : Cond.initialized "java/lang/Math" ∈ zT) (w4 : Cond.code Lib.Math.min.name Lib.Math.min.code 2 (some .int) ∈ zT) (hf : 1 ≤ M.2.2.2.2.1.frames) (hlo : (st.map fun v => v.category).sum + 13 ≤ M.2.2.2.2.1.locals) (hcs : k ≤ M.2.2.2.2.1.cells ∧ n ≤ M.2.2.2.2.1.slots) (hd : decode M.2.1 pc = .ok (.invokestatic i, 3))
    (kk : zj_J l G M W0 Φ k n WW lv (pc + 3) (.int (zr_mminF x y) :: st)) : zj_J l G M W0 Φ k n WW lv pc (.int y :: .int x :: st) := by
  intro p e s m args below meth c H locs ls C hP hD hS hl
  exact va_mmin (own := M.1) C.1 C.2.1 (C.2.2.1.trans hl.1.1.symm) C.2.2.2.2.1 (C.2.2.2.2.2.1 _ w1) (C.2.2.2.2.2.1 _ w2) (C.2.2.2.2.2.1 _ w3) (C.2.2.2.2.2.1 _ w4) hf hlo hcs.1 hcs.2 hd (kk p e s m args below meth c H locs ls C hP hD hS hl)
def zr_mmaxF (x y : Int32) : Int32 := if x < y then y else x
theorem zr_mmax {i : Nat} {x y : Int32} (w1 : Cond.methodLink M.1 i Lib.Math.max.name ∈ zT) (w2 : Cond.static Lib.Math.max.name ∈ zT) (w3 : Cond.initialized "java/lang/Math" ∈ zT) (w4 : Cond.code Lib.Math.max.name Lib.Math.max.code 2 (some .int) ∈ zT) (hf : 1 ≤ M.2.2.2.2.1.frames) (hlo : (st.map fun v => v.category).sum + 13 ≤ M.2.2.2.2.1.locals) (hcs : k ≤ M.2.2.2.2.1.cells ∧ n ≤ M.2.2.2.2.1.slots) (hd : decode M.2.1 pc = .ok (.invokestatic i, 3))
    (kk : zj_J l G M W0 Φ k n WW lv (pc + 3) (.int (zr_mmaxF x y) :: st)) : zj_J l G M W0 Φ k n WW lv pc (.int y :: .int x :: st) := by
  intro p e s m args below meth c H locs ls C hP hD hS hl
  exact va_mmax (own := M.1) C.1 C.2.1 (C.2.2.1.trans hl.1.1.symm) C.2.2.2.2.1 (C.2.2.2.2.2.1 _ w1) (C.2.2.2.2.2.1 _ w2) (C.2.2.2.2.2.1 _ w3) (C.2.2.2.2.2.1 _ w4) hf hlo hcs.1 hcs.2 hd (kk p e s m args below meth c H locs ls C hP hD hS hl)
def zr_mminlF (x y : Int64) : Int64 := if y < x then y else x
theorem zr_mminl {i : Nat} {x y : Int64} (w1 : Cond.methodLink M.1 i Lib.MathLoose.min_long.x ∈ zT) (w2 : Cond.static Lib.MathLoose.min_long.x ∈ zT) (w3 : Cond.initialized "java/lang/Math" ∈ zT) (w4 : Cond.code Lib.MathLoose.min_long.x Lib.MathLoose.min_long.code 4 (some .long) ∈ zT) (hf : 1 ≤ M.2.2.2.2.1.frames) (hlo : (st.map fun v => v.category).sum + 15 ≤ M.2.2.2.2.1.locals) (hcs : k ≤ M.2.2.2.2.1.cells ∧ n ≤ M.2.2.2.2.1.slots) (hd : decode M.2.1 pc = .ok (.invokestatic i, 3))
    (kk : zj_J l G M W0 Φ k n WW lv (pc + 3) (.long (zr_mminlF x y) :: st)) : zj_J l G M W0 Φ k n WW lv pc (.long y :: .long x :: st) := by
  intro p e s m args below meth c H locs ls C hP hD hS hl
  exact va_mmin_long (own := M.1) C.1 C.2.1 (C.2.2.1.trans hl.1.1.symm) C.2.2.2.2.1 (C.2.2.2.2.2.1 _ w1) (C.2.2.2.2.2.1 _ w2) (C.2.2.2.2.2.1 _ w3) (C.2.2.2.2.2.1 _ w4) hf hlo hcs.1 hcs.2 hd (kk p e s m args below meth c H locs ls C hP hD hS hl)
def zr_mmaxlF (x y : Int64) : Int64 := if y < x then x else y
theorem zr_mmaxl {i : Nat} {x y : Int64} (w1 : Cond.methodLink M.1 i Lib.MathLoose.max_long.x ∈ zT) (w2 : Cond.static Lib.MathLoose.max_long.x ∈ zT) (w3 : Cond.initialized "java/lang/Math" ∈ zT) (w4 : Cond.code Lib.MathLoose.max_long.x Lib.MathLoose.max_long.code 4 (some .long) ∈ zT) (hf : 1 ≤ M.2.2.2.2.1.frames) (hlo : (st.map fun v => v.category).sum + 15 ≤ M.2.2.2.2.1.locals) (hcs : k ≤ M.2.2.2.2.1.cells ∧ n ≤ M.2.2.2.2.1.slots) (hd : decode M.2.1 pc = .ok (.invokestatic i, 3))
    (kk : zj_J l G M W0 Φ k n WW lv (pc + 3) (.long (zr_mmaxlF x y) :: st)) : zj_J l G M W0 Φ k n WW lv pc (.long y :: .long x :: st) := by
  intro p e s m args below meth c H locs ls C hP hD hS hl
  exact va_mmax_long (own := M.1) C.1 C.2.1 (C.2.2.1.trans hl.1.1.symm) C.2.2.2.2.1 (C.2.2.2.2.2.1 _ w1) (C.2.2.2.2.2.1 _ w2) (C.2.2.2.2.2.1 _ w3) (C.2.2.2.2.2.1 _ w4) hf hlo hcs.1 hcs.2 hd (kk p e s m args below meth c H locs ls C hP hD hS hl)
theorem zr_eq {WW2 : List va_W} {lv2 : List (Option Value)} {st2 : List Value} (h1 : WW = WW2) (h2 : lv = lv2) (h3 : st = st2) (kk : zj_J l G M W0 Φ k n WW2 lv2 pc st2) : zj_J l G M W0 Φ k n WW lv pc st := by subst h1; subst h2; subst h3; exact kk
end
/-- a value named -/
def zlet {α β : Type} (x : α) (f : α → Option β) : Option β := f x
theorem zlet_of {α β : Type} {x : α} {f : α → Option β} {r : β} (h : zlet x f = some r) : ∃ y, x = y ∧ f y = some r := ⟨x, rfl, h⟩
theorem zck_of {β : Type} {b : Bool} {x : Option β} {r : β} (h : (if b = true then x else none) = some r) : b = true ∧ x = some r := by
  cases b with
  | true => exact ⟨rfl, by simpa using h⟩
  | false => simp at h
theorem zif_of {β : Type} {p : Prop} [Decidable p] {x y : Option β} {r : β} (h : (if p then x else y) = some r) : (p ∧ x = some r) ∨ (¬ p ∧ y = some r) := by
  by_cases hp : p
  · rw [if_pos hp] at h; exact Or.inl ⟨hp, h⟩
  · rw [if_neg hp] at h; exact Or.inr ⟨hp, h⟩
theorem zift {β : Type} {p : Prop} [Decidable p] {x y : Option β} {r : β} (h : (if p then x else y) = some r) (hp : p) : x = some r := by rw [if_pos hp] at h; exact h
theorem ziff {β : Type} {p : Prop} [Decidable p] {x y : Option β} {r : β} (h : (if p then x else y) = some r) (hp : ¬ p) : y = some r := by rw [if_neg hp] at h; exact h
theorem zbi_of {α β : Type} {o : Option α} {f : α → Option β} {r : β} (h : o.bind f = some r) : ∃ y, o = some y ∧ f y = some r := Option.bind_eq_some_iff.mp h
