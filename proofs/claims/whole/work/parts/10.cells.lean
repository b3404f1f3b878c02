/-! rows that speak of one cell of a bundle: its length; a static call with the cell alone -/
section
variable {l : Launch} {G : zj_G} {M : zj_M} {W0 : List va_W} {Φ : zj_F} {k n : Nat} {WW : List va_W} {lv : List (Option Value)} {pc : Nat} {st stk st' : List Value}
theorem zr_alenI {b c' a a' N : Nat} {cA : ClassId} {f : Nat → Int32} (hc : zj_c WW b c' = some (a', .inl (cA, N, .inl f))) (ha : a = a') (hA : cA = G.2.1 1) (hd : decode M.2.1 pc = .ok (.arraylength, 1)) (kk : zj_J l G M W0 Φ k n WW lv (pc + 1) (.int (nI N) :: st)) : zj_J l G M W0 Φ k n WW lv pc (.ref a :: st) := by
  intro p e s m args below meth c H locs ls C hP hD hS hl
  subst ha
  exact va_alen C.1 C.2.1 C.2.2.2.2.2.2.1.K hP (zj_off WW b + c') 1 (zj_flat_at WW b c' hc) (by rw [hA]; rfl) rfl hd (kk p e s m args below meth c H locs ls C hP hD hS hl)
theorem zr_alenJ {b c' a a' N : Nat} {cA : ClassId} {f : Nat → Int64} (hc : zj_c WW b c' = some (a', .inl (cA, N, .inr (.inl f)))) (ha : a = a') (hA : cA = G.2.1 2) (hd : decode M.2.1 pc = .ok (.arraylength, 1)) (kk : zj_J l G M W0 Φ k n WW lv (pc + 1) (.int (nI N) :: st)) : zj_J l G M W0 Φ k n WW lv pc (.ref a :: st) := by
  intro p e s m args below meth c H locs ls C hP hD hS hl
  subst ha
  exact va_alen C.1 C.2.1 C.2.2.2.2.2.2.1.K hP (zj_off WW b + c') 2 (zj_flat_at WW b c' hc) (by rw [hA]; rfl) rfl hd (kk p e s m args below meth c H locs ls C hP hD hS hl)
theorem zr_alenB {b c' a a' N : Nat} {cA : ClassId} {f : Nat → Int32} (hc : zj_c WW b c' = some (a', .inl (cA, N, .inl f))) (ha : a = a') (hA : cA = G.2.1 0) (hd : decode M.2.1 pc = .ok (.arraylength, 1)) (kk : zj_J l G M W0 Φ k n WW lv (pc + 1) (.int (nI N) :: st)) : zj_J l G M W0 Φ k n WW lv pc (.ref a :: st) := by
  intro p e s m args below meth c H locs ls C hP hD hS hl
  subst ha
  exact va_alen C.1 C.2.1 C.2.2.2.2.2.2.1.K hP (zj_off WW b + c') 0 (zj_flat_at WW b c' hc) (by rw [hA]; rfl) rfl hd (kk p e s m args below meth c H locs ls C hP hD hS hl)
/-- the same cells in other bundles -/
theorem zr_group {WW2 : List va_W} (h : WW.flatten = WW2.flatten) (kk : zj_J l G M W0 Φ k n WW2 lv pc st) : zj_J l G M W0 Φ k n WW lv pc st := by
  intro p e s m args below meth c H locs ls C hP hD hS hl
  rw [h] at hP hD
  exact kk p e s m args below meth c H locs ls C hP hD hS hl
theorem zj_single (w : va_W) : (w.map fun q => [q]).flatten = w := by
  induction w with
  | nil => rfl
  | cons a l ih => simp [ih]
theorem zj_n_map {α β : Type} (f : α → β) : ∀ (l : List α) (n : Nat), zj_n (l.map f) n = (zj_n l n).map f
  | [], n => by simp [zj_n]
  | a :: l, 0 => by simp [zj_n]
  | a :: l, n + 1 => by simp [zj_n, zj_n_map f l n]
/-- a static call over one cell -/
theorem zr_cellS {MC : zj_M} {y : MethodName} {a' b c' : Nat} {e0 e1 : va_E} {rvC : Option Value} {As : List Value} {i : Nat} (hC : zj_C l G MC y [[(a', e0)]] As rvC (fun _ => [[(a', e1)]])) (hc : zj_c WW b c' = some (a', e0))
    (hstk : stk = As.reverse ++ st) (hst : rvC.toList ++ st = st') (hy : zj_nm y As.length) (w1 : Cond.methodLink M.1 i y ∈ zT) (w2 : Cond.static y ∈ zT) (w4 : Cond.initialized y.cls ∈ zT) (w5 : Cond.code y MC.2.1 MC.2.2.1 MC.2.2.2.1 ∈ zT)
    (hrm : zj_rm M.2.2.2.2.1 MC = true) (hcat : (st.map fun v => v.category).sum ≤ 8) (hcs : k + MC.2.2.2.2.1.cells ≤ M.2.2.2.2.1.cells ∧ n + MC.2.2.2.2.1.slots ≤ M.2.2.2.2.1.slots)
    (hd : decode M.2.1 pc = .ok (.invokestatic i, 3)) (kk : zj_J l G M W0 Φ (k + MC.2.2.2.2.1.cells) (n + MC.2.2.2.2.1.slots) (zj_set WW b c' (a', e1)) lv (pc + 3) st') : zj_J l G M W0 Φ k n WW lv pc stk := by
  refine zr_group (WW2 := WW.flatten.map fun q => [q]) (zj_single _).symm ?_
  have hf := zj_flat_at WW b c' hc
  have hsel : [zj_off WW b + c'].map (zj_n (WW.flatten.map fun q => [q])) = [[(a', e0)]].map some := by
    show [zj_n _ _] = _
    rw [zj_n_map, zj_n_eq, hf]
    rfl
  refine zr_callS (WW' := fun _ => (WW.flatten.map fun q => [q]).set (zj_off WW b + c') [(a', e1)]) hC [zj_off WW b + c'] hsel (by simp [va_nd]) (fun _ => Nat.le_refl _) (fun _ => by simp [zj_rep]) hstk hst hy w1 w2 w4 w5 hrm hcat hcs hd (fun _ => ?_)
  refine zr_group (WW2 := zj_set WW b c' (a', e1)) ?_ kk
  rw [← zj_flat_set WW b c' _ hc]
  rw [show ([(a', e1)] : va_W) = (fun q => [q]) (a', e1) from rfl, ← List.map_set, zj_single]
end
