theorem zf_I_loop (N : Nat) (hN : N < 65536) (v : Int32) : ∀ (n i : Nat) (f : Nat → Int32), i ≤ N → N - i < n → f_J7_fill_53178_L5 N n f v (nI i) (nI N) = some (fun j => if i ≤ j ∧ j < N then v else f j) := by
  intro n
  induction n with
  | zero => intro i f _ h; omega
  | succ n ih =>
    intro i f hi hn
    show f_J7_fill_53178_H5 N f (f_J7_fill_53178_L5 N n) v (nI i) (nI N) = _
    unfold f_J7_fill_53178_H5
    by_cases h : i < N
    · have hin : zb_in (nI i) N = true := by
        simp only [zb_in, Bool.and_eq_true, decide_eq_true_eq, nI_clamp (show i < 2 ^ 31 by omega)]
        exact ⟨nI_pos (by omega), h⟩
      rw [if_pos (nI_lt h (by omega)), if_pos hin]
      simp only [zlet]
      rw [← nI_succ, ih (i + 1) _ (by omega) (by omega)]
      congr 1
      funext j
      rw [nI_clamp (show i < 2 ^ 31 by omega)]
      by_cases hj : j = i
      · subst hj; simp [upd, h]
      · by_cases hj2 : i ≤ j ∧ j < N
        · rw [if_pos hj2, if_pos ⟨by omega, hj2.2⟩]
        · rw [if_neg hj2, if_neg (by omega)]; simp [upd, hj]
    · have e : i = N := by omega
      subst e
      rw [if_neg (by exact fun q => absurd q (nI_nlt (Nat.le_refl _) (by omega)))]
      congr 1
      funext j
      rw [if_neg (by omega)]
theorem zf_I (N : Nat) (hN : N ≤ 60000) (f : Nat → Int32) (v : Int32) : f_J7_fill_53178 N f v = some (zr_fill N f v) := by
  unfold f_J7_fill_53178
  have := zf_I_loop N (by omega) v zFU 0 f (Nat.zero_le _) (by unfold zFU; omega)
  rw [show (nI 0) = (0 : Int32) from nI_0] at this
  rw [this]
  congr 1
  funext j
  simp [zr_fill]
theorem zr_fillI {l : Launch} {G : zj_G} {M : zj_M} {W0 : List va_W} {Φ : zj_F} {k n : Nat} {WW : List va_W} {lv : List (Option Value)} {pc : Nat} {st : List Value} {b c' a a' N i : Nat} {cA : ClassId} {f : Nat → Int32} {v : Int32} (hc : zj_c WW b c' = some (a', .inl (cA, N, .inl f))) (ha : a = a') (hA : cA = G.2.1 1) (hN : N ≤ 60000) (w1 : Cond.methodLink M.1 i yJ7_fill_53178 ∈ zT) (w2 : Cond.static yJ7_fill_53178 ∈ zT) (w4 : Cond.initialized yJ7_fill_53178.cls ∈ zT) (w5 : Cond.code yJ7_fill_53178 M_J7_fill_53178.2.1 M_J7_fill_53178.2.2.1 M_J7_fill_53178.2.2.2.1 ∈ zT)
    (hrm : zj_rm M.2.2.2.2.1 M_J7_fill_53178 = true) (hcat : (st.map fun v => v.category).sum ≤ 8) (hcs : k ≤ M.2.2.2.2.1.cells ∧ n ≤ M.2.2.2.2.1.slots) (hd : decode M.2.1 pc = .ok (.invokestatic i, 3)) (kk : zj_J l G M W0 Φ k n (zj_set WW b c' (a', .inl (cA, N, .inl (zr_fill N f v)))) lv (pc + 3) st) : zj_J l G M W0 Φ k n WW lv pc (.int v :: .ref a :: st) := by
  subst ha; subst hA
  exact zr_cellS (c_J7_fill_53178 l G (fun _ => a) N f v _ (zf_I N hN f v)) hc (st := st) (st' := st) rfl rfl nm_J7_fill_53178 w1 w2 w4 w5 hrm hcat hcs hd kk

theorem zf_J_loop (N : Nat) (hN : N < 65536) (v : Int64) : ∀ (n i : Nat) (f : Nat → Int64), i ≤ N → N - i < n → f_J7_fill_d0a16_L6 N n f v (nI i) (nI N) = some (fun j => if i ≤ j ∧ j < N then v else f j) := by
  intro n
  induction n with
  | zero => intro i f _ h; omega
  | succ n ih =>
    intro i f hi hn
    show f_J7_fill_d0a16_H6 N f (f_J7_fill_d0a16_L6 N n) v (nI i) (nI N) = _
    unfold f_J7_fill_d0a16_H6
    by_cases h : i < N
    · have hin : zb_in (nI i) N = true := by
        simp only [zb_in, Bool.and_eq_true, decide_eq_true_eq, nI_clamp (show i < 2 ^ 31 by omega)]
        exact ⟨nI_pos (by omega), h⟩
      rw [if_pos (nI_lt h (by omega)), if_pos hin]
      simp only [zlet]
      rw [← nI_succ, ih (i + 1) _ (by omega) (by omega)]
      congr 1
      funext j
      rw [nI_clamp (show i < 2 ^ 31 by omega)]
      by_cases hj : j = i
      · subst hj; simp [vp_updL, h]
      · by_cases hj2 : i ≤ j ∧ j < N
        · rw [if_pos hj2, if_pos ⟨by omega, hj2.2⟩]
        · rw [if_neg hj2, if_neg (by omega)]; simp [vp_updL, hj]
    · have e : i = N := by omega
      subst e
      rw [if_neg (by exact fun q => absurd q (nI_nlt (Nat.le_refl _) (by omega)))]
      congr 1
      funext j
      rw [if_neg (by omega)]
theorem zf_J (N : Nat) (hN : N ≤ 60000) (f : Nat → Int64) (v : Int64) : f_J7_fill_d0a16 N f v = some (zr_fill N f v) := by
  unfold f_J7_fill_d0a16
  have := zf_J_loop N (by omega) v zFU 0 f (Nat.zero_le _) (by unfold zFU; omega)
  rw [show (nI 0) = (0 : Int32) from nI_0] at this
  rw [this]
  congr 1
  funext j
  simp [zr_fill]
theorem zr_fillJ {l : Launch} {G : zj_G} {M : zj_M} {W0 : List va_W} {Φ : zj_F} {k n : Nat} {WW : List va_W} {lv : List (Option Value)} {pc : Nat} {st : List Value} {b c' a a' N i : Nat} {cA : ClassId} {f : Nat → Int64} {v : Int64} (hc : zj_c WW b c' = some (a', .inl (cA, N, .inr (.inl f)))) (ha : a = a') (hA : cA = G.2.1 2) (hN : N ≤ 60000) (w1 : Cond.methodLink M.1 i yJ7_fill_d0a16 ∈ zT) (w2 : Cond.static yJ7_fill_d0a16 ∈ zT) (w4 : Cond.initialized yJ7_fill_d0a16.cls ∈ zT) (w5 : Cond.code yJ7_fill_d0a16 M_J7_fill_d0a16.2.1 M_J7_fill_d0a16.2.2.1 M_J7_fill_d0a16.2.2.2.1 ∈ zT)
    (hrm : zj_rm M.2.2.2.2.1 M_J7_fill_d0a16 = true) (hcat : (st.map fun v => v.category).sum ≤ 8) (hcs : k ≤ M.2.2.2.2.1.cells ∧ n ≤ M.2.2.2.2.1.slots) (hd : decode M.2.1 pc = .ok (.invokestatic i, 3)) (kk : zj_J l G M W0 Φ k n (zj_set WW b c' (a', .inl (cA, N, .inr (.inl (zr_fill N f v))))) lv (pc + 3) st) : zj_J l G M W0 Φ k n WW lv pc (.long v :: .ref a :: st) := by
  subst ha; subst hA
  exact zr_cellS (c_J7_fill_d0a16 l G (fun _ => a) N f v _ (zf_J N hN f v)) hc (st := st) (st' := st) rfl rfl nm_J7_fill_d0a16 w1 w2 w4 w5 hrm hcat hcs hd kk

theorem zf_B_loop (N : Nat) (hN : N < 65536) (v : Int32) : ∀ (n i : Nat) (f : Nat → Int32), i ≤ N → N - i < n → f_J7_fill_031fb_L5 N n f v (nI i) (nI N) = some (fun j => if i ≤ j ∧ j < N then (vp_nar .byte v) else f j) := by
  intro n
  induction n with
  | zero => intro i f _ h; omega
  | succ n ih =>
    intro i f hi hn
    show f_J7_fill_031fb_H5 N f (f_J7_fill_031fb_L5 N n) v (nI i) (nI N) = _
    unfold f_J7_fill_031fb_H5
    by_cases h : i < N
    · have hin : zb_in (nI i) N = true := by
        simp only [zb_in, Bool.and_eq_true, decide_eq_true_eq, nI_clamp (show i < 2 ^ 31 by omega)]
        exact ⟨nI_pos (by omega), h⟩
      rw [if_pos (nI_lt h (by omega)), if_pos hin]
      simp only [zlet]
      rw [← nI_succ, ih (i + 1) _ (by omega) (by omega)]
      congr 1
      funext j
      rw [nI_clamp (show i < 2 ^ 31 by omega)]
      by_cases hj : j = i
      · subst hj; simp [upd, h]
      · by_cases hj2 : i ≤ j ∧ j < N
        · rw [if_pos hj2, if_pos ⟨by omega, hj2.2⟩]
        · rw [if_neg hj2, if_neg (by omega)]; simp [upd, hj]
    · have e : i = N := by omega
      subst e
      rw [if_neg (by exact fun q => absurd q (nI_nlt (Nat.le_refl _) (by omega)))]
      congr 1
      funext j
      rw [if_neg (by omega)]
theorem zf_B (N : Nat) (hN : N ≤ 60000) (f : Nat → Int32) (v : Int32) : f_J7_fill_031fb N f v = some (zr_fill N f (vp_nar .byte v)) := by
  unfold f_J7_fill_031fb
  have := zf_B_loop N (by omega) v zFU 0 f (Nat.zero_le _) (by unfold zFU; omega)
  rw [show (nI 0) = (0 : Int32) from nI_0] at this
  rw [this]
  congr 1
  funext j
  simp [zr_fill]
theorem zr_fillB {l : Launch} {G : zj_G} {M : zj_M} {W0 : List va_W} {Φ : zj_F} {k n : Nat} {WW : List va_W} {lv : List (Option Value)} {pc : Nat} {st : List Value} {b c' a a' N i : Nat} {cA : ClassId} {f : Nat → Int32} {v : Int32} (hc : zj_c WW b c' = some (a', .inl (cA, N, .inl f))) (ha : a = a') (hA : cA = G.2.1 0) (hN : N ≤ 60000) (w1 : Cond.methodLink M.1 i yJ7_fill_031fb ∈ zT) (w2 : Cond.static yJ7_fill_031fb ∈ zT) (w4 : Cond.initialized yJ7_fill_031fb.cls ∈ zT) (w5 : Cond.code yJ7_fill_031fb M_J7_fill_031fb.2.1 M_J7_fill_031fb.2.2.1 M_J7_fill_031fb.2.2.2.1 ∈ zT)
    (hrm : zj_rm M.2.2.2.2.1 M_J7_fill_031fb = true) (hcat : (st.map fun v => v.category).sum ≤ 8) (hcs : k ≤ M.2.2.2.2.1.cells ∧ n ≤ M.2.2.2.2.1.slots) (hd : decode M.2.1 pc = .ok (.invokestatic i, 3)) (kk : zj_J l G M W0 Φ k n (zj_set WW b c' (a', .inl (cA, N, .inl (zr_fill N f (vp_nar .byte v))))) lv (pc + 3) st) : zj_J l G M W0 Φ k n WW lv pc (.int v :: .ref a :: st) := by
  subst ha; subst hA
  exact zr_cellS (c_J7_fill_031fb l G (fun _ => a) N f v _ (zf_B N hN f v)) hc (st := st) (st' := st) rfl rfl nm_J7_fill_031fb w1 w2 w4 w5 hrm hcat hcs hd kk
