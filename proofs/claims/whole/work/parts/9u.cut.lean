/-! CUT: the call -/
section
variable {D : pD} {L : LdT} {M : MoT}
/-- all sets of n roads from t on -/
theorem pm_cut_sets (hv : pV D) (hm : pLm D (Mo_now M)) {a b n : Nat} (hn : n ≤ 4) (ha : a < pD_np D) (hb : b < pD_np D) (k30 : MoT → Int32 → Int32 → Int32 → Option (Int32 × MoT)) : ∀ (d : Nat) {t fu : Nat}, t + d = 2 ^ pD_nr D → d + 1 ≤ fu →
    (f_X12_cut_L38 k30 fu M (zn a) (zn b) (zn n) (zn t) = k30 M (zn a) (zn b) (zn (n + 1)) ∧ ∀ u, t ≤ u → u < 2 ^ pD_nr D → ¬ (pOf D u = n ∧ pSp D a b u)) ∨ ∃ u, t ≤ u ∧ u < 2 ^ pD_nr D ∧ pOf D u = n ∧ pSp D a b u ∧ (∀ v, t ≤ v → v < u → ¬ (pOf D v = n ∧ pSp D a b v)) ∧ f_X12_cut_L38 k30 fu M (zn a) (zn b) (zn n) (zn t) = some (zn n, Mo_s_cutting M (zn u)) := by
  have hnr := hv.nr
  have h16 : 2 ^ pD_nr D ≤ 2 ^ 16 := Nat.pow_le_pow_right (by omega) hnr
  intro d
  induction d with
  | zero =>
    intro t fu h1 h2
    cases fu with
    | zero => omega
    | succ fu =>
      refine Or.inl ⟨?_, fun u u1 u2 => by omega⟩
      show f_X12_cut_H38 M k30 (f_X12_cut_L38 k30 fu) (zn a) (zn b) (zn n) (zn t) = _
      unfold f_X12_cut_H38
      rw [show Mo_now M (1 : Int32).toNatClampNeg = zn (pD_nr D) from hm.1.2.1, zn_shl1 (by omega), if_neg (by rw [zn_lt (by omega) (by omega)]; omega), show zn n + 1 = zn (n + 1) from zn_add n 1]
  | succ d ih =>
    intro t fu h1 h2
    cases fu with
    | zero => omega
    | succ fu =>
      have ht : t < 2 ^ pD_nr D := by omega
      have hof : pOf D t ≤ 16 := by
        have : pOf D t ≤ pD_nr D * 1 := pSu_bd 1 _ (fun _ _ _ => Nat.le_refl _)
        omega
      have e : f_X12_cut_L38 k30 (fu + 1) M (zn a) (zn b) (zn n) (zn t) = if pOf D t = n then (f_X12_leads M (zn a) (zn b) (zn t)).bind (fun q5 => if q5 = 0 then some (zn n, Mo_s_cutting M (zn t)) else f_X12_cut_L38 k30 fu M (zn a) (zn b) (zn n) (zn (t + 1))) else f_X12_cut_L38 k30 fu M (zn a) (zn b) (zn n) (zn (t + 1)) := by
        show f_X12_cut_H38 M k30 (f_X12_cut_L38 k30 fu) (zn a) (zn b) (zn n) (zn t) = _
        unfold f_X12_cut_H38 f_X12_cut_b82
        rw [show Mo_now M (1 : Int32).toNatClampNeg = zn (pD_nr D) from hm.1.2.1, zn_shl1 (by omega), if_pos (by rw [zn_lt (by omega) (by omega)]; exact ht), pm_bits hnr ht, ob_eq, show zn t + 1 = zn (t + 1) from zn_add t 1]
        simp only [zl_eq]
        exact ifn_eq (a := pOf D t) (b := n) (by omega) (by omega) _ _
      have next : ¬ (pOf D t = n ∧ pSp D a b t) → f_X12_cut_L38 k30 (fu + 1) M (zn a) (zn b) (zn n) (zn t) = f_X12_cut_L38 k30 fu M (zn a) (zn b) (zn n) (zn (t + 1)) → (f_X12_cut_L38 k30 (fu + 1) M (zn a) (zn b) (zn n) (zn t) = k30 M (zn a) (zn b) (zn (n + 1)) ∧ ∀ u, t ≤ u → u < 2 ^ pD_nr D → ¬ (pOf D u = n ∧ pSp D a b u)) ∨ ∃ u, t ≤ u ∧ u < 2 ^ pD_nr D ∧ pOf D u = n ∧ pSp D a b u ∧ (∀ v, t ≤ v → v < u → ¬ (pOf D v = n ∧ pSp D a b v)) ∧ f_X12_cut_L38 k30 (fu + 1) M (zn a) (zn b) (zn n) (zn t) = some (zn n, Mo_s_cutting M (zn u)) := by
        intro hno he
        rw [he]
        rcases ih (t := t + 1) (fu := fu) (by omega) (by omega) with ⟨i1, i2⟩ | ⟨u, u1, u2, u3, u4, u5, u6⟩
        · refine Or.inl ⟨i1, fun u u1 u2 => ?_⟩
          by_cases z : u = t
          · rw [z]; exact hno
          · exact i2 u (by omega) u2
        · refine Or.inr ⟨u, by omega, u2, u3, u4, fun v v1 v2 => ?_, u6⟩
          by_cases z : v = t
          · rw [z]; exact hno
          · exact u5 v (by omega) v2
      by_cases q : pOf D t = n
      · rcases pm_leads hv hm (t := t) (by omega) ha hb with ⟨l1, l2⟩ | ⟨l1, l2⟩
        · refine Or.inr ⟨t, Nat.le_refl _, ht, q, l2, fun v v1 v2 => by omega, ?_⟩
          rw [e, if_pos q, l1, ob_eq, if_pos rfl]
        · refine next (fun h => l2 h.2) ?_
          rw [e, if_pos q, l1, ob_eq, if_neg (show ¬ (1 : Int32) = 0 by decide)]
      · refine next (fun h => q h.1) ?_
        rw [e, if_neg q]
theorem pm_cut_all (hv : pV D) (hm : pLm D (Mo_now M)) {a b : Nat} (ha : a < pD_np D) (hb : b < pD_np D) : ∀ (d : Nat) {n fu : Nat}, n + d = 5 → d + 1 ≤ fu →
    (f_X12_cut_L30 fu M (zn a) (zn b) (zn n) = some (-1, M) ∧ ∀ k u, n ≤ k → k ≤ 4 → u < 2 ^ pD_nr D → ¬ (pOf D u = k ∧ pSp D a b u)) ∨ ∃ k u, n ≤ k ∧ k ≤ 4 ∧ u < 2 ^ pD_nr D ∧ pOf D u = k ∧ pSp D a b u ∧ (∀ v, v < u → ¬ (pOf D v = k ∧ pSp D a b v)) ∧ (∀ j v, n ≤ j → j < k → v < 2 ^ pD_nr D → ¬ (pOf D v = j ∧ pSp D a b v)) ∧ f_X12_cut_L30 fu M (zn a) (zn b) (zn n) = some (zn k, Mo_s_cutting M (zn u)) := by
  have hnr := hv.nr
  have h16 : 2 ^ pD_nr D ≤ 2 ^ 16 := Nat.pow_le_pow_right (by omega) hnr
  intro d
  induction d with
  | zero =>
    intro n fu h1 h2
    cases fu with
    | zero => omega
    | succ fu =>
      have e : n = 5 := by omega
      subst e
      refine Or.inl ⟨?_, fun k u k1 k2 => by omega⟩
      show f_X12_cut_H30 M (f_X12_cut_L30 fu) (zn a) (zn b) (zn 5) = _
      unfold f_X12_cut_H30
      rw [if_pos (by decide)]
  | succ d ih =>
    intro n fu h1 h2
    cases fu with
    | zero => omega
    | succ fu =>
      have e : f_X12_cut_L30 (fu + 1) M (zn a) (zn b) (zn n) = f_X12_cut_L38 (f_X12_cut_L30 fu) zFU M (zn a) (zn b) (zn n) (zn 0) := by
        show f_X12_cut_H30 M (f_X12_cut_L30 fu) (zn a) (zn b) (zn n) = _
        unfold f_X12_cut_H30
        rw [if_neg (by rw [zn_l4, zn_lt (by omega) (by omega)]; omega)]; rfl
      rw [e]
      rcases pm_cut_sets hv hm (n := n) (by omega) ha hb (f_X12_cut_L30 fu) (2 ^ pD_nr D) (t := 0) (fu := zFU) (by omega) (zFU_ge (by omega)) with ⟨i1, i2⟩ | ⟨u, u1, u2, u3, u4, u5, u6⟩
      · rw [i1]
        rcases ih (n := n + 1) (fu := fu) (by omega) (by omega) with ⟨j1, j2⟩ | ⟨k, u, k1, k2, k3, k4, k5, k6, k7, k8⟩
        · refine Or.inl ⟨j1, fun k u k1 k2 k3 => ?_⟩
          by_cases z : k = n
          · rw [z]; exact i2 u (by omega) k3
          · exact j2 k u (by omega) k2 k3
        · refine Or.inr ⟨k, u, by omega, k2, k3, k4, k5, k6, fun j v j1 j2 j3 => ?_, k8⟩
          by_cases z : j = n
          · rw [z]; exact i2 v (by omega) j3
          · exact k7 j v (by omega) j2 j3
      · exact Or.inr ⟨n, u, Nat.le_refl _, by omega, u2, u3, u4, fun v v1 => u5 v (by omega) v1, fun j v j1 j2 => by omega, u6⟩
def pCut (C : CtT) (M : MoT) : Prop := Ct_latest C = Mo_cutting M
theorem q_cut (hv : pV D) (hc : pLc D L) (hm : pLm D (Mo_now M)) (X : XxT) {C : CtT} (h : Ct_latest C = Mo_cutting M) (x1 x2 : Int32) : ∃ r C' v, f_X11_cut X L C x1 x2 = some (r, C') ∧ f_X12_cut M x1 x2 = some (r, Mo_s_cutting (Mo_s_thrown M 0) v) ∧ Ct_latest C' = v := by
  have hm' : pLm D (Mo_now (Mo_s_thrown M 0)) := hm
  have hnp := hv.np
  have hnr := hv.nr
  have h16 : 2 ^ pD_nr D ≤ 2 ^ 16 := Nat.pow_le_pow_right (by omega) hnr
  have e0 : Mo_s_cutting (Mo_s_thrown M 0) (Mo_cutting M) = Mo_s_thrown M 0 := rfl
  have no : ∃ r C' v, some ((-1 : Int32), C) = some (r, C') ∧ some ((-1 : Int32), Mo_s_thrown M 0) = some (r, Mo_s_cutting (Mo_s_thrown M 0) v) ∧ Ct_latest C' = v := ⟨-1, C, Mo_cutting M, rfl, by rw [e0], h⟩
  unfold f_X11_cut f_X12_cut
  rw [zl_eq]
  rcases zn_lim x1 (pD_np D) (by omega) with h1 | ⟨a, rfl, ha⟩
  · rw [pc_hasPlace0 hc h1, ob_eq, if_pos rfl, pm_isPlace0 hv hm' h1, ob_eq, if_pos rfl]; exact no
  rw [pc_hasPlace1 hv hc ha, ob_eq, if_neg (show ¬ (1 : Int32) = 0 by decide), pm_isPlace1 hv hm' ha, ob_eq, if_neg (show ¬ (1 : Int32) = 0 by decide)]
  rcases zn_lim x2 (pD_np D) (by omega) with h2 | ⟨b, rfl, hb⟩
  · rw [pc_hasPlace0 hc h2, ob_eq, if_pos rfl, pm_isPlace0 hv hm' h2, ob_eq, if_pos rfl]; exact no
  rw [pc_hasPlace1 hv hc hb, ob_eq, if_neg (show ¬ (1 : Int32) = 0 by decide), pm_isPlace1 hv hm' hb, ob_eq, if_neg (show ¬ (1 : Int32) = 0 by decide)]
  rw [ifn_eq (by omega) (by omega), ifn_eq (by omega) (by omega)]
  by_cases q : a = b
  · rw [if_pos q, if_pos q]; exact no
  rw [if_neg q, if_neg q]
  obtain ⟨C', hp⟩ := pc_part hv hc ha hb (fun e => q e.symm) C
  have hr := pm_cut_all hv hm' ha hb 5 (n := 0) (fu := zFU) (by omega) (zFU_ge (by omega))
  rw [show (0 : Int32) = zn 0 from rfl] at hr ⊢
  rcases hp with ⟨p1, p2, p3⟩ | ⟨n, T, n4, p1, p2, p3, p4, p5⟩
  · rcases hr with ⟨r1, r2⟩ | ⟨k, u, k1, k2, k3, k4, k5, k6, k7, k8⟩
    · rw [p1, r1, ob_eq]
      exact ⟨-1, C', Mo_cutting M, rfl, by rw [show Mo_s_cutting (Mo_s_thrown M (zn 0)) (Mo_cutting M) = Mo_s_thrown M (zn 0) from rfl], p2.trans h⟩
    · have := p3 u k5; omega
  · rcases hr with ⟨r1, r2⟩ | ⟨k, u, k1, k2, k3, k4, k5, k6, k7, k8⟩
    · exact absurd ⟨p3.2.2, p3.2.1⟩ (r2 n T (by omega) n4 p3.1)
    · have e1 : k = n := by
        have a1 := p5 u k5
        by_cases z : n < k
        · exact absurd ⟨p3.2.2, p3.2.1⟩ (k7 n T (by omega) z p3.1)
        · omega
      have e2 : u = T := by
        have a1 := p4 u ⟨k3, k5, by omega⟩
        by_cases z : T < u
        · exact absurd ⟨by rw [e1]; exact p3.2.2, p3.2.1⟩ (k6 T z)
        · omega
      rw [p1, k8, ob_eq, e1, e2]
      exact ⟨_, C', _, rfl, rfl, p2⟩
end
