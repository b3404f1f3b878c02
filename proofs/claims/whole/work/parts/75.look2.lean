theorem zn_out {x : Int32} {lo hi k : Nat} (h : x < zn lo ∨ zn hi < x) (h1 : lo ≤ k) (h2 : k ≤ hi) (h3 : hi < 2147483648) : ¬ x = zn k := by
  rintro rfl
  rcases h with h | h
  · rw [zn_lt (by omega) (by omega)] at h; omega
  · rw [zn_lt (by omega) (by omega)] at h; omega
section
variable {D : pD} {L : LdT} {M : MoT} {F : pF} {K : FkT}
/-! who is how -/
theorem q_who_loop (hv : pV D) (hK : pFc D F K) (hF : pFm D F (Mo_now M)) (hm : pLm D (Mo_now M)) (st : Int32) : ∀ (d : Nat) {k fu : Nat} (acc : Int32), k + d = pD_nm D → d + 1 ≤ fu → ∃ r, f_X1_menWho_L5 K fu (zn (pD_nm D)) st acc (zn k) = some r ∧ f_X12_those_L4 M fu st acc (zn k) = some r
  | d, k, 0, acc, h1, h2 => by omega
  | 0, k, fu + 1, acc, h1, h2 => by
    have hnm := hv.nm
    show ∃ r, f_X1_menWho_H5 K (f_X1_menWho_L5 K fu) (zn (pD_nm D)) st acc (zn k) = some r ∧ f_X12_those_H4 M (f_X12_those_L4 M fu) st acc (zn k) = some r
    unfold f_X1_menWho_H5 f_X12_those_H4
    rw [show Mo_now M (2 : Int32).toNatClampNeg = zn (pD_nm D) from hm.1.2.2.1]
    have e : ¬ zn k < zn (pD_nm D) := by rw [zn_lt (by omega) (by omega)]; omega
    rw [if_neg e, if_neg e]
    exact ⟨_, rfl, rfl⟩
  | d + 1, k, fu + 1, acc, h1, h2 => by
    have hnm := hv.nm
    have hk : k < pD_nm D := by omega
    show ∃ r, f_X1_menWho_H5 K (f_X1_menWho_L5 K fu) (zn (pD_nm D)) st acc (zn k) = some r ∧ f_X12_those_H4 M (f_X12_those_L4 M fu) st acc (zn k) = some r
    unfold f_X1_menWho_H5 f_X12_those_H4 f_X1_menWho_b29 f_X12_those_b34
    rw [show Mo_now M (2 : Int32).toNatClampNeg = zn (pD_nm D) from hm.1.2.2.1]
    have e : zn k < zn (pD_nm D) := by rw [zn_lt (by omega) (by omega)]; omega
    rw [if_pos e, if_pos e, pc_of0 hv hK hk, ob_eq]
    simp (disch := omega) only [zn_l444, zn_add, zb_zn, zn_nat, if_true, hF.g0 hk]
    rw [show zn k + 1 = zn (k + 1) from zn_add k 1]
    by_cases q : zn (pF_o F k 0) = st
    · rw [if_pos q, if_pos q]; exact q_who_loop hv hK hF hm st d _ (by omega) (by omega)
    · rw [if_neg q, if_neg q]; exact q_who_loop hv hK hF hm st d _ (by omega) (by omega)
theorem q_who (hv : pV D) (hK : pFc D F K) (hF : pFm D F (Mo_now M)) (hm : pLm D (Mo_now M)) (st : Int32) : ∃ r, f_X1_menWho K (zn (pD_nm D)) st = some r ∧ f_X12_those M st = some r :=
  q_who_loop hv hK hF hm st (pD_nm D) (k := 0) 0 (by omega) (zFU_ge (by have := hv.nm; omega))
theorem q_at_loop (hv : pV D) (hK : pFc D F K) (M : MoT) {w : Nat → Int32} (hF : pFm D F w) (hm : pLm D w) (hV : pFv D F) (s : Int32) (p : Nat) (hp : p < 2147483648) : ∀ (d : Nat) {k fu : Nat} (acc a b : Int32), k + d = pD_nm D → d + 1 ≤ fu → ∃ r a' b', f_X1_menAt_L5 K fu (zn (pD_nm D)) (zn p) acc (zn k) = some r ∧ f_X12_place_L94 fu (pM M w s a b) (zn p) acc (zn k) = some (r, pM M w s a' b')
  | d, k, 0, acc, a, b, h1, h2 => by omega
  | 0, k, fu + 1, acc, a, b, h1, h2 => by
    have hnm := hv.nm
    show ∃ r a' b', f_X1_menAt_H5 K (f_X1_menAt_L5 K fu) (zn (pD_nm D)) (zn p) acc (zn k) = some r ∧ f_X12_place_H94 (pM M w s a b) (f_X12_place_L94 fu) (zn p) acc (zn k) = some (r, pM M w s a' b')
    unfold f_X1_menAt_H5 f_X12_place_H94
    rw [pM_now, show w (2 : Int32).toNatClampNeg = zn (pD_nm D) from hm.1.2.2.1]
    have e : ¬ zn k < zn (pD_nm D) := by rw [zn_lt (by omega) (by omega)]; omega
    rw [if_neg e, if_neg e]
    exact ⟨_, _, _, rfl, rfl⟩
  | d + 1, k, fu + 1, acc, a, b, h1, h2 => by
    have hnm := hv.nm
    have hk : k < pD_nm D := by omega
    have hMv := hV.2 k hk
    obtain ⟨a1, b1, hpl⟩ := pm_placeOf hv M hm hF s a b hk hMv
    have h13 : pF_o F k 13 < 2147483648 ∨ pF_o F k 0 > 2 := by
      by_cases q0 : pF_o F k 0 = 0
      · left; rw [(hMv.2.2.2.2.1 q0).2.2.2]; omega
      · by_cases q1 : pF_o F k 0 = 1
        · left; have := ((hMv.mt q1).pos hv).2.2.2.2.1; omega
        · by_cases q2 : pF_o F k 0 = 2
          · left; rw [(hMv.2.2.2.2.2.2 q2).2]; omega
          · right; omega
    have hju : f_X1_isJustAt K (zn k) (zn p) = some (if pF_o F k 0 ≤ 2 ∧ pF_o F k 13 = 0 ∧ zn (pF_o F k 12) = zn p then 1 else 0) := by
      rcases h13 with h13 | h13
      · exact pc_isJustAt hv hK hk hMv.1.1 h13
      · unfold f_X1_isJustAt f_X1_isJustAt_b35
        rw [show f_X1_of K (zn k) 0 = some (zn (pF_o F k 0)) from pc_of0 hv hK hk, ob_eq, if_pos (show (2 : Int32) < zn (pF_o F k 0) by have := hMv.1.1; rw [zn_l2, zn_lt (by omega) (by omega)]; omega), if_neg (by omega)]
    show ∃ r a' b', f_X1_menAt_H5 K (f_X1_menAt_L5 K fu) (zn (pD_nm D)) (zn p) acc (zn k) = some r ∧ f_X12_place_H94 (pM M w s a b) (f_X12_place_L94 fu) (zn p) acc (zn k) = some (r, pM M w s a' b')
    unfold f_X1_menAt_H5 f_X12_place_H94 f_X1_menAt_b28 f_X12_place_b122
    rw [pM_now, show w (2 : Int32).toNatClampNeg = zn (pD_nm D) from hm.1.2.2.1]
    have e : zn k < zn (pD_nm D) := by rw [zn_lt (by omega) (by omega)]; omega
    rw [if_pos e, if_pos e, hju, ob_eq, hpl, ob_eq, show zn k + 1 = zn (k + 1) from zn_add k 1]
    simp only
    by_cases q : pF_o F k 0 ≤ 2 ∧ pF_o F k 13 = 0 ∧ zn (pF_o F k 12) = zn p
    · have e2 : pPlace F k = zn p := by unfold pPlace; rw [if_pos ⟨q.1, q.2.1⟩]; exact q.2.2
      simp only [if_pos q, if_neg (show ¬ (1 : Int32) = 0 by decide), if_pos e2]
      exact q_at_loop hv hK M hF hm hV s p hp d _ a1 b1 (by omega) (by omega)
    · simp only [if_neg q, if_true]
      by_cases e2 : pPlace F k = zn p
      · exfalso
        unfold pPlace at e2
        by_cases z : pF_o F k 0 ≤ 2 ∧ pF_o F k 13 = 0
        · rw [if_pos z] at e2; exact q ⟨z.1, z.2, e2⟩
        · rw [if_neg z] at e2
          exact (zm_eq' hp).mp e2
      · rw [if_neg e2]
        exact q_at_loop hv hK M hF hm hV s p hp d _ a1 b1 (by omega) (by omega)
end
