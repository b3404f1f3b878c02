/-! the call land -/
section
variable {M : MoT}
theorem zlt443 {i : Nat} (h : i < 1000) : (zn i < (443 : Int32)) = (i < 443) := by
  show (zn i < zn 443) = _
  rw [zn_lt (by omega) (by omega)]
theorem pm_land9 : ∀ (d : Nat) {k fu : Nat} {M : MoT}, k + d = 443 → d + 1 ≤ fu → (∀ j, j < k → Mo_read M j = 0) → ∃ w, f_X12_land_L9 fu M (zn k) = f_X12_land_L31 zFU (Mo_s_read M w) 0 ∧ ∀ j, j < 443 → w j = 0
  | d, k, 0, M, h1, h2, h3 => by omega
  | 0, k, fu + 1, M, h1, h2, h3 => by
    show ∃ w, f_X12_land_H9 M (f_X12_land_L9 fu) (zn k) = _ ∧ _
    unfold f_X12_land_H9
    rw [if_neg (by rw [zlt443 (by omega)]; omega)]
    exact ⟨Mo_read M, rfl, fun j hj => h3 j (by omega)⟩
  | d + 1, k, fu + 1, M, h1, h2, h3 => by
    show ∃ w, f_X12_land_H9 M (f_X12_land_L9 fu) (zn k) = _ ∧ _
    unfold f_X12_land_H9
    rw [if_pos (by rw [zlt443 (by omega)]; omega), zb_zn (by omega) (by omega), if_pos rfl, zl_eq, zn_nat (by omega), show zn k + 1 = zn (k + 1) from zn_add k 1]
    obtain ⟨w, e1, e2⟩ := pm_land9 d (k := k + 1) (fu := fu) (M := Mo_s_read M (upd (Mo_read M) k 0)) (by omega) (by omega) (fun j hj => by
      show upd (Mo_read M) k 0 j = 0
      by_cases q : j = k
      · rw [q, pu_eq]
      · rw [pu_ne _ _ q]; exact h3 j (by omega))
    exact ⟨w, e1, e2⟩
theorem pm_land71 (x1 : Int32) : ∀ (d : Nat) {k fu : Nat} {M : MoT}, k + d = 443 → d + 1 ≤ fu → f_X12_land_L71 fu M x1 (zn k) = f_X12_land_L98 zFU (Mo_s_now M (pCpy (Mo_now M) (Mo_read M) 0 0 k 443)) x1 0
  | d, k, 0, M, h1, h2 => by omega
  | 0, k, fu + 1, M, h1, h2 => by
    show f_X12_land_H71 M (f_X12_land_L71 fu) x1 (zn k) = _
    unfold f_X12_land_H71
    have e : k = 443 := by omega
    rw [if_neg (by rw [zlt443 (by omega)]; omega), e, pCpy_end, show Mo_s_now M (Mo_now M) = M from rfl]
  | d + 1, k, fu + 1, M, h1, h2 => by
    show f_X12_land_H71 M (f_X12_land_L71 fu) x1 (zn k) = _
    unfold f_X12_land_H71
    rw [if_pos (by rw [zlt443 (by omega)]; omega), zb_zn (show k < 443 by omega) (by omega), if_pos rfl, zb_zn (show k < 758 by omega) (by omega), if_pos rfl, zl_eq, zn_nat (by omega), show zn k + 1 = zn (k + 1) from zn_add k 1, pm_land71 x1 d (by omega) (by omega)]
    have e := pCpy_step (Mo_now M) (Mo_read M) (a := 0) (b := 0) (k := k) (n := 443) (by omega)
    rw [Nat.zero_add] at e
    rw [← e]; rfl
theorem pm_land98 (x1 : Int32) {T : Nat → Int64} : ∀ (d : Nat) {k fu : Nat} {M : MoT}, k + d = 16 → d + 1 ≤ fu → Mo_readName M = T → (∀ j, j < k → Mo_name M j = T j) → ∃ N, f_X12_land_L98 fu M x1 (zn k) = (f_X12_startSo (Mo_s_name M N)).bind (fun q11 => some (x1, Mo_s_snapMany q11 0)) ∧ ∀ j, j < 16 → N j = T j
  | d, k, 0, M, h1, h2, h3, h4 => by omega
  | 0, k, fu + 1, M, h1, h2, h3, h4 => by
    show ∃ N, f_X12_land_H98 M (f_X12_land_L98 fu) x1 (zn k) = _ ∧ _
    unfold f_X12_land_H98
    rw [if_neg (by rw [show (16 : Int32) = zn 16 from rfl, zn_lt (by omega) (by omega)]; omega)]
    exact ⟨Mo_name M, rfl, fun j hj => h4 j (by omega)⟩
  | d + 1, k, fu + 1, M, h1, h2, h3, h4 => by
    show ∃ N, f_X12_land_H98 M (f_X12_land_L98 fu) x1 (zn k) = _ ∧ _
    unfold f_X12_land_H98
    rw [if_pos (by rw [show (16 : Int32) = zn 16 from rfl, zn_lt (by omega) (by omega)]; omega), zb_zn (by omega) (by omega), if_pos rfl, if_pos rfl, zl_eq, zn_nat (by omega), show zn k + 1 = zn (k + 1) from zn_add k 1]
    obtain ⟨N, e1, e2⟩ := pm_land98 x1 (T := T) d (k := k + 1) (fu := fu) (M := Mo_s_name M (vp_updL (Mo_name M) k (Mo_readName M k))) (by omega) (by omega) h3 (fun j hj => by
      show vp_updL (Mo_name M) k (Mo_readName M k) j = T j
      by_cases q : j = k
      · rw [q, puL_eq, h3]
      · rw [puL_ne _ _ q]; exact h4 j (by omega))
    exact ⟨N, e1, e2⟩
theorem zlt758 {i : Nat} (h : i < 1000) : (zn i < (758 : Int32)) = (i < 758) := by
  show (zn i < zn 758) = _
  rw [zn_lt (by omega) (by omega)]
theorem pm_start4 {S : Nat → Int32} : ∀ (d : Nat) {k fu : Nat} {M : MoT}, 443 ≤ k → k + d = 758 → d + 1 ≤ fu → (∀ j, Mo_now M j = if 443 ≤ j ∧ j < k then 0 else S j) → ∃ w, f_X12_startSo_L4 fu M (zn k) = f_X12_startSo_L26 zFU (Mo_s_now M w) 0 ∧ ∀ j, w j = if 443 ≤ j ∧ j < 758 then 0 else S j
  | d, k, 0, M, h0, h1, h2, h3 => by omega
  | 0, k, fu + 1, M, h0, h1, h2, h3 => by
    show ∃ w, f_X12_startSo_H4 M (f_X12_startSo_L4 fu) (zn k) = _ ∧ _
    unfold f_X12_startSo_H4
    have e : k = 758 := by omega
    rw [if_neg (by rw [zlt758 (by omega)]; omega)]
    exact ⟨Mo_now M, rfl, fun j => by rw [h3 j, e]⟩
  | d + 1, k, fu + 1, M, h0, h1, h2, h3 => by
    show ∃ w, f_X12_startSo_H4 M (f_X12_startSo_L4 fu) (zn k) = _ ∧ _
    unfold f_X12_startSo_H4
    rw [if_pos (by rw [zlt758 (by omega)]; omega), zb_zn (by omega) (by omega), if_pos rfl, zl_eq, zn_nat (by omega), show zn k + 1 = zn (k + 1) from zn_add k 1]
    obtain ⟨w, e1, e2⟩ := pm_start4 (S := S) d (k := k + 1) (fu := fu) (M := Mo_s_now M (upd (Mo_now M) k 0)) (by omega) (by omega) (by omega) (fun j => by
      show upd (Mo_now M) k 0 j = _
      by_cases q : j = k
      · rw [q, pu_eq, if_pos (by omega)]
      · rw [pu_ne _ _ q, h3 j]
        by_cases q2 : 443 ≤ j ∧ j < k
        · rw [if_pos q2, if_pos (by omega)]
        · rw [if_neg q2, if_neg (by omega)])
    exact ⟨w, e1, e2⟩
/-- the men at the start, so far -/
def pSt (S w : Nat → Int32) (k : Nat) : Prop := ∀ j, w j = if 450 ≤ j ∧ j < 450 + k then S (j - 214) else if 462 ≤ j ∧ j < 462 + k then zm else if 468 ≤ j ∧ j < 468 + k then S (j - 244) else if 492 ≤ j ∧ j < 492 + k then S (j - 262) else if 443 ≤ j ∧ j < 758 then 0 else S j
theorem pm_start26 {S : Nat → Int32} : ∀ (d : Nat) {k fu : Nat} {M : MoT}, k + d = 6 → d + 1 ≤ fu → pSt S (Mo_now M) k → ∃ w, f_X12_startSo_L26 fu M (zn k) = some (Mo_s_now M w) ∧ pSt S w 6
  | d, k, 0, M, h1, h2, h3 => by omega
  | 0, k, fu + 1, M, h1, h2, h3 => by
    show ∃ w, f_X12_startSo_H26 M (f_X12_startSo_L26 fu) (zn k) = _ ∧ _
    unfold f_X12_startSo_H26
    have e : k = 6 := by omega
    subst e
    rw [if_neg (by decide)]
    exact ⟨Mo_now M, rfl, h3⟩
  | d + 1, k, fu + 1, M, h1, h2, h3 => by
    show ∃ w, f_X12_startSo_H26 M (f_X12_startSo_L26 fu) (zn k) = _ ∧ _
    unfold f_X12_startSo_H26
    have l : ∀ (c : Nat), zn c + zn k = zn (c + k) := fun c => zn_add c k
    rw [if_pos (by rw [zn_l6, zn_lt (by omega) (by omega)]; omega), show (236 : Int32) + zn k = zn (236 + k) from l 236, show (450 : Int32) + zn k = zn (450 + k) from l 450, show (462 : Int32) + zn k = zn (462 + k) from l 462, show (224 : Int32) + zn k = zn (224 + k) from l 224, show (468 : Int32) + zn k = zn (468 + k) from l 468, show (230 : Int32) + zn k = zn (230 + k) from l 230, show (492 : Int32) + zn k = zn (492 + k) from l 492, show zn k + 1 = zn (k + 1) from zn_add k 1]
    simp (disch := omega) only [zb_zn, zn_nat, if_true, zl_eq]
    obtain ⟨w, e1, e2⟩ := pm_start26 (S := S) d (k := k + 1) (fu := fu) (M := Mo_s_now M (upd (upd (upd (upd (Mo_now M) (450 + k) (S (236 + k))) (462 + k) zm) (468 + k) (S (224 + k))) (492 + k) (S (230 + k)))) (by omega) (by omega) (fun j => by
      show upd (upd (upd (upd (Mo_now M) (450 + k) (S (236 + k))) (462 + k) zm) (468 + k) (S (224 + k))) (492 + k) (S (230 + k)) j = _
      by_cases q1 : j = 492 + k
      · rw [q1, pu_eq, if_neg (by omega), if_neg (by omega), if_neg (by omega), if_pos (by omega)]; exact congrArg S (by omega)
      rw [pu_ne _ _ q1]
      by_cases q2 : j = 468 + k
      · rw [q2, pu_eq, if_neg (by omega), if_neg (by omega), if_pos (by omega)]; exact congrArg S (by omega)
      rw [pu_ne _ _ q2]
      by_cases q3 : j = 462 + k
      · rw [q3, pu_eq, if_neg (by omega), if_pos (by omega)]
      rw [pu_ne _ _ q3]
      by_cases q4 : j = 450 + k
      · rw [q4, pu_eq, if_pos (by omega)]; exact congrArg S (by omega)
      rw [pu_ne _ _ q4, h3 j]
      by_cases p1 : 450 ≤ j ∧ j < 450 + k
      · rw [if_pos p1, if_pos (by omega)]
      rw [if_neg p1, if_neg (show ¬ (450 ≤ j ∧ j < 450 + (k + 1)) by omega)]
      by_cases p2 : 462 ≤ j ∧ j < 462 + k
      · rw [if_pos p2, if_pos (by omega)]
      rw [if_neg p2, if_neg (show ¬ (462 ≤ j ∧ j < 462 + (k + 1)) by omega)]
      by_cases p3 : 468 ≤ j ∧ j < 468 + k
      · rw [if_pos p3, if_pos (by omega)]
      rw [if_neg p3, if_neg (show ¬ (468 ≤ j ∧ j < 468 + (k + 1)) by omega)]
      by_cases p4 : 492 ≤ j ∧ j < 492 + k
      · rw [if_pos p4, if_pos (by omega)]
      rw [if_neg p4, if_neg (show ¬ (492 ≤ j ∧ j < 492 + (k + 1)) by omega)])
    have s : ∀ j, j < 443 → Mo_now M j = S j := fun j hj => by
      rw [h3 j, if_neg (by omega), if_neg (by omega), if_neg (by omega), if_neg (by omega), if_neg (by omega)]
    refine ⟨w, ?_, e2⟩
    have st : Mo_s_now M (upd (upd (upd (upd (Mo_now M) (450 + k) (S (236 + k))) (462 + k) zm) (468 + k) (S (224 + k))) (492 + k) (S (230 + k))) = Mo_s_now (Mo_s_now (Mo_s_now (Mo_s_now M (upd (Mo_now M) (450 + k) (Mo_now M (236 + k)))) (upd (upd (Mo_now M) (450 + k) (Mo_now M (236 + k))) (462 + k) (-1))) (upd (upd (upd (Mo_now M) (450 + k) (Mo_now M (236 + k))) (462 + k) (-1)) (468 + k) (upd (upd (Mo_now M) (450 + k) (Mo_now M (236 + k))) (462 + k) (-1) (224 + k)))) (upd (upd (upd (upd (Mo_now M) (450 + k) (Mo_now M (236 + k))) (462 + k) (-1)) (468 + k) (upd (upd (Mo_now M) (450 + k) (Mo_now M (236 + k))) (462 + k) (-1) (224 + k))) (492 + k) (upd (upd (upd (Mo_now M) (450 + k) (Mo_now M (236 + k))) (462 + k) (-1)) (468 + k) (upd (upd (Mo_now M) (450 + k) (Mo_now M (236 + k))) (462 + k) (-1) (224 + k)) (230 + k))) := by
      rw [pu_ne (upd (Mo_now M) (450 + k) (Mo_now M (236 + k))) _ (show 224 + k ≠ 462 + k by omega), pu_ne (Mo_now M) _ (show 224 + k ≠ 450 + k by omega), pu_ne _ _ (show 230 + k ≠ 468 + k by omega), pu_ne _ _ (show 230 + k ≠ 462 + k by omega), pu_ne _ _ (show 230 + k ≠ 450 + k by omega), s _ (by omega), s _ (by omega), s _ (by omega)]
      rfl
    rw [st] at e1
    exact e1
theorem pm_startSo {S : Nat → Int32} (h : Mo_now M = S) : ∃ w, f_X12_startSo M = some (Mo_s_now M w) ∧ pSt S w 6 := by
  unfold f_X12_startSo
  obtain ⟨w1, e1, e2⟩ := pm_start4 (S := S) 315 (k := 443) (fu := zFU) (M := M) (by omega) (by omega) (zFU_ge (by omega)) (fun j => by rw [if_neg (by omega), h])
  obtain ⟨w2, g1, g2⟩ := pm_start26 (S := S) 6 (k := 0) (fu := zFU) (M := Mo_s_now M w1) (by omega) (zFU_ge (by omega)) (fun j => by
    show w1 j = _
    rw [e2 j, if_neg (show ¬ (450 ≤ j ∧ j < 450 + 0) by omega), if_neg (show ¬ (462 ≤ j ∧ j < 462 + 0) by omega), if_neg (show ¬ (468 ≤ j ∧ j < 468 + 0) by omega), if_neg (show ¬ (492 ≤ j ∧ j < 492 + 0) by omega)])
  have e1' : f_X12_startSo_L4 zFU M 443 = f_X12_startSo_L26 zFU (Mo_s_now M w1) 0 := e1
  have g1' : f_X12_startSo_L26 zFU (Mo_s_now M w1) 0 = some (Mo_s_now M w2) := g1
  exact ⟨w2, e1'.trans g1', g2⟩
end
/-- the men at the start -/
def pF1 (D : pD) : pF := (0, fun m i => if i = 1 then pD_me D m 2 else if i = 4 then pD_me D m 0 else if i = 8 then pD_me D m 1 else if i = 12 then pD_me D m 0 else 0)
theorem pF1_v {D : pD} (hv : pV D) : pFv D (pF1 D) := by
  refine ⟨Nat.zero_le _, fun m hm => ?_⟩
  obtain ⟨a1, a2, a3, a4, a5, a6⟩ := hv.me hm
  refine ⟨⟨Nat.zero_le _, ?_, Nat.zero_le _, a4⟩, ⟨a1, a2⟩, fun q => absurd rfl q, fun q => absurd rfl q, fun _ => ⟨rfl, rfl, rfl, rfl⟩, fun q => ?_, fun q => ?_⟩
  · show pD_me D m 2 ≤ 999; omega
  · have : (0 : Nat) = 1 := q
    omega
  · have : (0 : Nat) = 2 := q
    omega
theorem pF1_m {D : pD} {S w : Nat → Int32} (hv : pV D) (hm : pLm D S) (h : pSt S w 6) : pFm D (pF1 D) w ∧ pLm D w ∧ ∀ j, 516 ≤ j → j < 758 → w j = 0 := by
  have hnm := hv.nm
  have lo : ∀ j, j < 443 → w j = S j := fun j hj => by rw [h j, if_neg (by omega), if_neg (by omega), if_neg (by omega), if_neg (by omega), if_neg (by omega)]
  refine ⟨⟨?_, fun m i hm' hi => ?_⟩, ?_, fun j h1 h2 => ?_⟩
  · rw [h 443, if_neg (by omega), if_neg (by omega), if_neg (by omega), if_neg (by omega), if_pos (by omega)]; rfl
  · obtain ⟨a1, a2, a3⟩ := hm.2.2.2.1 m hm'
    rw [h _]
    show _ = pval i (if i = 1 then pD_me D m 2 else if i = 4 then pD_me D m 0 else if i = 8 then pD_me D m 1 else if i = 12 then pD_me D m 0 else 0)
    by_cases q1 : i = 1
    · subst q1
      rw [if_pos (by omega), if_pos rfl, show 444 + 6 * 1 + m - 214 = 236 + m by omega, a3]; rfl
    rw [if_neg (by omega), if_neg q1]
    by_cases q3 : i = 3
    · subst q3
      rw [if_pos (by omega)]; rfl
    rw [if_neg (by omega)]
    have pv : ∀ v, pval i v = zn v := fun v => by unfold pval; rw [if_neg q3]
    by_cases q4 : i = 4
    · subst q4
      rw [if_pos (by omega), if_pos rfl, show 444 + 6 * 4 + m - 244 = 224 + m by omega, a1, pv]
    rw [if_neg (by omega), if_neg q4]
    by_cases q8 : i = 8
    · subst q8
      rw [if_pos (by omega), if_pos rfl, show 444 + 6 * 8 + m - 262 = 230 + m by omega, a2, pv]
    rw [if_neg (by omega), if_neg q8, if_pos (by omega), if_neg (by omega), pv]; rfl
  · have hnp := hv.np
    have hnr := hv.nr
    obtain ⟨⟨b1, b2, b3, b4⟩, c, d, e, ⟨kb, k1, k2, k3⟩, f⟩ := hm
    refine ⟨⟨?_, ?_, ?_, ?_⟩, fun p hp => ?_, fun r hr => ?_, fun m hm' => ?_, ⟨kb, k1, ?_, k3⟩, fun a b ha hb => ?_⟩
    · rw [lo _ (by omega)]; exact b1
    · rw [lo _ (by omega)]; exact b2
    · rw [lo _ (by omega)]; exact b3
    · rw [lo _ (by omega)]; exact b4
    · rw [lo _ (by omega), lo _ (by omega), lo _ (by omega), lo _ (by omega)]; exact c p hp
    · rw [lo _ (by omega), lo _ (by omega), lo _ (by omega), lo _ (by omega), lo _ (by omega)]; exact d r hr
    · rw [lo _ (by omega), lo _ (by omega), lo _ (by omega)]; exact e m hm'
    · rw [lo _ (by omega)]; exact k2
    · rw [lo _ (by omega), lo _ (by omega), lo _ (by omega)]; exact f a b ha hb
  · rw [h j, if_neg (by omega), if_neg (by omega), if_neg (by omega), if_neg (by omega), if_pos (by omega)]
/-! the class settles -/
def pSc (D : pD) (K : FkT) (k : Nat) : Prop := Fk_day K = 0 ∧ ∀ m i, m < pD_nm D → i < 14 → i ≠ 6 → Fk_row K (m * 13 + pci i) = if m < k then pval i (pF_o (pF1 D) m i) else 0
theorem pc_settle15 {D : pD} {L : LdT} (hv : pV D) (hL : pLc D L) : ∀ (d : Nat) {k fu : Nat} {K : FkT}, k + d = pD_nm D → d + 1 ≤ fu → pSc D K k → ∃ K', f_X1_settle_L15 L fu K (zn k) = some K' ∧ pFc D (pF1 D) K'
  | d, k, 0, K, h1, h2, h3 => by omega
  | 0, k, fu + 1, K, h1, h2, h3 => by
    have hnm := hv.nm
    show ∃ K', f_X1_settle_H15 K L (f_X1_settle_L15 L fu) (zn k) = _ ∧ _
    unfold f_X1_settle_H15
    rw [if_neg (by rw [hL.1.2.2.1, zn_lt (by omega) (by omega)]; omega)]
    exact ⟨K, rfl, h3.1, fun m i hm hi h6 => by rw [h3.2 m i hm hi h6, if_pos (by omega)]⟩
  | d + 1, k, fu + 1, K, h1, h2, h3 => by
    have hnm := hv.nm
    have hk : k < pD_nm D := by omega
    have om : ∀ j, j < 4 → f_X3_ofMan L (zn k) (zn j) = some (zn (pD_me D k j)) := fun j hj => pc_ofMan hv hL hk hj
    have pt : ∀ (K : FkT) (c : Nat) (u : Int32), c < 13 → f_X1_put K (zn k) (zn c) u = some (Fk_s_row K (upd (Fk_row K) (k * 13 + c) u)) := fun K c u hc => pc_put (by omega) hc u
    show ∃ K', f_X1_settle_H15 K L (f_X1_settle_L15 L fu) (zn k) = _ ∧ _
    unfold f_X1_settle_H15
    rw [if_pos (by rw [hL.1.2.2.1, zn_lt (by omega) (by omega)]; omega), show f_X1_put K (zn k) 0 0 = _ from pt K 0 0 (by omega), ob_eq, show f_X3_ofMan L (zn k) 2 = _ from om 2 (by omega), ob_eq]
    simp only [show ∀ K u, f_X1_put K (zn k) 1 u = some (Fk_s_row K (upd (Fk_row K) (k * 13 + 1) u)) from fun K u => pt K 1 u (by omega), show ∀ K u, f_X1_put K (zn k) 3 u = some (Fk_s_row K (upd (Fk_row K) (k * 13 + 3) u)) from fun K u => pt K 3 u (by omega), show ∀ K u, f_X1_put K (zn k) 4 u = some (Fk_s_row K (upd (Fk_row K) (k * 13 + 4) u)) from fun K u => pt K 4 u (by omega), show ∀ K u, f_X1_put K (zn k) 11 u = some (Fk_s_row K (upd (Fk_row K) (k * 13 + 11) u)) from fun K u => pt K 11 u (by omega), show ∀ K u, f_X1_put K (zn k) 7 u = some (Fk_s_row K (upd (Fk_row K) (k * 13 + 7) u)) from fun K u => pt K 7 u (by omega), ob_eq, show f_X3_ofMan L (zn k) 0 = _ from om 0 (by omega), show f_X3_ofMan L (zn k) 1 = _ from om 1 (by omega)]
    rw [show zn k + 1 = zn (k + 1) from zn_add k 1]
    refine pc_settle15 hv hL d (k := k + 1) (fu := fu) (by omega) (by omega) ⟨h3.1, fun m i hm hi h6 => ?_⟩
    show upd (upd (upd (upd (upd (upd (Fk_row K) (k * 13 + 0) 0) (k * 13 + 1) (zn (pD_me D k 2))) (k * 13 + 3) (-1)) (k * 13 + 4) (zn (pD_me D k 0))) (k * 13 + 11) (zn (pD_me D k 0))) (k * 13 + 7) (zn (pD_me D k 1)) (m * 13 + pci i) = _
    have hp := pci_lt hi
    by_cases q : m = k
    · subst q
      rw [if_pos (by omega)]
      have h3' := h3.2 m i hm hi h6
      rw [if_neg (by omega)] at h3'
      show _ = pval i (if i = 1 then pD_me D m 2 else if i = 4 then pD_me D m 0 else if i = 8 then pD_me D m 1 else if i = 12 then pD_me D m 0 else 0)
      have pv : i ≠ 3 → ∀ v, pval i v = zn v := fun q3 v => by unfold pval; rw [if_neg q3]
      have pe : pci i = if i ≤ 5 then i else i - 1 := rfl
      by_cases q8 : i = 8
      · subst q8
        rw [show m * 13 + pci 8 = m * 13 + 7 from rfl, pu_eq, pv (by omega)]; rfl
      have hi8 : pci i ≠ 7 := by rw [pe]; split <;> omega
      rw [pu_ne _ _ (by omega)]
      by_cases q12 : i = 12
      · subst q12
        rw [show m * 13 + pci 12 = m * 13 + 11 from rfl, pu_eq, pv (by omega)]; rfl
      have hi12 : pci i ≠ 11 := by rw [pe]; split <;> omega
      rw [pu_ne _ _ (by omega)]
      by_cases q4 : i = 4
      · subst q4
        rw [show m * 13 + pci 4 = m * 13 + 4 from rfl, pu_eq, pv (by omega)]; rfl
      have hi4 : pci i ≠ 4 := by rw [pe]; split <;> omega
      rw [pu_ne _ _ (by omega)]
      by_cases q3 : i = 3
      · subst q3
        rw [show m * 13 + pci 3 = m * 13 + 3 from rfl, pu_eq]; rfl
      have hi3 : pci i ≠ 3 := by rw [pe]; split <;> omega
      rw [pu_ne _ _ (by omega)]
      by_cases q1 : i = 1
      · subst q1
        rw [show m * 13 + pci 1 = m * 13 + 1 from rfl, pu_eq, pv (by omega)]; rfl
      have hi1 : pci i ≠ 1 := by rw [pe]; split <;> omega
      rw [pu_ne _ _ (by omega), if_neg q1, if_neg q4, if_neg q8, if_neg q12, pv q3]
      by_cases q0 : pci i = 0
      · rw [q0, pu_eq]; rfl
      · rw [pu_ne _ _ (by omega), h3']; rfl
    · rw [pu_ne _ _ (by omega), pu_ne _ _ (by omega), pu_ne _ _ (by omega), pu_ne _ _ (by omega), pu_ne _ _ (by omega), pu_ne _ _ (by omega), h3.2 m i hm hi h6]
      by_cases q2 : m < k
      · rw [if_pos q2, if_pos (by omega)]
      · rw [if_neg q2, if_neg (by omega)]
theorem pc_settle {D : pD} {L : LdT} (hv : pV D) (hL : pLc D L) (K : FkT) : ∃ K', f_X1_settle K L = some K' ∧ pFc D (pF1 D) K' := by
  have hnm := hv.nm
  unfold f_X1_settle
  rw [zl_eq, zl_eq]
  refine pc_settle15 hv hL (pD_nm D) (k := 0) (fu := zFU) (by omega) (zFU_ge (by omega)) ⟨rfl, fun m i hm hi h6 => ?_⟩
  rw [if_neg (by omega)]
  show zr_fill 78 (Fk_row K) 0 (m * 13 + pci i) = 0
  have := pci_lt hi
  unfold zr_fill
  rw [if_pos (by omega)]
