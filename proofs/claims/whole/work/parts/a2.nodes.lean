/-! SENTENCES: the reference's nodes -/
/-- node k of the row nd says d of a man -/
def pNd (D : pD) (nd : Nat → Int32) : Nat → Nat → (pF → Nat → Bool) → Prop
  | 0, _, _ => False
  | h + 1, k, d => k < 60 ∧ (
      (∃ w s v v1 v2, 15 ≤ w ∧ w ≤ 27 ∧ s < 128 ∧ v < 1000 ∧ nd (4 * k) = zn (50 + w) ∧ nd (4 * k + 1) = zn v1 ∧ nd (4 * k + 2) = zn v2 ∧ nd (4 * k + 3) = zn s ∧ (w = 22 ∨ w = 23 → v1 = v) ∧ (24 ≤ w → v2 = v) ∧ ∀ F m, d F m = pLf D F m w s v) ∨
      (∃ x d1, x < k ∧ nd (4 * k) = zn 1 ∧ nd (4 * k + 1) = zn x ∧ pNd D nd h x d1 ∧ ∀ F m, d F m = !d1 F m) ∨
      (∃ x y d1 d2, x < k ∧ y < k ∧ nd (4 * k) = zn 2 ∧ nd (4 * k + 1) = zn x ∧ nd (4 * k + 2) = zn y ∧ pNd D nd h x d1 ∧ pNd D nd h y d2 ∧ ∀ F m, d F m = (d1 F m && d2 F m)) ∨
      (∃ x y d1 d2, x < k ∧ y < k ∧ nd (4 * k) = zn 3 ∧ nd (4 * k + 1) = zn x ∧ nd (4 * k + 2) = zn y ∧ pNd D nd h x d1 ∧ pNd D nd h y d2 ∧ ∀ F m, d F m = (d1 F m || d2 F m)))
theorem pNd_up {D : pD} {nd : Nat → Int32} : ∀ {h h' k : Nat} {d : pF → Nat → Bool}, h ≤ h' → pNd D nd h k d → pNd D nd h' k d
  | 0, h', k, d, _, hn => hn.elim
  | h + 1, 0, k, d, q, _ => by omega
  | h + 1, h' + 1, k, d, q, hn => by
    obtain ⟨h60, hn⟩ := hn
    refine ⟨h60, ?_⟩
    rcases hn with hn | ⟨x, d1, a1, a2, a3, a4, a5⟩ | ⟨x, y, d1, d2, a1, a2, a3, a4, a5, a6, a7, a8⟩ | ⟨x, y, d1, d2, a1, a2, a3, a4, a5, a6, a7, a8⟩
    · exact Or.inl hn
    · exact Or.inr (Or.inl ⟨x, d1, a1, a2, a3, pNd_up (by omega) a4, a5⟩)
    · exact Or.inr (Or.inr (Or.inl ⟨x, y, d1, d2, a1, a2, a3, a4, a5, pNd_up (by omega) a6, pNd_up (by omega) a7, a8⟩))
    · exact Or.inr (Or.inr (Or.inr ⟨x, y, d1, d2, a1, a2, a3, a4, a5, pNd_up (by omega) a6, pNd_up (by omega) a7, a8⟩))
/-- only what stands at the node and below counts -/
theorem pNd_cg {D : pD} {nd nd' : Nat → Int32} : ∀ {h k : Nat} {d : pF → Nat → Bool}, (∀ j, j < 4 * k + 4 → nd' j = nd j) → pNd D nd h k d → pNd D nd' h k d
  | 0, k, d, _, hn => hn.elim
  | h + 1, k, d, e, hn => by
    obtain ⟨h60, hn⟩ := hn
    refine ⟨h60, ?_⟩
    rw [e (4 * k) (by omega), e (4 * k + 1) (by omega), e (4 * k + 2) (by omega), e (4 * k + 3) (by omega)]
    rcases hn with hn | ⟨x, d1, a1, a2, a3, a4, a5⟩ | ⟨x, y, d1, d2, a1, a2, a3, a4, a5, a6, a7, a8⟩ | ⟨x, y, d1, d2, a1, a2, a3, a4, a5, a6, a7, a8⟩
    · exact Or.inl hn
    · exact Or.inr (Or.inl ⟨x, d1, a1, a2, a3, pNd_cg (fun j hj => e j (by omega)) a4, a5⟩)
    · exact Or.inr (Or.inr (Or.inl ⟨x, y, d1, d2, a1, a2, a3, a4, a5, pNd_cg (fun j hj => e j (by omega)) a6, pNd_cg (fun j hj => e j (by omega)) a7, a8⟩))
    · exact Or.inr (Or.inr (Or.inr ⟨x, y, d1, d2, a1, a2, a3, a4, a5, pNd_cg (fun j hj => e j (by omega)) a6, pNd_cg (fun j hj => e j (by omega)) a7, a8⟩))
section
variable {D : pD} {F : pF}
theorem pm_compare (R : MoT → Int32 → Int32 → Option (Int32 × MoT)) (S : MoT) {k s n v : Nat} (hk : k < 60) (hs : s < 128) (h3 : Mo_now S (518 + 4 * k + 3) = zn s) : f_B_X12_holds_b356 R S (zn (518 + 4 * k)) (zn v) (zn n) = some (if pCmp n s v = true then 1 else 0, S) := by
  unfold f_B_X12_holds_b356 pCmp
  simp only [zn_l3, zn_add, zb_zn (show 518 + 4 * k + 3 < 758 by omega) (show 518 + 4 * k + 3 < 2147483648 by omega), if_true, zn_nat (show 518 + 4 * k + 3 < 2147483648 by omega), h3, zn_l60, zn_l61, zn_eq (show s < 2147483648 by omega) (show 60 < 2147483648 by omega), zn_eq (show s < 2147483648 by omega) (show 61 < 2147483648 by omega)]
  by_cases q : s = 60
  · rw [if_pos q, if_pos q]
    by_cases z : zn n < zn v <;> simp [z]
  · rw [if_neg q, if_neg q]
    by_cases q2 : s = 61
    · rw [if_pos q2, if_pos q2]
      by_cases z : zn n = zn v <;> simp [z]
    · rw [if_neg q2, if_neg q2]
      by_cases z : zn v < zn n <;> simp [z]
theorem pm_holds (hv : pV D) {nd : Nat → Int32} {w : Nat → Int32} (hL : pLm D w) (hF : pFm D F w) (hV : pFv D F) (hw : ∀ j, j < 240 → w (518 + j) = nd j) (M : MoT) (s : Int32) {m : Nat} (hm : m < pD_nm D) : ∀ (h : Nat) {g k : Nat} {d : pF → Nat → Bool} (a b : Int32), pNd D nd h k d → h ≤ g →
    ∃ a' b', fG_X12_holds g (pM M w s a b) (zn k) (zn m) = some (if d F m = true then 1 else 0, pM M w s a' b') := by
  have hnm := hv.nm
  have hMv := hV.2 m hm
  have h05 := hMv.1.1
  intro h
  induction h with
  | zero => intro g k d a b hn; exact hn.elim
  | succ h ih =>
    intro g k d a b hn hg
    cases g with
    | zero => omega
    | succ g =>
      obtain ⟨h60, hn⟩ := hn
      have e0 := hw (4 * k) (by omega)
      have e1 := hw (4 * k + 1) (by omega)
      have e2 := hw (4 * k + 2) (by omega)
      have e3 := hw (4 * k + 3) (by omega)
      rw [← Nat.add_assoc] at e1 e2 e3
      rcases hn with ⟨o, s', v, v1, v2, o1, o2, hs', hv1000, n0, n1, n2, n3, hv1, hv2, hd⟩ | ⟨x, d1, a1, n0, n1, a4, hd⟩ | ⟨x, y, d1, d2, a1, a2, n0, n1, n2, a6, a7, hd⟩ | ⟨x, y, d1, d2, a1, a2, n0, n1, n2, a6, a7, hd⟩
      · rw [n0] at e0
        rw [n1] at e1
        rw [n2] at e2
        rw [n3] at e3
        have hcmp := fun n => pm_compare (fG_X12_holds g) (pM M w s a b) (n := n) (v := v) h60 hs' (by rw [pM_now]; exact e3)
        have ho : o = 15 ∨ o = 16 ∨ o = 17 ∨ o = 18 ∨ o = 19 ∨ o = 20 ∨ o = 21 ∨ o = 22 ∨ o = 23 ∨ o = 24 ∨ o = 25 ∨ o = 26 ∨ o = 27 := by omega
        rw [hd F m]
        show ∃ a' b', f_B_X12_holds (fG_X12_holds g) (pM M w s a b) (zn k) (zn m) = _
        unfold f_B_X12_holds f_B_X12_holds_b180 f_B_X12_holds_b202
        simp only [zn_l518, zn_l4, zn_mul, zn_add, pM_now, zl_eq, zb_zn (show 518 + 4 * k < 758 by omega) (show 518 + 4 * k < 2147483648 by omega), if_true, zn_nat (show 518 + 4 * k < 2147483648 by omega), e0]
        rw [show zn (518 + 4 * k) + (1 : Int32) = zn (518 + 4 * k + 1) from zn_add _ 1, show zn (518 + 4 * k) + (2 : Int32) = zn (518 + 4 * k + 2) from zn_add _ 2, zb_zn (show 518 + 4 * k + 1 < 758 by omega) (by omega), zb_zn (show 518 + 4 * k + 2 < 758 by omega) (by omega), if_pos rfl, if_pos rfl, zn_nat (by omega), zn_nat (by omega), e1, e2]
        simp only [zn_l444, zn_l450, zn_l462, zn_l510, zn_add, zb_zn (show 444 + m < 758 by omega) (show 444 + m < 2147483648 by omega), zb_zn (show 450 + m < 758 by omega) (show 450 + m < 2147483648 by omega), zb_zn (show 462 + m < 758 by omega) (show 462 + m < 2147483648 by omega), zb_zn (show 510 + m < 758 by omega) (show 510 + m < 2147483648 by omega), if_true, zn_nat (show 444 + m < 2147483648 by omega), zn_nat (show 450 + m < 2147483648 by omega), zn_nat (show 462 + m < 2147483648 by omega), zn_nat (show 510 + m < 2147483648 by omega), hF.g0 hm, hF.g1 hm, hF.g3 hm, hF.g11 hm]
        rcases ho with rfl | rfl | rfl | rfl | rfl | rfl | rfl | rfl | rfl | rfl | rfl | rfl | rfl
        · refine ⟨a, b, ?_⟩
          rw [if_neg (show ¬ zn (50 + 15) = (1 : Int32) by decide), if_neg (show ¬ zn (50 + 15) = (2 : Int32) by decide), if_neg (show ¬ zn (50 + 15) = (3 : Int32) by decide), if_pos (show zn (50 + 15) = (65 : Int32) by decide), show zn (50 + 15) - (50 : Int32) - (15 : Int32) = zn 0 by decide, show pLf D F m 15 s' v = decide (zn (pF_o F m 0) = zn 0) from rfl]
          by_cases z : zn (pF_o F m 0) = zn 0 <;> simp [z]
        · refine ⟨a, b, ?_⟩
          rw [if_neg (show ¬ zn (50 + 16) = (1 : Int32) by decide), if_neg (show ¬ zn (50 + 16) = (2 : Int32) by decide), if_neg (show ¬ zn (50 + 16) = (3 : Int32) by decide), if_neg (show ¬ zn (50 + 16) = (65 : Int32) by decide), if_pos (show zn (50 + 16) = (66 : Int32) by decide), show zn (50 + 16) - (50 : Int32) - (15 : Int32) = zn 1 by decide, show pLf D F m 16 s' v = decide (zn (pF_o F m 0) = zn 1) from rfl]
          by_cases z : zn (pF_o F m 0) = zn 1 <;> simp [z]
        · refine ⟨a, b, ?_⟩
          rw [if_neg (show ¬ zn (50 + 17) = (1 : Int32) by decide), if_neg (show ¬ zn (50 + 17) = (2 : Int32) by decide), if_neg (show ¬ zn (50 + 17) = (3 : Int32) by decide), if_neg (show ¬ zn (50 + 17) = (65 : Int32) by decide), if_neg (show ¬ zn (50 + 17) = (66 : Int32) by decide), if_pos (show zn (50 + 17) = (67 : Int32) by decide), show zn (50 + 17) - (50 : Int32) - (15 : Int32) = zn 2 by decide, show pLf D F m 17 s' v = decide (zn (pF_o F m 0) = zn 2) from rfl]
          by_cases z : zn (pF_o F m 0) = zn 2 <;> simp [z]
        · refine ⟨a, b, ?_⟩
          rw [if_neg (show ¬ zn (50 + 18) = (1 : Int32) by decide), if_neg (show ¬ zn (50 + 18) = (2 : Int32) by decide), if_neg (show ¬ zn (50 + 18) = (3 : Int32) by decide), if_neg (show ¬ zn (50 + 18) = (65 : Int32) by decide), if_neg (show ¬ zn (50 + 18) = (66 : Int32) by decide), if_neg (show ¬ zn (50 + 18) = (67 : Int32) by decide), if_pos (show zn (50 + 18) = (68 : Int32) by decide), show zn (50 + 18) - (50 : Int32) - (15 : Int32) = zn 3 by decide, show pLf D F m 18 s' v = decide (zn (pF_o F m 0) = zn 3) from rfl]
          by_cases z : zn (pF_o F m 0) = zn 3 <;> simp [z]
        · refine ⟨a, b, ?_⟩
          rw [if_neg (show ¬ zn (50 + 19) = (1 : Int32) by decide), if_neg (show ¬ zn (50 + 19) = (2 : Int32) by decide), if_neg (show ¬ zn (50 + 19) = (3 : Int32) by decide), if_neg (show ¬ zn (50 + 19) = (65 : Int32) by decide), if_neg (show ¬ zn (50 + 19) = (66 : Int32) by decide), if_neg (show ¬ zn (50 + 19) = (67 : Int32) by decide), if_neg (show ¬ zn (50 + 19) = (68 : Int32) by decide), if_pos (show zn (50 + 19) = (69 : Int32) by decide), show zn (50 + 19) - (50 : Int32) - (15 : Int32) = zn 4 by decide, show pLf D F m 19 s' v = decide (zn (pF_o F m 0) = zn 4) from rfl]
          by_cases z : zn (pF_o F m 0) = zn 4 <;> simp [z]
        · refine ⟨a, b, ?_⟩
          rw [if_neg (show ¬ zn (50 + 20) = (1 : Int32) by decide), if_neg (show ¬ zn (50 + 20) = (2 : Int32) by decide), if_neg (show ¬ zn (50 + 20) = (3 : Int32) by decide), if_neg (show ¬ zn (50 + 20) = (65 : Int32) by decide), if_neg (show ¬ zn (50 + 20) = (66 : Int32) by decide), if_neg (show ¬ zn (50 + 20) = (67 : Int32) by decide), if_neg (show ¬ zn (50 + 20) = (68 : Int32) by decide), if_neg (show ¬ zn (50 + 20) = (69 : Int32) by decide), if_pos (show zn (50 + 20) = (70 : Int32) by decide), show zn (50 + 20) - (50 : Int32) - (15 : Int32) = zn 5 by decide, show pLf D F m 20 s' v = decide (zn (pF_o F m 0) = zn 5) from rfl]
          by_cases z : zn (pF_o F m 0) = zn 5 <;> simp [z]
        · refine ⟨a, b, ?_⟩
          rw [if_neg (show ¬ zn (50 + 21) = (1 : Int32) by decide), if_neg (show ¬ zn (50 + 21) = (2 : Int32) by decide), if_neg (show ¬ zn (50 + 21) = (3 : Int32) by decide), if_neg (show ¬ zn (50 + 21) = (65 : Int32) by decide), if_neg (show ¬ zn (50 + 21) = (66 : Int32) by decide), if_neg (show ¬ zn (50 + 21) = (67 : Int32) by decide), if_neg (show ¬ zn (50 + 21) = (68 : Int32) by decide), if_neg (show ¬ zn (50 + 21) = (69 : Int32) by decide), if_neg (show ¬ zn (50 + 21) = (70 : Int32) by decide), if_pos (show zn (50 + 21) = (71 : Int32) by decide), show (242 : Int32).toNatClampNeg = 242 from rfl, pm_kin hv hL hm, ob_eq, zb_bo_ite, if_pos rfl, show pLf D F m 21 s' v = decide (pD_me D m 3 = 1) from rfl]
          simp only [decide_eq_true_eq]
        · refine ⟨a, b, ?_⟩
          rw [if_neg (show ¬ zn (50 + 22) = (1 : Int32) by decide), if_neg (show ¬ zn (50 + 22) = (2 : Int32) by decide), if_neg (show ¬ zn (50 + 22) = (3 : Int32) by decide), if_neg (show ¬ zn (50 + 22) = (65 : Int32) by decide), if_neg (show ¬ zn (50 + 22) = (66 : Int32) by decide), if_neg (show ¬ zn (50 + 22) = (67 : Int32) by decide), if_neg (show ¬ zn (50 + 22) = (68 : Int32) by decide), if_neg (show ¬ zn (50 + 22) = (69 : Int32) by decide), if_neg (show ¬ zn (50 + 22) = (70 : Int32) by decide), if_neg (show ¬ zn (50 + 22) = (71 : Int32) by decide), if_pos (show zn (50 + 22) = (72 : Int32) by decide), show pLf D F m 22 s' v = decide (zo (pF_o F m 3) = zn v) from rfl, hv1 (Or.inl rfl)]
          by_cases z : zo (pF_o F m 3) = zn v <;> simp [z]
        · obtain ⟨a1, b1, hpl⟩ := pm_placeOf hv M hL hF s a b hm hMv
          refine ⟨a1, b1, ?_⟩
          rw [if_neg (show ¬ zn (50 + 23) = (1 : Int32) by decide), if_neg (show ¬ zn (50 + 23) = (2 : Int32) by decide), if_neg (show ¬ zn (50 + 23) = (3 : Int32) by decide), if_neg (show ¬ zn (50 + 23) = (65 : Int32) by decide), if_neg (show ¬ zn (50 + 23) = (66 : Int32) by decide), if_neg (show ¬ zn (50 + 23) = (67 : Int32) by decide), if_neg (show ¬ zn (50 + 23) = (68 : Int32) by decide), if_neg (show ¬ zn (50 + 23) = (69 : Int32) by decide), if_neg (show ¬ zn (50 + 23) = (70 : Int32) by decide), if_neg (show ¬ zn (50 + 23) = (71 : Int32) by decide), if_neg (show ¬ zn (50 + 23) = (72 : Int32) by decide), if_pos (show zn (50 + 23) = (73 : Int32) by decide), hpl, ob_eq, show pLf D F m 23 s' v = decide (pF_o F m 0 ≤ 2 ∧ pF_o F m 13 = 0 ∧ zn (pF_o F m 12) = zn v) from rfl, hv1 (Or.inr rfl)]
          simp only [decide_eq_true_eq]
          unfold pPlace
          by_cases z : pF_o F m 0 ≤ 2 ∧ pF_o F m 13 = 0
          · rw [if_pos z]
            by_cases y : zn (pF_o F m 12) = zn v
            · rw [if_pos y, if_pos ⟨z.1, z.2, y⟩]
            · rw [if_neg y, if_neg (fun q => y q.2.2)]
          · rw [if_neg z, if_neg (show ¬ zm = zn v from fun q => (zm_eq' (by omega)).mp q), if_neg (fun q => z ⟨q.1, q.2.1⟩)]
        · refine ⟨a, b, ?_⟩
          rw [if_neg (show ¬ zn (50 + 24) = (1 : Int32) by decide), if_neg (show ¬ zn (50 + 24) = (2 : Int32) by decide), if_neg (show ¬ zn (50 + 24) = (3 : Int32) by decide), if_neg (show ¬ zn (50 + 24) = (65 : Int32) by decide), if_neg (show ¬ zn (50 + 24) = (66 : Int32) by decide), if_neg (show ¬ zn (50 + 24) = (67 : Int32) by decide), if_neg (show ¬ zn (50 + 24) = (68 : Int32) by decide), if_neg (show ¬ zn (50 + 24) = (69 : Int32) by decide), if_neg (show ¬ zn (50 + 24) = (70 : Int32) by decide), if_neg (show ¬ zn (50 + 24) = (71 : Int32) by decide), if_neg (show ¬ zn (50 + 24) = (72 : Int32) by decide), if_neg (show ¬ zn (50 + 24) = (73 : Int32) by decide), show zn (50 + 24) - (50 : Int32) = zn 24 by decide, if_pos (show zn 24 = (24 : Int32) from rfl), hv2 (by omega), hcmp]
          rfl
        · refine ⟨a, b, ?_⟩
          have e : f_X12_daysOf (pM M w s a b) (zn m) = some (zn (if pF_o F m 0 = 1 then pF_o F m 7 else 0)) := by
            rw [pm_daysOf hv (by rw [pM_now]; exact hF) hm h05]; split <;> rfl
          rw [if_neg (show ¬ zn (50 + 25) = (1 : Int32) by decide), if_neg (show ¬ zn (50 + 25) = (2 : Int32) by decide), if_neg (show ¬ zn (50 + 25) = (3 : Int32) by decide), if_neg (show ¬ zn (50 + 25) = (65 : Int32) by decide), if_neg (show ¬ zn (50 + 25) = (66 : Int32) by decide), if_neg (show ¬ zn (50 + 25) = (67 : Int32) by decide), if_neg (show ¬ zn (50 + 25) = (68 : Int32) by decide), if_neg (show ¬ zn (50 + 25) = (69 : Int32) by decide), if_neg (show ¬ zn (50 + 25) = (70 : Int32) by decide), if_neg (show ¬ zn (50 + 25) = (71 : Int32) by decide), if_neg (show ¬ zn (50 + 25) = (72 : Int32) by decide), if_neg (show ¬ zn (50 + 25) = (73 : Int32) by decide), show zn (50 + 25) - (50 : Int32) = zn 25 by decide, if_neg (show ¬ zn 25 = (24 : Int32) by decide), if_pos (show zn 25 = (25 : Int32) from rfl), e, ob_eq, hv2 (by omega), hcmp]
          rfl
        · refine ⟨a, b, ?_⟩
          rw [if_neg (show ¬ zn (50 + 26) = (1 : Int32) by decide), if_neg (show ¬ zn (50 + 26) = (2 : Int32) by decide), if_neg (show ¬ zn (50 + 26) = (3 : Int32) by decide), if_neg (show ¬ zn (50 + 26) = (65 : Int32) by decide), if_neg (show ¬ zn (50 + 26) = (66 : Int32) by decide), if_neg (show ¬ zn (50 + 26) = (67 : Int32) by decide), if_neg (show ¬ zn (50 + 26) = (68 : Int32) by decide), if_neg (show ¬ zn (50 + 26) = (69 : Int32) by decide), if_neg (show ¬ zn (50 + 26) = (70 : Int32) by decide), if_neg (show ¬ zn (50 + 26) = (71 : Int32) by decide), if_neg (show ¬ zn (50 + 26) = (72 : Int32) by decide), if_neg (show ¬ zn (50 + 26) = (73 : Int32) by decide), show zn (50 + 26) - (50 : Int32) = zn 26 by decide, if_neg (show ¬ zn 26 = (24 : Int32) by decide), if_neg (show ¬ zn 26 = (25 : Int32) by decide), if_pos (show zn 26 = (26 : Int32) from rfl), hv2 (by omega), hcmp]
          rfl
        · refine ⟨a, b, ?_⟩
          rw [if_neg (show ¬ zn (50 + 27) = (1 : Int32) by decide), if_neg (show ¬ zn (50 + 27) = (2 : Int32) by decide), if_neg (show ¬ zn (50 + 27) = (3 : Int32) by decide), if_neg (show ¬ zn (50 + 27) = (65 : Int32) by decide), if_neg (show ¬ zn (50 + 27) = (66 : Int32) by decide), if_neg (show ¬ zn (50 + 27) = (67 : Int32) by decide), if_neg (show ¬ zn (50 + 27) = (68 : Int32) by decide), if_neg (show ¬ zn (50 + 27) = (69 : Int32) by decide), if_neg (show ¬ zn (50 + 27) = (70 : Int32) by decide), if_neg (show ¬ zn (50 + 27) = (71 : Int32) by decide), if_neg (show ¬ zn (50 + 27) = (72 : Int32) by decide), if_neg (show ¬ zn (50 + 27) = (73 : Int32) by decide), show zn (50 + 27) - (50 : Int32) = zn 27 by decide, if_neg (show ¬ zn 27 = (24 : Int32) by decide), if_neg (show ¬ zn 27 = (25 : Int32) by decide), if_neg (show ¬ zn 27 = (26 : Int32) by decide), hv2 (by omega), hcmp]
          rfl
      · rw [n0] at e0
        rw [n1] at e1
        obtain ⟨a', b', r⟩ := ih (g := g) a b a4 (by omega)
        refine ⟨a', b', ?_⟩
        rw [hd F m]
        show f_B_X12_holds (fG_X12_holds g) (pM M w s a b) (zn k) (zn m) = _
        unfold f_B_X12_holds
        simp only [zn_l518, zn_l4, zn_mul, zn_add, pM_now, zl_eq, zb_zn (show 518 + 4 * k < 758 by omega) (show 518 + 4 * k < 2147483648 by omega), if_true, zn_nat (show 518 + 4 * k < 2147483648 by omega), e0]
        rw [show zn (518 + 4 * k) + (1 : Int32) = zn (518 + 4 * k + 1) from zn_add _ 1, show zn (518 + 4 * k) + (2 : Int32) = zn (518 + 4 * k + 2) from zn_add _ 2, zb_zn (show 518 + 4 * k + 1 < 758 by omega) (by omega), zb_zn (show 518 + 4 * k + 2 < 758 by omega) (by omega), if_pos rfl, if_pos rfl, zn_nat (by omega), e1, if_pos (show zn 1 = (1 : Int32) from rfl), r, ob_eq]
        cases d1 F m <;> rfl
      · rw [n0] at e0
        rw [n1] at e1
        rw [n2] at e2
        obtain ⟨a', b', r⟩ := ih (g := g) a b a6 (by omega)
        obtain ⟨a2', b2', r2⟩ := ih (g := g) a' b' a7 (by omega)
        rw [hd F m]
        show ∃ a' b', f_B_X12_holds (fG_X12_holds g) (pM M w s a b) (zn k) (zn m) = _
        unfold f_B_X12_holds f_B_X12_holds_b180
        simp only [zn_l518, zn_l4, zn_mul, zn_add, pM_now, zl_eq, zb_zn (show 518 + 4 * k < 758 by omega) (show 518 + 4 * k < 2147483648 by omega), if_true, zn_nat (show 518 + 4 * k < 2147483648 by omega), e0]
        rw [show zn (518 + 4 * k) + (1 : Int32) = zn (518 + 4 * k + 1) from zn_add _ 1, show zn (518 + 4 * k) + (2 : Int32) = zn (518 + 4 * k + 2) from zn_add _ 2, zb_zn (show 518 + 4 * k + 1 < 758 by omega) (by omega), zb_zn (show 518 + 4 * k + 2 < 758 by omega) (by omega), if_pos rfl, if_pos rfl, zn_nat (by omega), zn_nat (by omega), e1, e2, if_neg (show ¬ zn 2 = (1 : Int32) by decide), if_pos (show zn 2 = (2 : Int32) from rfl), r, ob_eq]
        cases q1 : d1 F m
        · exact ⟨a', b', rfl⟩
        · refine ⟨a2', b2', ?_⟩
          rw [show (if (if true = true then (1 : Int32) else 0, pM M w s a' b').1 = 0 then some ((0 : Int32), (if true = true then (1 : Int32) else 0, pM M w s a' b').2) else (fG_X12_holds g (if true = true then (1 : Int32) else 0, pM M w s a' b').2 (zn y) (zn m)).bind fun q8 => if q8.1 = 0 then some ((0 : Int32), q8.2) else some ((1 : Int32), q8.2)) = (fG_X12_holds g (pM M w s a' b') (zn y) (zn m)).bind fun q8 => if q8.1 = 0 then some ((0 : Int32), q8.2) else some ((1 : Int32), q8.2) from rfl, r2, ob_eq]
          cases d2 F m <;> rfl
      · rw [n0] at e0
        rw [n1] at e1
        rw [n2] at e2
        obtain ⟨a', b', r⟩ := ih (g := g) a b a6 (by omega)
        obtain ⟨a2', b2', r2⟩ := ih (g := g) a' b' a7 (by omega)
        rw [hd F m]
        show ∃ a' b', f_B_X12_holds (fG_X12_holds g) (pM M w s a b) (zn k) (zn m) = _
        unfold f_B_X12_holds f_B_X12_holds_b202
        simp only [zn_l518, zn_l4, zn_mul, zn_add, pM_now, zl_eq, zb_zn (show 518 + 4 * k < 758 by omega) (show 518 + 4 * k < 2147483648 by omega), if_true, zn_nat (show 518 + 4 * k < 2147483648 by omega), e0]
        rw [show zn (518 + 4 * k) + (1 : Int32) = zn (518 + 4 * k + 1) from zn_add _ 1, show zn (518 + 4 * k) + (2 : Int32) = zn (518 + 4 * k + 2) from zn_add _ 2, zb_zn (show 518 + 4 * k + 1 < 758 by omega) (by omega), zb_zn (show 518 + 4 * k + 2 < 758 by omega) (by omega), if_pos rfl, if_pos rfl, zn_nat (by omega), zn_nat (by omega), e1, e2, if_neg (show ¬ zn 3 = (1 : Int32) by decide), if_neg (show ¬ zn 3 = (2 : Int32) by decide), if_pos (show zn 3 = (3 : Int32) from rfl), r, ob_eq]
        cases q1 : d1 F m
        · refine ⟨a2', b2', ?_⟩
          rw [show (if (if false = true then (1 : Int32) else 0, pM M w s a' b').1 = 0 then (fG_X12_holds g (if false = true then (1 : Int32) else 0, pM M w s a' b').2 (zn y) (zn m)).bind (fun q8 => if q8.1 = 0 then some ((0 : Int32), q8.2) else some ((1 : Int32), q8.2)) else some ((1 : Int32), (if false = true then (1 : Int32) else 0, pM M w s a' b').2)) = (fG_X12_holds g (pM M w s a' b') (zn y) (zn m)).bind fun q8 => if q8.1 = 0 then some ((0 : Int32), q8.2) else some ((1 : Int32), q8.2) from rfl, r2, ob_eq]
          cases d2 F m <;> rfl
        · exact ⟨a', b', rfl⟩
end
