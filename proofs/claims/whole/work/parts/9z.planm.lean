/-! PLAN: the reference -/
def pQ (M : MoT) (tw : Nat → Int64) (li : Nat → Int32) (ch : Nat → Int64) : MoT := Mo_s_chance (Mo_s_lives (Mo_s_twelves M tw) li) ch
theorem pQ_tw (M : MoT) (tw : Nat → Int64) (li : Nat → Int32) (ch : Nat → Int64) (w : Nat → Int32) (s a b : Int32) : Mo_twelves (pM (pQ M tw li ch) w s a b) = tw := by unfold pM pQ Mo_twelves; rfl
theorem pQ_li (M : MoT) (tw : Nat → Int64) (li : Nat → Int32) (ch : Nat → Int64) (w : Nat → Int32) (s a b : Int32) : Mo_lives (pM (pQ M tw li ch) w s a b) = li := by unfold pM pQ Mo_lives; rfl
theorem pQ_ch (M : MoT) (tw : Nat → Int64) (li : Nat → Int32) (ch : Nat → Int64) (w : Nat → Int32) (s a b : Int32) : Mo_chance (pM (pQ M tw li ch) w s a b) = ch := by unfold pM pQ Mo_chance; rfl
theorem pQ_s_tw (M : MoT) (tw x : Nat → Int64) (li : Nat → Int32) (ch : Nat → Int64) (w : Nat → Int32) (s a b : Int32) : Mo_s_twelves (pM (pQ M tw li ch) w s a b) x = pM (pQ M x li ch) w s a b := by simp only [pM, pQ, Mo_s_twelves, Mo_s_lives, Mo_s_chance, Mo_s_now, Mo_s_seed, Mo_s_roadThere, Mo_s_placeThere]
theorem pQ_s_li (M : MoT) (tw : Nat → Int64) (li x : Nat → Int32) (ch : Nat → Int64) (w : Nat → Int32) (s a b : Int32) : Mo_s_lives (pM (pQ M tw li ch) w s a b) x = pM (pQ M tw x ch) w s a b := by simp only [pM, pQ, Mo_s_twelves, Mo_s_lives, Mo_s_chance, Mo_s_now, Mo_s_seed, Mo_s_roadThere, Mo_s_placeThere]
theorem pQ_s_ch (M : MoT) (tw : Nat → Int64) (li : Nat → Int32) (ch x : Nat → Int64) (w : Nat → Int32) (s a b : Int32) : Mo_s_chance (pM (pQ M tw li ch) w s a b) x = pM (pQ M tw li x) w s a b := by simp only [pM, pQ, Mo_s_twelves, Mo_s_lives, Mo_s_chance, Mo_s_now, Mo_s_seed, Mo_s_roadThere, Mo_s_placeThere]
theorem pQ_eta (M : MoT) (w : Nat → Int32) (s a b : Int32) : pM M w s a b = pM (pQ M (Mo_twelves M) (Mo_lives M) (Mo_chance M)) w s a b := by
  unfold pQ
  rw [show Mo_s_twelves M (Mo_twelves M) = M from rfl, show Mo_s_lives M (Mo_lives M) = M from rfl, show Mo_s_chance M (Mo_chance M) = M from rfl]
theorem zq_cmpP {a b : Nat} (h1 : a < 9223372036854775808) (h2 : b < 9223372036854775808) : ((0 : Int32) < lg_cmp (zq a) (zq b)) = (b < a) := by
  rw [zq_cmp h1 h2]
  by_cases q : b < a
  · rw [if_pos q]; simp only [q, eq_iff_iff, iff_true]; decide
  · rw [if_neg q]
    by_cases z : a = b
    · rw [if_pos z]; simp only [q, eq_iff_iff, iff_false]; decide
    · rw [if_neg z]; simp only [q, eq_iff_iff, iff_false]; decide
theorem pm_leastN {a b : Nat} (h1 : a < 2147483648) (h2 : b < 2147483648) : f_X12_least (zn a) (zn b) = some (zn (min a b)) := by
  unfold f_X12_least
  rw [ifn_lt h1 h2]
  by_cases q : a < b
  · rw [if_pos q, Nat.min_eq_left (by omega)]
  · rw [if_neg q, Nat.min_eq_right (by omega)]
section
variable {lv : Nat → Nat} {pace all : Nat}
/-- the chances of a row -/
def pRw (lv : Nat → Nat) (pace all k : Nat) (ch : Nat → Int64) : Prop := ∀ g i, g < all → i < 2 → ch (542 * k + 2 * g + i) = zq (pWv lv pace all k g)
def pTw (tw : Nat → Int64) : Prop := ∀ k, k ≤ 12 → tw k = zq (12 ^ k)
def pLi (lv : Nat → Nat) (all : Nat) (li : Nat → Int32) : Prop := ∀ g, g < all → li g = zn (lv g)
theorem pm_goesTo (hl : ∀ g, lv g ≤ 12) (hg12 : lv all = 12) (ha : all ≤ 270) {S : MoT} (ht : pTw (Mo_twelves S)) (hli : pLi lv all (Mo_lives S)) {k g n : Nat} (hk1 : 1 ≤ k) (hk : k ≤ 12) (hg : g + n ≤ all) (hr : pRw lv pace all (k - 1) (Mo_chance S)) : f_X12_goesTo S (zn k) (zn g) (zn n) (zn all) = some (zq (lv (g + n) * pWv lv pace all (k - 1) (g + n))) := by
  have h12 := hl (g + n)
  unfold f_X12_goesTo f_X12_at
  rw [zn_add, ifn_eq (by omega) (by omega)]
  by_cases q : g + n = all
  · rw [if_pos q, zb_zn (by omega) (by omega), if_pos rfl, zn_nat (by omega), ht k hk, q, pWv_all, hg12, show 12 ^ k = 12 ^ (k - 1 + 1) by rw [Nat.sub_add_cancel hk1], Nat.pow_succ, Nat.mul_comm]
  · have hlt : g + n < all := by omega
    have r0 := hr (g + n) 0 hlt (by omega)
    have r1 := hr (g + n) 1 hlt (by omega)
    rw [if_neg q, zb_zn (show g + n < 271 by omega) (by omega), if_pos rfl, ob_eq, ob_eq, zn_l1, zn_sub hk1, zn_l542, zn_l2, zn_mul, zn_mul, zn_add, zn_add, zn_l0, zn_add, zb_zn (show 542 * (k - 1) + 2 * (g + n) + 1 < 7046 by omega) (by omega), zb_zn (show 542 * (k - 1) + 2 * (g + n) + 0 < 7046 by omega) (by omega), if_pos rfl, if_pos rfl, zn_nat (by omega), zn_nat (by omega), zn_nat (by omega), r0, r1, hli _ hlt, zn_toL (by omega), zq_mul, ite_self]
/-- how far the rows are told -/
def pRs (lv : Nat → Nat) (pace all k g i : Nat) (ch : Nat → Int64) : Prop := (∀ l, l < k → pRw lv pace all l ch) ∧ ∀ g' i', i' < 2 → (g' < g ∨ (g' = g ∧ i' < i)) → g' < all → ch (542 * k + 2 * g' + i') = zq (pWv lv pace all k g')
theorem pRs_put {k g i : Nat} {ch : Nat → Int64} (ha : all ≤ 270) (h : pRs lv pace all k g i ch) (hi : i < 2) : pRs lv pace all k g (i + 1) (vp_updL ch (542 * k + 2 * g + i) (zq (pWv lv pace all k g))) := by
  refine ⟨fun l hl g' i' hg' hi' => ?_, fun g' i' hi' hlt hg' => ?_⟩
  · rw [vu_ne _ _ (by omega)]; exact h.1 l hl g' i' hg' hi'
  · by_cases q : g' = g ∧ i' = i
    · rw [q.1, q.2, vu_eq]
    · rw [vu_ne _ _ (by omega)]; exact h.2 g' i' hi' (by omega) hg'
end
section
variable {D : pD} {F : pF} {M : MoT} {w : Nat → Int32}
theorem pm_best (hL : pLm D w) {m k g i : Nat} (hm6 : m < pD_nm D ∧ m < 6) {lv : Nat → Nat} {all : Nat} (hl : ∀ g, lv g ≤ 12) (hg12 : lv all = 12) (ha : all ≤ 270) (hpace : pD_me D m 1 ≤ 20) {tw : Nat → Int64} {li : Nat → Int32} {ch : Nat → Int64} {s a b : Int32} (ht : pTw tw) (hli : pLi lv all li) (hk1 : 1 ≤ k) (hk : k ≤ 12) (hg : g < all) (hi : i < 2) (hr : pRs lv (pD_me D m 1) all k g i ch) (k149 : MoT → Int32 → Int32 → Int32 → Int32 → Option MoT) (k158 : MoT → Int32 → Int32 → Int32 → Int32 → Int32 → Option MoT) (k167 : MoT → Int32 → Int32 → Int32 → Int32 → Int32 → Int32 → Option MoT) (x2 : Int32) : ∀ (d : Nat) {c fu : Nat}, i + c + d = min (pD_me D m 1) (all - g) + 1 → d + 1 ≤ fu →
    f_X12_layPlan_L180 k149 k158 k167 fu (pM (pQ M tw li ch) w s a b) (zn m) x2 (zn all) (zn k) (zn g) (zn i) (zq (pMr (fun n => lv (g + n) * pWv lv (pD_me D m 1) all (k - 1) (g + n)) i c)) (zn (i + c)) = k167 (pM (pQ M tw li (vp_updL ch (542 * k + 2 * g + i) (zq (pWv lv (pD_me D m 1) all k g)))) w s a b) (zn m) x2 (zn all) (zn k) (zn g) (zn (i + 1)) := by
  have bd : ∀ j, lv (g + j) * pWv lv (pD_me D m 1) all (k - 1) (g + j) ≤ 12 * 106993205379072 := fun j => Nat.mul_le_mul (hl _) (Nat.le_trans (pWv_bd hl (k - 1) (g + j)) (pPow12 (by omega)))
  have ew : (w (230 + m)) = zn (pD_me D m 1) := (hL.2.2.2.1 m hm6.1).2.1
  intro d
  induction d with
  | zero =>
    intro c fu h1 h2
    cases fu with
    | zero => omega
    | succ fu =>
      have e : pMr (fun n => lv (g + n) * pWv lv (pD_me D m 1) all (k - 1) (g + n)) i c = pWv lv (pD_me D m 1) all k g := by
        have ek : k = k - 1 + 1 := by omega
        by_cases z : i = 0
        · rw [z, show c = min (pD_me D m 1) (all - g) + 1 by omega, pMr_zero]
          have := pWv_rest (pace := pD_me D m 1) (all := all) hl (k := k - 1) (g := g) (by omega)
          rw [← ek] at this
          exact this
        · rw [show i = 1 by omega, show c = min (pD_me D m 1) (all - g) by omega]
          have := pWv_succ (lv := lv) (pace := pD_me D m 1) (all := all) (k := k - 1) (g := g) (by omega)
          rw [← ek] at this
          exact this.symm
      show f_X12_layPlan_H180 (pM (pQ M tw li ch) w s a b) k149 k158 k167 (f_X12_layPlan_L180 k149 k158 k167 fu) (zn m) x2 (zn all) (zn k) (zn g) (zn i) _ (zn (i + c)) = _
      unfold f_X12_layPlan_H180 f_X12_at
      rw [zn_l230, zn_add, zb_zn (by omega) (by omega), if_pos rfl, zn_nat (by omega), pM_now, ew, zn_sub (by omega), pm_leastN (by omega) (by omega), ob_eq, ifn_lt (by omega) (by omega), if_pos (by omega), ob_eq, zn_l542, zn_l2, zn_mul, zn_mul, zn_add, zn_add, zb_zn (by omega) (by omega), if_pos rfl, zl_eq, zn_nat (by omega), pQ_ch, pQ_s_ch, e, show zn i + 1 = zn (i + 1) from zn_add i 1]
  | succ d ih =>
    intro c fu h1 h2
    cases fu with
    | zero => omega
    | succ fu =>
      have b1 : pMr (fun n => lv (g + n) * pWv lv (pD_me D m 1) all (k - 1) (g + n)) i c ≤ 12 * 106993205379072 := pMr_bd (fun j _ _ => bd j)
      have b2 := bd (i + c)
      have hgo := pm_goesTo (pace := pD_me D m 1) (S := pM (pQ M tw li ch) w s a b) hl hg12 ha (by rw [pQ_tw]; exact ht) (by rw [pQ_li]; exact hli) (g := g) (n := i + c) hk1 hk (by omega) (by rw [pQ_ch]; exact hr.1 (k - 1) (by omega))
      show f_X12_layPlan_H180 (pM (pQ M tw li ch) w s a b) k149 k158 k167 (f_X12_layPlan_L180 k149 k158 k167 fu) (zn m) x2 (zn all) (zn k) (zn g) (zn i) _ (zn (i + c)) = _
      unfold f_X12_layPlan_H180 f_X12_layPlan_b232
      rw [zn_l230, zn_add, zb_zn (by omega) (by omega), if_pos rfl, zn_nat (by omega), pM_now, ew, zn_sub (by omega), pm_leastN (by omega) (by omega), ob_eq, ifn_lt (by omega) (by omega), if_neg (by omega), hgo, ob_eq, ob_eq, show zn (i + c) + 1 = zn (i + (c + 1)) from zn_add (i + c) 1]
      have := ih (c := c + 1) (fu := fu) (by omega) (by omega)
      rw [pMr_succ] at this
      by_cases q : pMr (fun n => lv (g + n) * pWv lv (pD_me D m 1) all (k - 1) (g + n)) i c < lv (g + (i + c)) * pWv lv (pD_me D m 1) all (k - 1) (g + (i + c))
      · rw [if_pos (by rw [zq_cmpP (by omega) (by omega)]; exact q)]
        rw [Nat.max_eq_right (by omega)] at this
        exact this
      · rw [if_neg (by rw [zq_cmpP (by omega) (by omega)]; exact q)]
        rw [Nat.max_eq_left (by omega)] at this
        exact this
theorem pm_nights (hL : pLm D w) {m k g : Nat} (hm6 : m < pD_nm D ∧ m < 6) {lv : Nat → Nat} {all : Nat} (hl : ∀ g, lv g ≤ 12) (hg12 : lv all = 12) (ha : all ≤ 270) (hpace : pD_me D m 1 ≤ 20) (hpace1 : 1 ≤ pD_me D m 1) {tw : Nat → Int64} {li : Nat → Int32} {s a b : Int32} (ht : pTw tw) (hli : pLi lv all li) (hk1 : 1 ≤ k) (hk : k ≤ 12) (hg : g < all) (k149 : MoT → Int32 → Int32 → Int32 → Int32 → Option MoT) (k158 : MoT → Int32 → Int32 → Int32 → Int32 → Int32 → Option MoT) (x2 : Int32) : ∀ (d : Nat) {i fu : Nat} (ch : Nat → Int64), i + d = 2 → d + 1 ≤ fu → pRs lv (pD_me D m 1) all k g i ch →
    ∃ ch', f_X12_layPlan_L167 k149 k158 fu (pM (pQ M tw li ch) w s a b) (zn m) x2 (zn all) (zn k) (zn g) (zn i) = k158 (pM (pQ M tw li ch') w s a b) (zn m) x2 (zn all) (zn k) (zn (g + 1)) ∧ pRs lv (pD_me D m 1) all k (g + 1) 0 ch' := by
  intro d
  induction d with
  | zero =>
    intro i fu ch h1 h2 hr
    cases fu with
    | zero => omega
    | succ fu =>
      have e : i = 2 := by omega
      subst e
      refine ⟨ch, ?_, hr.1, fun g' i' h3 h4 h5 => hr.2 g' i' h3 (by omega) h5⟩
      show f_X12_layPlan_H167 (pM (pQ M tw li ch) w s a b) k149 k158 (f_X12_layPlan_L167 k149 k158 fu) (zn m) x2 (zn all) (zn k) (zn g) (zn 2) = _
      unfold f_X12_layPlan_H167
      rw [if_neg (by decide), show zn g + 1 = zn (g + 1) from zn_add g 1]
  | succ d ih =>
    intro i fu ch h1 h2 hr
    cases fu with
    | zero => omega
    | succ fu =>
      obtain ⟨ch', e, h⟩ := ih (i := i + 1) (fu := fu) (vp_updL ch (542 * k + 2 * g + i) (zq (pWv lv (pD_me D m 1) all k g))) (by omega) (by omega) (pRs_put ha hr (by omega))
      refine ⟨ch', ?_, h⟩
      show f_X12_layPlan_H167 (pM (pQ M tw li ch) w s a b) k149 k158 (f_X12_layPlan_L167 k149 k158 fu) (zn m) x2 (zn all) (zn k) (zn g) (zn i) = _
      unfold f_X12_layPlan_H167
      rw [if_pos (by rw [zn_l2, zn_lt (by omega) (by omega)]; omega)]
      have := pm_best (M := M) (s := s) (a := a) (b := b) hL hm6 hl hg12 ha hpace ht hli hk1 hk hg (i := i) (by omega) hr k149 k158 (f_X12_layPlan_L167 k149 k158 fu) x2 (min (pD_me D m 1) (all - g) + 1 - i) (c := 0) (fu := zFU) (by omega) (zFU_ge (by omega))
      exact this.trans e
theorem pm_miles (hL : pLm D w) {m k : Nat} (hm6 : m < pD_nm D ∧ m < 6) {lv : Nat → Nat} {all : Nat} (hl : ∀ g, lv g ≤ 12) (hg12 : lv all = 12) (ha : all ≤ 270) (hpace : pD_me D m 1 ≤ 20) (hpace1 : 1 ≤ pD_me D m 1) {tw : Nat → Int64} {li : Nat → Int32} {s a b : Int32} (ht : pTw tw) (hli : pLi lv all li) (hk1 : 1 ≤ k) (hk : k ≤ 12) (k149 : MoT → Int32 → Int32 → Int32 → Int32 → Option MoT) (x2 : Int32) : ∀ (d : Nat) {g fu : Nat} (ch : Nat → Int64), g + d = all → d + 1 ≤ fu → pRs lv (pD_me D m 1) all k g 0 ch →
    ∃ ch', f_X12_layPlan_L158 k149 fu (pM (pQ M tw li ch) w s a b) (zn m) x2 (zn all) (zn k) (zn g) = k149 (pM (pQ M tw li ch') w s a b) (zn m) x2 (zn all) (zn (k + 1)) ∧ ∀ l, l < k + 1 → pRw lv (pD_me D m 1) all l ch' := by
  intro d
  induction d with
  | zero =>
    intro g fu ch h1 h2 hr
    cases fu with
    | zero => omega
    | succ fu =>
      refine ⟨ch, ?_, fun l hl' => ?_⟩
      · show f_X12_layPlan_H158 (pM (pQ M tw li ch) w s a b) k149 (f_X12_layPlan_L158 k149 fu) (zn m) x2 (zn all) (zn k) (zn g) = _
        unfold f_X12_layPlan_H158
        rw [if_neg (by rw [zn_lt (by omega) (by omega)]; omega), show zn k + 1 = zn (k + 1) from zn_add k 1]
      · by_cases q : l = k
        · rw [q]; exact fun g' i' g1 g2 => hr.2 g' i' g2 (by omega) g1
        · exact hr.1 l (by omega)
  | succ d ih =>
    intro g fu ch h1 h2 hr
    cases fu with
    | zero => omega
    | succ fu =>
      obtain ⟨ch1, e1, r1⟩ := pm_nights (M := M) (s := s) (a := a) (b := b) hL hm6 hl hg12 ha hpace hpace1 ht hli hk1 hk (g := g) (by omega) k149 (f_X12_layPlan_L158 k149 fu) x2 2 (i := 0) (fu := zFU) ch (by omega) (zFU_ge (by omega)) hr
      obtain ⟨ch', e, h⟩ := ih (g := g + 1) (fu := fu) ch1 (by omega) (by omega) r1
      refine ⟨ch', ?_, h⟩
      show f_X12_layPlan_H158 (pM (pQ M tw li ch) w s a b) k149 (f_X12_layPlan_L158 k149 fu) (zn m) x2 (zn all) (zn k) (zn g) = _
      unfold f_X12_layPlan_H158
      rw [if_pos (by rw [zn_lt (by omega) (by omega)]; omega)]
      exact e1.trans e
theorem pm_days (hL : pLm D w) {m days : Nat} (hm6 : m < pD_nm D ∧ m < 6) {lv : Nat → Nat} {all : Nat} (hl : ∀ g, lv g ≤ 12) (hg12 : lv all = 12) (ha : all ≤ 270) (hpace : pD_me D m 1 ≤ 20) (hpace1 : 1 ≤ pD_me D m 1) {tw : Nat → Int64} {li : Nat → Int32} {s a b : Int32} (ht : pTw tw) (hli : pLi lv all li) (hd : days ≤ 12) : ∀ (d : Nat) {k fu : Nat} (ch : Nat → Int64), k + d = days + 1 → d + 1 ≤ fu → 1 ≤ k → (∀ l, l < k → pRw lv (pD_me D m 1) all l ch) →
    ∃ ch', f_X12_layPlan_L149 fu (pM (pQ M tw li ch) w s a b) (zn m) (zn days) (zn all) (zn k) = some (pM (pQ M tw li ch') w s a b) ∧ ∀ l, l ≤ days → pRw lv (pD_me D m 1) all l ch' := by
  intro d
  induction d with
  | zero =>
    intro k fu ch h1 h2 h3 hr
    cases fu with
    | zero => omega
    | succ fu =>
      refine ⟨ch, ?_, fun l hl' => hr l (by omega)⟩
      show f_X12_layPlan_H149 (pM (pQ M tw li ch) w s a b) (f_X12_layPlan_L149 fu) (zn m) (zn days) (zn all) (zn k) = _
      unfold f_X12_layPlan_H149
      rw [if_pos (by rw [zn_lt (by omega) (by omega)]; omega)]
  | succ d ih =>
    intro k fu ch h1 h2 h3 hr
    cases fu with
    | zero => omega
    | succ fu =>
      obtain ⟨ch1, e1, r1⟩ := pm_miles (M := M) (s := s) (a := a) (b := b) hL hm6 hl hg12 ha hpace hpace1 ht hli h3 (by omega) (f_X12_layPlan_L149 fu) (zn days) all (g := 0) (fu := zFU) ch (by omega) (zFU_ge (by omega)) ⟨hr, fun g' i' _ q _ => by omega⟩
      obtain ⟨ch', e, h⟩ := ih (k := k + 1) (fu := fu) ch1 (by omega) (by omega) (by omega) r1
      refine ⟨ch', ?_, h⟩
      show f_X12_layPlan_H149 (pM (pQ M tw li ch) w s a b) (f_X12_layPlan_L149 fu) (zn m) (zn days) (zn all) (zn k) = _
      unfold f_X12_layPlan_H149
      rw [if_neg (by rw [zn_lt (by omega) (by omega)]; omega)]
      exact e1.trans e
/-- the first row is 0 -/
theorem pm_zero_in (k104 : MoT → Int32 → Int32 → Int32 → Int32 → Option MoT) {lv : Nat → Nat} {pace all : Nat} (ha : all ≤ 270) {tw : Nat → Int64} {li : Nat → Int32} {s a b : Int32} (x1 x2 : Int32) {g : Nat} (hg : g < all) : ∀ (d : Nat) {i fu : Nat} (ch : Nat → Int64), i + d = 2 → d + 1 ≤ fu → pRs lv pace all 0 g i ch →
    ∃ ch', f_X12_layPlan_L113 k104 fu (pM (pQ M tw li ch) w s a b) x1 x2 (zn all) (zn g) (zn i) = k104 (pM (pQ M tw li ch') w s a b) x1 x2 (zn all) (zn (g + 1)) ∧ pRs lv pace all 0 (g + 1) 0 ch' := by
  intro d
  induction d with
  | zero =>
    intro i fu ch h1 h2 hr
    cases fu with
    | zero => omega
    | succ fu =>
      have e : i = 2 := by omega
      subst e
      refine ⟨ch, ?_, hr.1, fun g' i' h3 h4 h5 => hr.2 g' i' h3 (by omega) h5⟩
      show f_X12_layPlan_H113 (pM (pQ M tw li ch) w s a b) k104 (f_X12_layPlan_L113 k104 fu) x1 x2 (zn all) (zn g) (zn 2) = _
      unfold f_X12_layPlan_H113
      rw [if_neg (by decide), show zn g + 1 = zn (g + 1) from zn_add g 1]
  | succ d ih =>
    intro i fu ch h1 h2 hr
    cases fu with
    | zero => omega
    | succ fu =>
      obtain ⟨ch', e, h⟩ := ih (i := i + 1) (fu := fu) (vp_updL ch (542 * 0 + 2 * g + i) (zq (pWv lv pace all 0 g))) (by omega) (by omega) (pRs_put ha hr (by omega))
      refine ⟨ch', ?_, h⟩
      show f_X12_layPlan_H113 (pM (pQ M tw li ch) w s a b) k104 (f_X12_layPlan_L113 k104 fu) x1 x2 (zn all) (zn g) (zn i) = _
      unfold f_X12_layPlan_H113 f_X12_at
      rw [if_pos (by rw [zn_l2, zn_lt (by omega) (by omega)]; omega), ob_eq, zn_l542, zn_l2, zn_l0, zn_mul, zn_mul, zn_add, zn_add, zb_zn (by omega) (by omega), if_pos rfl, zl_eq, zn_nat (by omega), pQ_ch, pQ_s_ch, show zn i + 1 = zn (i + 1) from zn_add i 1]
      rw [pWv_zero (by omega)] at e
      exact e
theorem pm_zero {lv : Nat → Nat} {pace all : Nat} (ha : all ≤ 270) {tw : Nat → Int64} {li : Nat → Int32} {s a b : Int32} (x1 x2 : Int32) : ∀ (d : Nat) {g fu : Nat} (ch : Nat → Int64), g + d = all → d + 1 ≤ fu → pRs lv pace all 0 g 0 ch →
    ∃ ch', f_X12_layPlan_L104 fu (pM (pQ M tw li ch) w s a b) x1 x2 (zn all) (zn g) = f_X12_layPlan_L149 zFU (pM (pQ M tw li ch') w s a b) x1 x2 (zn all) (zn 1) ∧ pRw lv pace all 0 ch' := by
  intro d
  induction d with
  | zero =>
    intro g fu ch h1 h2 hr
    cases fu with
    | zero => omega
    | succ fu =>
      refine ⟨ch, ?_, fun g' i' g1 g2 => hr.2 g' i' g2 (by omega) g1⟩
      show f_X12_layPlan_H104 (pM (pQ M tw li ch) w s a b) (f_X12_layPlan_L104 fu) x1 x2 (zn all) (zn g) = _
      unfold f_X12_layPlan_H104
      rw [if_neg (by rw [zn_lt (by omega) (by omega)]; omega)]; rfl
  | succ d ih =>
    intro g fu ch h1 h2 hr
    cases fu with
    | zero => omega
    | succ fu =>
      obtain ⟨ch1, e1, r1⟩ := pm_zero_in (M := M) (w := w) (s := s) (a := a) (b := b) (tw := tw) (li := li) (f_X12_layPlan_L104 fu) ha x1 x2 (g := g) (by omega) 2 (i := 0) (fu := zFU) ch (by omega) (zFU_ge (by omega)) hr
      obtain ⟨ch', e, h⟩ := ih (g := g + 1) (fu := fu) ch1 (by omega) (by omega) r1
      refine ⟨ch', ?_, h⟩
      show f_X12_layPlan_H104 (pM (pQ M tw li ch) w s a b) (f_X12_layPlan_L104 fu) x1 x2 (zn all) (zn g) = _
      unfold f_X12_layPlan_H104
      rw [if_pos (by rw [zn_lt (by omega) (by omega)]; omega)]
      exact e1.trans e
/-- where he lives on -/
theorem pm_lives (hv : pV D) (hL : pLm D w) (hF : pFm D F w) {m b0 : Nat} (hm : m < pD_nm D) (h3 : pF_o F m 3 = b0 + 1) (hb : b0 < pD_np D) (h4 : pF_o F m 4 < pD_np D) (hj : pD_far D (pF_o F m 4) b0 ≠ 100000) (ha : pD_far D (pF_o F m 4) b0 ≤ 270) {tw : Nat → Int64} {ch : Nat → Int64} {s : Int32} (x2 : Int32) : ∀ (d : Nat) {g fu : Nat} (li : Nat → Int32) (a b : Int32), g + d = pD_far D (pF_o F m 4) b0 → d + 1 ≤ fu → (∀ g', g' < g → li g' = zn (pLv D m b0 (pF_o F m 4) g')) →
    ∃ li' a' b', f_X12_layPlan_L57 fu (pM (pQ M tw li ch) w s a b) (zn m) x2 (zn (pD_far D (pF_o F m 4) b0)) (zn g) = f_X12_layPlan_L104 zFU (pM (pQ M tw li' ch) w s a' b') (zn m) x2 (zn (pD_far D (pF_o F m 4) b0)) (zn 0) ∧ pLi (pLv D m b0 (pF_o F m 4)) (pD_far D (pF_o F m 4) b0) li' := by
  intro d
  induction d with
  | zero =>
    intro g fu li a b h1 h2 hr
    cases fu with
    | zero => omega
    | succ fu =>
      refine ⟨li, a, b, ?_, fun g' hg' => hr g' (by omega)⟩
      show f_X12_layPlan_H57 (pM (pQ M tw li ch) w s a b) (f_X12_layPlan_L57 fu) (zn m) x2 (zn (pD_far D (pF_o F m 4) b0)) (zn g) = _
      unfold f_X12_layPlan_H57
      rw [if_neg (by rw [zn_lt (by omega) (by omega)]; omega)]; rfl
  | succ d ih =>
    intro g fu li a b h1 h2 hr
    cases fu with
    | zero => omega
    | succ fu =>
      obtain ⟨a1, b1, e1⟩ := pm_dangerAt hv (pQ M tw li ch) hL hF s hm a b h4 hb h3 hj (g := g) (by omega)
      obtain ⟨li', a', b', e, h⟩ := ih (g := g + 1) (fu := fu) (upd li g (zn (pLv D m b0 (pF_o F m 4) g))) a1 b1 (by omega) (by omega) (fun g' hg' => by
        by_cases q : g' = g
        · rw [q, pu_eq]
        · rw [pu_ne _ _ q]; exact hr g' (by omega))
      refine ⟨li', a', b', ?_, h⟩
      show f_X12_layPlan_H57 (pM (pQ M tw li ch) w s a b) (f_X12_layPlan_L57 fu) (zn m) x2 (zn (pD_far D (pF_o F m 4) b0)) (zn g) = _
      unfold f_X12_layPlan_H57 f_X12_layPlan_b94
      rw [if_pos (by rw [zn_lt (by omega) (by omega)]; omega), e1, ob_eq]
      simp only [zb_zn (show g < 271 by omega) (show g < 2147483648 by omega), if_true, zl_eq, zn_nat (show g < 2147483648 by omega), pQ_li, pQ_s_li, show zn g + 1 = zn (g + 1) from zn_add g 1]
      rw [← e]
      by_cases q : (pWalk D b0 10 (pF_o F m 4) g).2 = 0
      · have ev : pLv D m b0 (pF_o F m 4) g = 12 := by unfold pLv; rw [if_pos q]
        rw [if_pos q, if_pos (show zm = (-1 : Int32) from rfl), ev]; rfl
      · obtain ⟨i1, i2, i3, i4⟩ := pWalk_props hv hb h4 hj g (by omega)
        have ipb : (pWalk D b0 10 (pF_o F m 4) g).1 ≠ b0 := by
          intro z
          have := (pWalk_goal hv hb h4 hj (g := g) (by omega)).mp z
          omega
        obtain ⟨d1, d2⟩ := pDan_N (m := m) hv i1 hb ipb i2
        have ev : pLv D m b0 (pF_o F m 4) g = 12 - pDaN D m (pWalk D b0 10 (pF_o F m 4) g).1 b0 := by unfold pLv; rw [if_neg q]
        rw [if_neg q, d1, if_neg (show ¬ zn (pDaN D m (pWalk D b0 10 (pF_o F m 4) g).1 b0) = (-1 : Int32) from fun h => (zm_eq (by omega)).mp h), ev, show (12 : Int32) - zn (pDaN D m (pWalk D b0 10 (pF_o F m 4) g).1 b0) = zn (12 - pDaN D m (pWalk D b0 10 (pF_o F m 4) g).1 b0) from zn_sub (a := 12) d2]
theorem pm_twelves {li : Nat → Int32} {ch : Nat → Int64} {s a b : Int32} (x1 x2 x3 : Int32) : ∀ (d : Nat) {k fu : Nat} (tw : Nat → Int64), k + d = 13 → d + 1 ≤ fu → 1 ≤ k → (∀ j, j < k → tw j = zq (12 ^ j)) →
    ∃ tw', f_X12_layPlan_L21 fu (pM (pQ M tw li ch) w s a b) x1 x2 x3 (zn k) = f_X12_layPlan_L57 zFU (pM (pQ M tw' li ch) w s a b) x1 x2 x3 (zn 0) ∧ pTw tw' := by
  intro d
  induction d with
  | zero =>
    intro k fu tw h1 h2 h3 hr
    cases fu with
    | zero => omega
    | succ fu =>
      refine ⟨tw, ?_, fun j hj => hr j (by omega)⟩
      show f_X12_layPlan_H21 (pM (pQ M tw li ch) w s a b) (f_X12_layPlan_L21 fu) x1 x2 x3 (zn k) = _
      unfold f_X12_layPlan_H21
      rw [if_pos (by rw [zn_l12, zn_lt (by omega) (by omega)]; omega)]; rfl
  | succ d ih =>
    intro k fu tw h1 h2 h3 hr
    cases fu with
    | zero => omega
    | succ fu =>
      obtain ⟨tw', e, h⟩ := ih (k := k + 1) (fu := fu) (vp_updL tw k (zq (12 ^ k))) (by omega) (by omega) (by omega) (fun j hj => by
        by_cases q : j = k
        · rw [q, vu_eq]
        · rw [vu_ne _ _ q]; exact hr j (by omega))
      refine ⟨tw', ?_, h⟩
      show f_X12_layPlan_H21 (pM (pQ M tw li ch) w s a b) (f_X12_layPlan_L21 fu) x1 x2 x3 (zn k) = _
      unfold f_X12_layPlan_H21
      rw [if_neg (by rw [zn_l12, zn_lt (by omega) (by omega)]; omega), show zn k - 1 = zn (k - 1) from zn_sub (b := 1) h3, zb_zn (by omega) (by omega), if_pos rfl, zl_eq, zb_zn (by omega) (by omega), if_pos rfl, zl_eq, zn_nat (by omega), zn_nat (by omega), pQ_tw, pQ_s_tw, hr (k - 1) (by omega), zq_l12, zq_mul, show 12 * 12 ^ (k - 1) = 12 ^ k from by rw [Nat.mul_comm, ← Nat.pow_succ]; congr 1; omega, show zn k + 1 = zn (k + 1) from zn_add k 1]
      exact e
theorem pm_layPlan (hv : pV D) (hL : pLm D w) (hF : pFm D F w) {m b0 : Nat} (hm : m < pD_nm D) (hw : pWk D (pF_o F m) b0) (h7 : pF_o F m 7 ≤ 12) (M : MoT) (s a b : Int32) :
    ∃ tw li ch a' b', f_X12_layPlan (pM M w s a b) (zn m) (zn (pF_o F m 7)) = some (pM (pQ M tw li ch) w s a' b') ∧ pTw tw ∧ pLi (pLv D m b0 (pF_o F m 4)) (pF_o F m 6) li ∧ ∀ l, l ≤ pF_o F m 7 → pRw (pLv D m b0 (pF_o F m 4)) (pD_me D m 1) (pF_o F m 6) l ch := by
  obtain ⟨⟨w1, w2, w3, w4, w5, w6⟩, w7, w8, w9⟩ := hw
  have hnm := hv.nm
  have hme := hv.me hm
  have hl := pLv_le D m b0 (pF_o F m 4)
  have hg12 := pLv_goal (m := m) hv w3 w2 w4
  unfold f_X12_layPlan
  rw [zn_l480, zn_add, zb_zn (by omega) (by omega), if_pos rfl, zl_eq, zn_nat (by omega), pM_now, hF.g6 hm, pQ_eta, pQ_tw, pQ_s_tw]
  obtain ⟨tw, t1, t2⟩ := pm_twelves (M := M) (w := w) (li := Mo_lives M) (ch := Mo_chance M) (s := s) (a := a) (b := b) (zn m) (zn (pF_o F m 7)) (zn (pF_o F m 6)) 12 (k := 1) (fu := zFU) (vp_updL (Mo_twelves M) (0 : Int32).toNatClampNeg 1) (by omega) (zFU_ge (by omega)) (Nat.le_refl _) (fun j hj => by rw [show j = 0 by omega]; exact vu_eq _ _ _)
  rw [show (1 : Int32) = zn 1 from rfl, t1, w5]
  obtain ⟨li, a', b', l1, l2⟩ := pm_lives (M := M) (tw := tw) (ch := Mo_chance M) (s := s) hv hL hF hm w1 w2 w3 w4 (by omega) (zn (pF_o F m 7)) (pD_far D (pF_o F m 4) b0) (g := 0) (fu := zFU) (Mo_lives M) a b (by omega) (zFU_ge (by omega)) (fun g hg => by omega)
  rw [l1]
  obtain ⟨ch1, c1, c2⟩ := pm_zero (M := M) (w := w) (lv := pLv D m b0 (pF_o F m 4)) (pace := pD_me D m 1) (all := pD_far D (pF_o F m 4) b0) (tw := tw) (li := li) (s := s) (a := a') (b := b') (by omega) (zn m) (zn (pF_o F m 7)) (pD_far D (pF_o F m 4) b0) (g := 0) (fu := zFU) (Mo_chance M) (by omega) (zFU_ge (by omega)) ⟨fun l hl => by omega, fun g' i' _ q _ => by omega⟩
  rw [c1]
  obtain ⟨ch, d1, d2⟩ := pm_days (M := M) (s := s) (a := a') (b := b') hL ⟨hm, by omega⟩ hl hg12 (by omega) hme.2.2.2.1 hme.2.2.1 t2 l2 (days := pF_o F m 7) h7 (pF_o F m 7) (k := 1) (fu := zFU) ch1 (by omega) (zFU_ge (by omega)) (Nat.le_refl _) (fun l hl => by rw [show l = 0 by omega]; exact c2)
  exact ⟨tw, li, ch, a', b', d1, t2, l2, d2⟩
end
