/-! PLAN: the call -/
def pZ (M : MoT) (pl : Nat → Int32) (n : Int32) : MoT := Mo_s_planLong (Mo_s_planned M pl) n
theorem pZ_pl (M : MoT) (pl : Nat → Int32) (n : Int32) : Mo_planned (pZ M pl n) = pl := by unfold pZ Mo_planned; rfl
theorem pZ_n (M : MoT) (pl : Nat → Int32) (n : Int32) : Mo_planLong (pZ M pl n) = n := by unfold pZ Mo_planLong; rfl
theorem pZ_tw (M : MoT) (pl : Nat → Int32) (n : Int32) : Mo_twelves (pZ M pl n) = Mo_twelves M := by unfold pZ Mo_twelves; rfl
theorem pZ_li (M : MoT) (pl : Nat → Int32) (n : Int32) : Mo_lives (pZ M pl n) = Mo_lives M := by unfold pZ Mo_lives; rfl
theorem pZ_ch (M : MoT) (pl : Nat → Int32) (n : Int32) : Mo_chance (pZ M pl n) = Mo_chance M := by unfold pZ Mo_chance; rfl
theorem pZ_s_pl (M : MoT) (pl x : Nat → Int32) (n : Int32) : Mo_s_planned (pZ M pl n) x = pZ M x n := by simp only [pZ, Mo_s_planned, Mo_s_planLong]
theorem pZ_s_n (M : MoT) (pl : Nat → Int32) (n x : Int32) : Mo_s_planLong (pZ M pl n) x = pZ M pl x := by simp only [pZ, Mo_s_planned, Mo_s_planLong]
section
variable {lv : Nat → Nat} {pace all : Nat}
theorem pm_choose_in (hl : ∀ g, lv g ≤ 12) (hg12 : lv all = 12) (ha : all ≤ 270) {S : MoT} (ht : pTw (Mo_twelves S)) (hli : pLi lv all (Mo_lives S)) (k134 : MoT → Int32 → Int32 → Int32 → Int32 → Int32 → Int64 → Int32 → Option (Int64 × MoT)) (x2 x3 : Int32) {k g i n up : Nat} (hi : i < 2) (hk : k ≤ 12) (hgl : g < all) (hup : up < 9223372036854775808) (hup0 : 0 < up) (hm : pMi lv pace all k g i n) (hr : pRw lv pace all (k - 1) (Mo_chance S)) (hr2 : pRw lv pace all k (Mo_chance S)) : ∀ (d : Nat) {c fu : Nat}, i ≤ c → c + d = n → d + 1 ≤ fu →
    f_X12_plan_L150 k134 fu S x2 x3 (zn all) (zn g) (zn i) (zq up) (zn k) (zn c) = f_X12_plan_b194 S k134 x2 x3 (zn all) (zn g) (zq up) (zn k) (zn n) := by
  obtain ⟨m1, m2, m3, m4, m5, m6⟩ := hm
  have bd : ∀ q, lv q * pWv lv pace all (k - 1) q < 9223372036854775808 := fun q => by
    have := Nat.mul_le_mul (hl q) (Nat.le_trans (pWv_bd (pace := pace) (all := all) hl (k - 1) q) (pPow12 (k := k - 1) (by omega)))
    omega
  have bd2 : pWv lv pace all k g < 9223372036854775808 := by
    have := Nat.le_trans (pWv_bd (pace := pace) (all := all) hl k g) (pPow12 (k := k) (by omega))
    omega
  intro d
  induction d with
  | zero =>
    intro c fu h0 h1 h2
    cases fu with
    | zero => omega
    | succ fu =>
      have e : c = n := by omega
      subst e
      show f_X12_plan_H150 S k134 (f_X12_plan_L150 k134 fu) x2 x3 (zn all) (zn g) (zn i) (zq up) (zn k) (zn c) = _
      unfold f_X12_plan_H150 f_X12_at
      rw [if_pos (by rw [zq_l0, zq_cmpP hup (by omega)]; exact hup0), pm_goesTo hl hg12 ha ht hli m2 hk m4 hr, ob_eq, ob_eq, zn_l542, zn_l2, zn_mul, zn_mul, zn_add, zn_add, zb_zn (by omega) (by omega), if_pos rfl, zn_nat (by omega), hr2 g i hgl hi, m5, if_pos (by rw [zq_cmp0 bd2 bd2])]
  | succ d ih =>
    intro c fu h0 h1 h2
    cases fu with
    | zero => omega
    | succ fu =>
      show f_X12_plan_H150 S k134 (f_X12_plan_L150 k134 fu) x2 x3 (zn all) (zn g) (zn i) (zq up) (zn k) (zn c) = _
      unfold f_X12_plan_H150 f_X12_at
      rw [if_pos (by rw [zq_l0, zq_cmpP hup (by omega)]; exact hup0), pm_goesTo hl hg12 ha ht hli m2 hk (by omega) hr, ob_eq, ob_eq, zn_l542, zn_l2, zn_mul, zn_mul, zn_add, zn_add, zb_zn (by omega) (by omega), if_pos rfl, zn_nat (by omega), hr2 g i hgl hi, if_neg (by rw [zq_cmp0 (bd _) bd2]; exact m6 c h0 (by omega)), show zn c + 1 = zn (c + 1) from zn_add c 1]
      exact ih (c := c + 1) (fu := fu) (by omega) (by omega) (by omega)
theorem pm_choose (hl : ∀ g, lv g ≤ 12) (hg12 : lv all = 12) (ha : all ≤ 270) {Y : MoT} (ht : pTw (Mo_twelves Y)) (hli : pLi lv all (Mo_lives Y)) {days up : Nat} (hd : days ≤ 12) (hr : ∀ l, l ≤ days → pRw lv pace all l (Mo_chance Y)) (hup : up < 9223372036854775808) (x2 : Int32) : ∀ (k : Nat) {g i kk fu : Nat} {xs : List Nat} (pl : Nat → Int32), kk + k = days → k + 1 ≤ fu → g ≤ all → i < 2 → pPt lv pace all (decide (up ≠ 0)) k g i xs →
    ∃ pl', f_X12_plan_L134 fu (pZ Y pl (zn kk)) x2 (zn days) (zn all) (zn g) (zn i) (zq up) (zn k) = f_X12_plan_b240 (pZ Y pl' (zn (kk + xs.length))) x2 (zn days) (zq up) ∧ ∀ j, pl' j = if kk ≤ j ∧ j < kk + xs.length then zn (xs.getD (j - kk) 0) else pl j := by
  intro k
  induction k with
  | zero =>
    intro g i kk fu xs pl h1 h2 h3 h4 hx
    cases fu with
    | zero => omega
    | succ fu =>
      have e : xs = [] := hx
      subst e
      refine ⟨pl, ?_, fun j => by rw [if_neg]; rintro ⟨a, b⟩; rw [List.length_nil] at b; omega⟩
      show f_X12_plan_H134 (pZ Y pl (zn kk)) (f_X12_plan_L134 fu) x2 (zn days) (zn all) (zn g) (zn i) (zq up) (zn 0) = _
      unfold f_X12_plan_H134
      rw [if_neg (by decide)]; rfl
  | succ k ih =>
    intro g i kk fu xs pl h1 h2 h3 h4 hx
    cases fu with
    | zero => omega
    | succ fu =>
      have e0 : f_X12_plan_L134 (fu + 1) (pZ Y pl (zn kk)) x2 (zn days) (zn all) (zn g) (zn i) (zq up) (zn (k + 1)) = if g < all then f_X12_plan_L150 (f_X12_plan_L134 fu) zFU (pZ Y pl (zn kk)) x2 (zn days) (zn all) (zn g) (zn i) (zq up) (zn (k + 1)) (zn i) else f_X12_plan_b240 (pZ Y pl (zn kk)) x2 (zn days) (zq up) := by
        show f_X12_plan_H134 (pZ Y pl (zn kk)) (f_X12_plan_L134 fu) x2 (zn days) (zn all) (zn g) (zn i) (zq up) (zn (k + 1)) = _
        unfold f_X12_plan_H134
        rw [if_pos (by rw [zn_pos (by omega)]; omega)]
        exact ifn_lt (a := g) (b := all) (by omega) (by omega) _ _
      by_cases hg : g < all
      · obtain ⟨n, ys, e, hn, hy⟩ := pPt_yes hg hx
        have go : n < 1000 → g + n ≤ all → ∃ pl', f_X12_plan_b194 (pZ Y pl (zn kk)) (f_X12_plan_L134 fu) x2 (zn days) (zn all) (zn g) (zq up) (zn (k + 1)) (zn n) = f_X12_plan_b240 (pZ Y pl' (zn (kk + xs.length))) x2 (zn days) (zq up) ∧ ∀ j, pl' j = if kk ≤ j ∧ j < kk + xs.length then zn (xs.getD (j - kk) 0) else pl j := by
          intro g2 g3
          obtain ⟨pl', r1, r2⟩ := ih (g := g + n) (i := if n = 0 then 1 else 0) (kk := kk + 1) (fu := fu) (xs := ys) (upd pl kk (zn n)) (by omega) (by omega) g3 (by split <;> omega) hy
          refine ⟨pl', ?_, fun j => ?_⟩
          · unfold f_X12_plan_b194 f_X12_plan_b232
            rw [pZ_n, zb_zn (show kk < 12 by omega) (by omega), if_pos rfl, zl_eq, zl_eq, zn_nat (by omega), pZ_pl, pZ_s_pl, pZ_n, pZ_s_n, zn_add, show zn kk + 1 = zn (kk + 1) from zn_add kk 1, show zn (k + 1) + (-1 : Int32) = zn k from zo_decm (k + 1), e, List.length_cons, show kk + (ys.length + 1) = kk + 1 + ys.length by omega, ← r1]
            by_cases z : n = 0
            · rw [if_pos (show zn n = (0 : Int32) by rw [z]; rfl), if_pos z]; rfl
            · rw [if_neg (show ¬ zn n = (0 : Int32) by rw [zn_eq0 (by omega)]; exact z), if_neg z]; rfl
          · rw [r2 j, e, List.length_cons]
            by_cases z : j = kk
            · rw [if_neg (by omega), if_pos (by omega), z, Nat.sub_self, pu_eq]; rfl
            · by_cases w : kk + 1 ≤ j ∧ j < kk + 1 + ys.length
              · rw [if_pos w, if_pos (by omega), show j - kk = (j - (kk + 1)) + 1 by omega]; rfl
              · rw [if_neg w, if_neg (by omega)]
                exact pu_ne _ _ z
        rw [e0, if_pos hg]
        by_cases hh : up = 0
        · rw [if_neg (by simp [hh])] at hn
          obtain ⟨pl', r1, r2⟩ := go (by omega) (by omega)
          refine ⟨pl', ?_, r2⟩
          rw [hn] at r1
          show f_X12_plan_H150 (pZ Y pl (zn kk)) (f_X12_plan_L134 fu) (f_X12_plan_L150 (f_X12_plan_L134 fu) 69999) x2 (zn days) (zn all) (zn g) (zn i) (zq up) (zn (k + 1)) (zn i) = _
          unfold f_X12_plan_H150
          rw [if_neg (by rw [zq_l0, zq_cmpP hup (by omega)]; omega)]
          exact r1
        · rw [if_pos (by simp [hh])] at hn
          have hm := hn
          obtain ⟨m1, m2, m3, m4, m5, m6⟩ := hn
          obtain ⟨pl', r1, r2⟩ := go (by omega) m4
          refine ⟨pl', ?_, r2⟩
          have := pm_choose_in hl hg12 ha (S := pZ Y pl (zn kk)) (by rw [pZ_tw]; exact ht) (by rw [pZ_li]; exact hli) (f_X12_plan_L134 fu) x2 (zn days) h4 (k := k + 1) (by omega) hg hup (by omega) hm (by rw [pZ_ch]; exact hr _ (by omega)) (by rw [pZ_ch]; exact hr _ (by omega)) (n - i) (c := i) (fu := zFU) (Nat.le_refl _) (by omega) (zFU_ge (by omega))
          exact this.trans r1
      · have e := pPt_no (by omega) hx
        subst e
        refine ⟨pl, ?_, fun j => by rw [if_neg]; rintro ⟨a, b⟩; rw [List.length_nil] at b; omega⟩
        rw [e0, if_neg hg]; rfl
end
section
variable {D : pD} {L : LdT} {F : pF} {K : FkT} {M : MoT}
theorem q_plan (hv : pV D) (hc : pLc D L) (hm : pLm D (Mo_now M)) (hK : pFc D F K) (hF : pFm D F (Mo_now M)) (hV : pFv D F) (X : XxT) (P : PlT) (x1 x2 : Int32) :
    (f_X11_plan X L K P x1 x2 = some none ∧ f_X12_plan M x1 x2 = some (0, Mo_s_thrown M 1)) ∨ ∃ r P' tw li ch a b pl n, f_X11_plan X L K P x1 x2 = some (some (r, P')) ∧ f_X12_plan M x1 x2 = some (r, pZ (pM (pQ (Mo_s_thrown M 0) tw li ch) (Mo_now M) (Mo_seed M) a b) pl n) ∧ pPlan P' (pZ (pM (pQ (Mo_s_thrown M 0) tw li ch) (Mo_now M) (Mo_seed M) a b) pl n) := by
  have hm' : pLm D (Mo_now (Mo_s_thrown M 0)) := hm
  have hnm := hv.nm
  have rf : ∀ q : Prop, (some (none : Option (Int64 × PlT)) = some none ∧ (f_X12_refuse (Mo_s_thrown M 0)).bind (fun q => some (q.1.toInt64, q.2)) = some (0, Mo_s_thrown M 1)) ∨ q := fun q => Or.inl ⟨rfl, rfl⟩
  unfold f_X11_plan f_X12_plan f_X11_plan_b20 f_X11_plan_b54
  rw [zl_eq]
  rcases zn_lim x1 (pD_nm D) (by omega) with h1 | ⟨m, rfl, h1⟩
  · rw [pc_hasMan0 hc h1, ob_eq, if_pos rfl, pm_isMan0 hv hm' h1, ob_eq, if_pos rfl]; exact rf _
  rw [pc_hasMan1 hv hc h1, ob_eq, if_neg (show ¬ (1 : Int32) = 0 by decide), pm_isMan1 hv hm' h1, ob_eq, if_neg (show ¬ (1 : Int32) = 0 by decide)]
  rcases zn_rng x2 0 1 (by omega) (by omega) with h2 | ⟨t, rfl, h2, h3⟩
  · rw [pm_isIn0 (show x2 < (0 : Int32) ∨ (1 : Int32) < x2 from h2), ob_eq, if_pos rfl]
    rcases h2 with h2 | h2
    · rw [if_pos (show x2 < (0 : Int32) from h2)]; exact rf _
    · rw [if_pos (show (1 : Int32) < x2 from h2), ite_self]; exact rf _
  rw [show f_X12_isIn (zn t) 0 1 = some 1 from pm_isIn1 (lo := 0) (hi := 1) h2 h3 (by omega), ob_eq, if_neg (show ¬ (1 : Int32) = 0 by decide), if_neg (zn_ge0 (by omega)), if_neg (show ¬ (1 : Int32) < zn t by rw [zn_l1, zn_lt (by omega) (by omega)]; omega)]
  have hMv := hV.2 m h1
  have h05 := hMv.1.1
  rw [show Mo_now (Mo_s_thrown M 0) = Mo_now M from rfl]
  simp only [zn_l444, zn_l486, zn_add, zb_zn (show 444 + m < 758 by omega) (show 444 + m < 2147483648 by omega), zb_zn (show 486 + m < 758 by omega) (show 486 + m < 2147483648 by omega), if_true, zn_nat (show 444 + m < 2147483648 by omega), zn_nat (show 486 + m < 2147483648 by omega), hF.g0 h1, hF.g7 h1, pc_of0 hv hK h1, ob_eq]
  rw [zn_l1, ifn_eq (by omega) (by omega), ifn_eq (by omega) (by omega)]
  by_cases q0 : pF_o F m 0 = 1
  · rw [if_pos q0, if_pos q0, pc_daysYet hv hK h1 h05, if_pos q0, ob_eq]
    obtain ⟨b0, hw⟩ := hMv.wk hv q0
    have hw' := hw
    obtain ⟨⟨w1, w2, w3, w4, w5, w6⟩, w7, w8, w9⟩ := hw'
    have h40 : pF_o F m 7 ≤ 40 := (hMv.2.2.2.2.2.1 q0).2.2.1
    rw [zn_l12, ifn_lt (by omega) (by omega), ifn_lt (by omega) (by omega)]
    by_cases q7 : 12 < pF_o F m 7
    · rw [if_pos q7, if_pos q7]; exact rf _
    rw [if_neg q7, if_neg q7]
    right
    have hl := pLv_le D m b0 (pF_o F m 4)
    have hg12 : pLv D m b0 (pF_o F m 4) (pF_o F m 6) = 12 := by rw [w5]; exact pLv_goal hv w3 w2 w4
    have hme := hv.me h1
    obtain ⟨xs, hx⟩ := pPt_ex (lv := pLv D m b0 (pF_o F m 4)) (pace := pD_me D m 1) (all := pF_o F m 6) (hope := decide (pWv (pLv D m b0 (pF_o F m 4)) (pD_me D m 1) (pF_o F m 6) (pF_o F m 7) (pF_o F m 5) ≠ 0)) (pF_o F m 7) (g := pF_o F m 5) (i := pF_o F m 9) w9 (fun h => by simpa using h)
    have hlen := pPt_len _ hx
    obtain ⟨P', t1, t2, t3, t4⟩ := pc_think hv hc hK hV h1 q0 hw (by omega) P hx
    obtain ⟨tw, li, ch, a', b', u1, u2, u3, u4⟩ := pm_layPlan hv hm hF h1 hw (by omega) (Mo_s_thrown M 0) (Mo_seed M) (Mo_roadThere M) (Mo_placeThere M)
    have bV : pWv (pLv D m b0 (pF_o F m 4)) (pD_me D m 1) (pF_o F m 6) (pF_o F m 7) (pF_o F m 5) < 9223372036854775808 := by
      have := Nat.le_trans (pWv_bd (pace := pD_me D m 1) (all := pF_o F m 6) hl (pF_o F m 7) (pF_o F m 5)) (pPow12 (k := pF_o F m 7) (by omega))
      omega
    have bT : 12 ^ pF_o F m 7 < 9223372036854775808 := by have := pPow12 (k := pF_o F m 7) (by omega); omega
    have bT0 : 0 < 12 ^ pF_o F m 7 := Nat.pow_pos (by omega)
    have u1' : f_X12_layPlan (Mo_s_thrown M 0) (zn m) (zn (pF_o F m 7)) = some (pM (pQ (Mo_s_thrown M 0) tw li ch) (Mo_now M) (Mo_seed M) a' b') := u1
    rw [u1', ob_eq, t1, ob_eq]
    generalize hY : pM (pQ (Mo_s_thrown M 0) tw li ch) (Mo_now M) (Mo_seed M) a' b' = Y
    have y1 : Mo_now Y = Mo_now M := by rw [← hY, pM_now]
    have y2 : Mo_twelves Y = tw := by rw [← hY, pQ_tw]
    have y3 : Mo_lives Y = li := by rw [← hY, pQ_li]
    have y4 : Mo_chance Y = ch := by rw [← hY, pQ_ch]
    obtain ⟨pl', r1, r2⟩ := pm_choose (lv := pLv D m b0 (pF_o F m 4)) (pace := pD_me D m 1) (all := pF_o F m 6) hl hg12 w6 (Y := Y) (by rw [y2]; exact u2) (by rw [y3]; exact u3) (days := pF_o F m 7) (by omega) (by rw [y4]; exact u4) bV (zn t) (pF_o F m 7) (g := pF_o F m 5) (i := pF_o F m 9) (kk := 0) (fu := zFU) (xs := xs) (Mo_planned Y) (by omega) (zFU_ge (by omega)) (by omega) (by omega) hx
    rw [Nat.zero_add] at r1
    have ech := u4 (pF_o F m 7) (Nat.le_refl _) (pF_o F m 5) (pF_o F m 9) w7 (by omega)
    have hM : f_X12_plan_b240 (pZ Y pl' (zn xs.length)) (zn t) (zn (pF_o F m 7)) (zq (pWv (pLv D m b0 (pF_o F m 4)) (pD_me D m 1) (pF_o F m 6) (pF_o F m 7) (pF_o F m 5))) = some (if t = 0 then Pl_above P' else Pl_below P', pZ Y pl' (zn xs.length)) := by
      unfold f_X12_plan_b240
      have bg := Nat.gcd_pos_of_pos_left (pWv (pLv D m b0 (pF_o F m 4)) (pD_me D m 1) (pF_o F m 6) (pF_o F m 7) (pF_o F m 5)) bT0
      have bg2 := Nat.gcd_le_left (pWv (pLv D m b0 (pF_o F m 4)) (pD_me D m 1) (pF_o F m 6) (pF_o F m 7) (pF_o F m 5)) bT0
      rw [zb_zn (by omega) (by omega), if_pos rfl, zn_nat (by omega), pZ_tw, y2, u2 _ (by omega), pm_commonLong bT bV, ob_eq, zq_nz (by omega) (by omega), if_pos rfl, if_pos rfl, if_pos rfl, zq_div bV (by omega), zq_div bT (by omega), t2, t3, Nat.gcd_comm (pWv _ _ _ _ _) (12 ^ _), zn_l0, ifn_eq (by omega) (by omega)]
      by_cases z : t = 0
      · rw [if_pos z, if_pos z]
      · rw [if_neg z, if_neg z]
    have r1' : f_X12_plan_L134 zFU (Mo_s_planLong Y 0) (zn t) (zn (pF_o F m 7)) (zn (pF_o F m 6)) (zn (pF_o F m 5)) (zn (pF_o F m 9)) (zq (pWv (pLv D m b0 (pF_o F m 4)) (pD_me D m 1) (pF_o F m 6) (pF_o F m 7) (pF_o F m 5))) (zn (pF_o F m 7)) = some (if t = 0 then Pl_above P' else Pl_below P', pZ Y pl' (zn xs.length)) := r1.trans hM
    refine ⟨if t = 0 then Pl_above P' else Pl_below P', P', tw, li, ch, a', b', pl', zn xs.length, ?_, ?_, xs.length, by omega, ?_, fun j hj => ?_⟩
    · rw [zn_l0, ifn_eq (by omega) (by omega)]
      by_cases z : t = 0
      · rw [if_pos z, if_pos z]
      · rw [if_neg z, if_neg z]
    · rw [hY, y1]
      unfold f_X12_at
      simp only [zn_l480, zn_l474, zn_l498, zn_add, zb_zn (show 480 + m < 758 by omega) (show 480 + m < 2147483648 by omega), zb_zn (show 474 + m < 758 by omega) (show 474 + m < 2147483648 by omega), zb_zn (show 498 + m < 758 by omega) (show 498 + m < 2147483648 by omega), if_true, zn_nat (show 480 + m < 2147483648 by omega), zn_nat (show 474 + m < 2147483648 by omega), zn_nat (show 498 + m < 2147483648 by omega), hF.g6 h1, hF.g5 h1, hF.g9 h1, ob_eq, zl_eq, zn_l542, zn_l2, zn_mul, zn_add]
      rw [zb_zn (show 542 * pF_o F m 7 + 2 * pF_o F m 5 + pF_o F m 9 < 7046 by omega) (by omega), if_pos rfl, zn_nat (by omega), y4, ech]
      exact r1'
    · exact pZ_n _ _ _
    · rw [pZ_pl, r2 j, t4 j hj, Nat.sub_zero, Nat.zero_add]
      by_cases z : j < xs.length
      · rw [if_pos z, if_pos z, if_pos ⟨Nat.zero_le _, z⟩]
      · rw [if_neg z, if_neg z]
  · rw [if_neg q0, if_neg q0]; exact rf _
end
