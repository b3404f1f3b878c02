/-! SENT: the call -/
theorem zo_decm (j : Nat) : zn j + (-1 : Int32) = zo j := by
  cases j with
  | zero => rfl
  | succ j =>
    show zn (j + 1) + (-1 : Int32) = zn j
    rw [← zi_zn, ← zi_zn, show (-1 : Int32) = zi (-1) from rfl, zi_add]; congr 1; omega
theorem pAW_bd {D : pD} {F : pF} (hv : pV D) (hV : pFv D F) {s : Nat} (hs2 : ∀ i, s.testBit i = true → i < pD_nm D) {f : Nat → Nat} (h : pAs D F s (pD_np D) f) : pAW D F s f < 1621000000 := by
  have hnp := hv.np
  have d9 : ∀ m, s.testBit m = true → f m ≤ 9 := fun m hb => by have := (h.1 m hb).1; omega
  have a1 := (pDgt d9 0).1
  have a2 : pFar D F s f 6 ≤ 1620 := pFar_le hv hV (i := 6) (by omega) hs2 (fun m _ hb => h.1 m hb)
  have a3 : pAW D F s f = pFar D F s f 6 * 1000000 + _ := pAW_parts
  rw [a3]; omega
section
variable {D : pD} {L : LdT} {M : MoT} {F : pF} {K : FkT}
theorem pc_safe_loop (hv : pV D) (hK : pFc D F K) (hV : pFv D F) : ∀ (d : Nat) {k fu : Nat} (x : Nat), k + d = pD_nm D → d + 1 ≤ fu → x < 2 ^ k → (∀ i, x.testBit i = true ↔ i < k ∧ pF_o F i 0 = 0) →
    ∃ s, s < 2 ^ pD_nm D ∧ (∀ i, s.testBit i = true ↔ i < pD_nm D ∧ pF_o F i 0 = 0) ∧ f_X1_menWho_L5 K fu (zn (pD_nm D)) (0 : Int32) (zn x) (zn k) = some (zn s) := by
  have hnm := hv.nm
  intro d
  induction d with
  | zero =>
    intro k fu x h1 h2 h3 h4
    cases fu with
    | zero => omega
    | succ fu =>
      have e : k = pD_nm D := by omega
      rw [e] at h3 h4
      refine ⟨x, h3, h4, ?_⟩
      show f_X1_menWho_H5 K (f_X1_menWho_L5 K fu) (zn (pD_nm D)) (0 : Int32) (zn x) (zn k) = _
      unfold f_X1_menWho_H5
      rw [if_neg (by rw [zn_lt (by omega) (by omega)]; omega)]
  | succ d ih =>
    intro k fu x h1 h2 h3 h4
    cases fu with
    | zero => omega
    | succ fu =>
      have hk : k < pD_nm D := by omega
      have h5 := (hV.2 k hk).1.1
      have e2 : 2 ^ (k + 1) = 2 ^ k + 2 ^ k := by rw [Nat.pow_succ]; omega
      show ∃ s, _ ∧ _ ∧ f_X1_menWho_H5 K (f_X1_menWho_L5 K fu) (zn (pD_nm D)) (0 : Int32) (zn x) (zn k) = _
      unfold f_X1_menWho_H5 f_X1_menWho_b29
      rw [if_pos (by rw [zn_lt (by omega) (by omega)]; omega), pc_of0 hv hK hk, ob_eq, zn_l0, ifn_eq (by omega) (by omega), zn_shl1 (by omega), zn_or, pOr_add h3, show zn k + 1 = zn (k + 1) from zn_add k 1]
      by_cases q : pF_o F k 0 = 0
      · rw [if_pos q]
        refine ih (x + 2 ^ k) (by omega) (by omega) (by omega) (fun i => ?_)
        rw [pTb_add h3]
        by_cases y : i = k
        · rw [if_pos y, y]; exact ⟨fun _ => ⟨by omega, q⟩, fun _ => rfl⟩
        · rw [if_neg y, h4]
          constructor
          · rintro ⟨a, b⟩; exact ⟨by omega, b⟩
          · rintro ⟨a, b⟩; exact ⟨by omega, b⟩
      · rw [if_neg q]
        refine ih x (by omega) (by omega) (by omega) (fun i => ?_)
        rw [h4]
        constructor
        · rintro ⟨a, b⟩; exact ⟨by omega, b⟩
        · rintro ⟨a, b⟩
          refine ⟨?_, b⟩
          by_cases y : i = k
          · rw [y] at b; exact absurd b q
          · omega
theorem pc_safe (hv : pV D) (hK : pFc D F K) (hV : pFv D F) : ∃ s, s < 64 ∧ (∀ i, s.testBit i = true ↔ i < pD_nm D ∧ pF_o F i 0 = 0) ∧ f_X1_menWho K (zn (pD_nm D)) (0 : Int32) = some (zn s) := by
  have hnm := hv.nm
  obtain ⟨s, h1, h2, h3⟩ := pc_safe_loop hv hK hV (pD_nm D) (k := 0) (fu := zFU) 0 (by omega) (zFU_ge (by omega)) (by omega) (fun i => by rw [Nat.zero_testBit]; simp)
  have : 2 ^ pD_nm D ≤ 2 ^ 6 := Nat.pow_le_pow_right (by omega) hnm
  exact ⟨s, by omega, h2, h3⟩
theorem pc_send_ports (hv : pV D) (hc : pLc D L) (hK : pFc D F K) (hV : pFv D F) {s : Nat} (hs : s < 64) (hs2 : ∀ i, s.testBit i = true → i < pD_nm D) : ∀ (d : Nat) {p fu : Nat} (S : SnT) (B : Nat → Nat), p + d = pD_np D → d + 1 ≤ fu → (∀ t, t < 64 → Sn_best S t = zq (B t)) → (∀ t, B t ≤ 1000000000000) → pDP D F s p B →
    ∃ S' B', f_X9_send_L30 L K fu S (zn s) (zn p) = f_X9_send_L30 L K 1 S' (zn s) (zn (pD_np D)) ∧ Sn_ports S' = Sn_ports S ∧ (∀ t, t < 64 → Sn_best S' t = zq (B' t)) ∧ (∀ t, B' t ≤ 1000000000000) ∧ pDP D F s (pD_np D) B' := by
  have hnp := hv.np
  intro d
  induction d with
  | zero =>
    intro p fu S B h1 h2 h3 h4 h5
    cases fu with
    | zero => omega
    | succ fu =>
      have e : p = pD_np D := by omega
      subst e
      refine ⟨S, B, ?_, rfl, h3, h4, h5⟩
      show f_X9_send_H30 S L K (f_X9_send_L30 L K fu) (zn s) (zn (pD_np D)) = f_X9_send_H30 S L K (f_X9_send_L30 L K 0) (zn s) (zn (pD_np D))
      unfold f_X9_send_H30
      have c : ¬ zn (pD_np D) < Ld_places L := by rw [hc.1.1, zn_lt (by omega) (by omega)]; omega
      rw [if_neg c, if_neg c]
  | succ d ih =>
    intro p fu S B h1 h2 h3 h4 h5
    cases fu with
    | zero => omega
    | succ fu =>
      have hp : p < pD_np D := by omega
      have hpl := hv.pl hp
      show ∃ S' B', f_X9_send_H30 S L K (f_X9_send_L30 L K fu) (zn s) (zn p) = _ ∧ _
      unfold f_X9_send_H30 f_X9_send_b69
      have c : zn p < Ld_places L := by rw [hc.1.1, zn_lt (by omega) (by omega)]; omega
      rw [if_pos c, pc_isPort1 hv hc hp, ob_eq, show zn p + 1 = zn (p + 1) from zn_add p 1]
      by_cases q : pD_pl D p 0 = 2
      · obtain ⟨C, k1, k2⟩ := pc_weigh_all hv hc hK hV hp hs hs2 S
        have hC : ∀ t, pSu (pCo D F s p) t 6 ≤ 7000000000000 := fun t => by
          have : pSu (pCo D F s p) t 6 ≤ 6 * 1000000000000 := pSu_bd _ 6 (fun i _ _ => pCo_le hv hV hp hs2)
          omega
        obtain ⟨b, B2, j1, j2, j3, j4⟩ := pc_spread (C := fun t => pSu (pCo D F s p) t 6) (B := B) (H := pD_pl D p 3) (a := s) (by omega) hs h4 hC s (fu := zFU) (Sn_s_costs S C) B hs (zFU_ge (by omega)) k2 (fun t ht => ⟨h3 t ht, h4 t⟩) (fun _ _ => rfl) (fun t t1 t2 => by have := pSub_le t2; omega)
        rw [if_pos q, if_neg (show ¬ (1 : Int32) = 0 by decide), k1, ob_eq, show f_X3_ofPlace L (zn p) (3 : Int32) = some (zn (pD_pl D p 3)) from pc_ofPlace (k := 3) hv hc hp (by omega), ob_eq]
        unfold f_X9_spread
        rw [j1, ob_eq]
        obtain ⟨S', B', r1, r2, r3, r4, r5⟩ := ih (p := p + 1) (fu := fu) (Sn_s_best (Sn_s_costs S C) b) (fun t => if t < 64 then B2 t else 0) (by omega) (by omega) (fun t ht => by
          show b t = _
          rw [(j2 t ht).1, if_pos ht]) (fun t => by
          show (if t < 64 then B2 t else 0) ≤ _
          split
          · rename_i w; exact (j2 t w).2
          · omega) (pDP_port hs q h5 (by show (if 0 < 64 then B2 0 else 0) = _; rw [if_pos (by omega)]; exact j3) (fun t t1 t2 => by
          have := pSub_le t2
          show pPr _ _ _ _ _ (if t < 64 then B2 t else 0)
          rw [if_pos (by omega)]; exact j4 t t1 t2))
        exact ⟨S', B', r1, r2, r3, r4, r5⟩
      · rw [if_neg q, if_pos rfl]
        exact ih (p := p + 1) (fu := fu) S B (by omega) (by omega) h3 h4 (pDP_skip q h5)
theorem pc_give (L : LdT) (K : FkT) {s W : Nat} (hs : s < 64) (hW : W < 1621000000) : ∀ (j : Nat) {fu : Nat} (S : SnT), j ≤ 6 → j + 1 ≤ fu → Sn_best S s = zq W → (∀ m, j ≤ m → m < 6 → Sn_ports S m = if s.testBit m = true then zn (W / 10 ^ (5 - m) % 10) else zm) →
    ∃ S', f_X9_send_L105 L K fu S (zn s) (zq (W % 1000000 / 10 ^ (6 - j))) (zo j) = some (zn (W / 1000000), S') ∧ ∀ m, m < 6 → Sn_ports S' m = if s.testBit m = true then zn (W / 10 ^ (5 - m) % 10) else zm := by
  intro j
  induction j with
  | zero =>
    intro fu S h1 h2 h3 h4
    cases fu with
    | zero => omega
    | succ fu =>
      refine ⟨S, ?_, fun m hm => h4 m (by omega) hm⟩
      show f_X9_send_H105 S L K (f_X9_send_L105 L K fu) (zn s) _ (zo 0) = _
      unfold f_X9_send_H105
      rw [if_pos (by decide), zb_zn hs (by omega), if_pos rfl, zn_nat (by omega), h3, zq_l1000000, zq_div (by omega) (by omega), zq_toI (by omega)]
  | succ j ih =>
    intro fu S h1 h2 h3 h4
    cases fu with
    | zero => omega
    | succ fu =>
      have hd : W % 1000000 < 1000000 := Nat.mod_lt _ (by omega)
      have hq : W % 1000000 / 10 ^ (6 - (j + 1)) ≤ W % 1000000 := Nat.div_le_self _ _
      have e1 : W % 1000000 / 10 ^ (6 - (j + 1)) / 10 = W % 1000000 / 10 ^ (6 - j) := by
        rw [Nat.div_div_eq_div_mul, ← Nat.pow_succ]; congr 2; omega
      have e2 : W % 1000000 / 10 ^ (6 - (j + 1)) % 10 = W / 10 ^ (5 - j) % 10 := by
        rcases (show j = 0 ∨ j = 1 ∨ j = 2 ∨ j = 3 ∨ j = 4 ∨ j = 5 by omega) with rfl | rfl | rfl | rfl | rfl | rfl
        · show W % 1000000 / 100000 % 10 = W / 100000 % 10; omega
        · show W % 1000000 / 10000 % 10 = W / 10000 % 10; omega
        · show W % 1000000 / 1000 % 10 = W / 1000 % 10; omega
        · show W % 1000000 / 100 % 10 = W / 100 % 10; omega
        · show W % 1000000 / 10 % 10 = W / 10 % 10; omega
        · show W % 1000000 / 1 % 10 = W / 1 % 10; omega
      have e3 : zo (j + 1) + (-1 : Int32) = zo j := by
        exact zo_decm j
      have go : ∀ v, v = (if s.testBit j = true then zn (W / 10 ^ (5 - j) % 10) else zm) → ∃ S', f_X9_send_b137 S L K (f_X9_send_L105 L K fu) (zn s) (zq (W % 1000000 / 10 ^ (6 - (j + 1)))) (zo (j + 1)) v (zo (j + 1)) = some (zn (W / 1000000), S') ∧ ∀ m, m < 6 → Sn_ports S' m = if s.testBit m = true then zn (W / 10 ^ (5 - m) % 10) else zm := by
        intro v hv
        unfold f_X9_send_b137
        rw [show zb_in (zo (j + 1)) 6 = true from zb_zn (by omega) (by omega), if_pos rfl, zl_eq, zq_l10, zq_div (by omega) (by omega), e1, e3, show (zo (j + 1)).toNatClampNeg = j from zn_nat (by omega)]
        refine ih (fu := fu) _ (by omega) (by omega) h3 (fun m m1 m2 => ?_)
        show upd (Sn_ports S) j v m = _
        by_cases y : m = j
        · rw [y, pu_eq, hv]
        · rw [pu_ne _ _ y]; exact h4 m (by omega) m2
      show ∃ S', f_X9_send_H105 S L K (f_X9_send_L105 L K fu) (zn s) _ (zn j) = _ ∧ _
      unfold f_X9_send_H105
      simp only [if_neg (zn_ge0 (show j < 2147483648 by omega)), zn_bit1 (show s < 2147483648 by omega) (show j < 32 by omega)]
      by_cases b : s.testBit j = true
      · rw [if_pos b]
        refine go _ ?_
        rw [if_pos b, zq_l10, zq_rem (by omega) (by omega), zq_toI (by omega), e2]
      · rw [if_neg b]
        refine go _ ?_
        rw [if_neg b]; rfl
theorem pc_send (hv : pV D) (hc : pLc D L) (hK : pFc D F K) (hV : pFv D F) {s : Nat} (hs : s < 64) (hs2 : ∀ i, s.testBit i = true ↔ i < pD_nm D ∧ pF_o F i 0 = 0) (hw : f_X1_menWho K (zn (pD_nm D)) (0 : Int32) = some (zn s)) (S : SnT) :
    ∃ S' W, (∀ f, pAs D F s (pD_np D) f → W ≤ pAW D F s f) ∧ ((W < 100000000000 ∧ (∃ f, pAs D F s (pD_np D) f ∧ W = pAW D F s f) ∧ f_X9_send S L K = some (zn (W / 1000000), S') ∧ ∀ m, m < 6 → Sn_ports S' m = if s.testBit m = true then zn (W / 10 ^ (5 - m) % 10) else zm) ∨ (1000000000000 ≤ W ∧ f_X9_send S L K = some (-1, S') ∧ Sn_ports S' = Sn_ports S)) := by
  have hnp := hv.np
  have hs3 : ∀ i, s.testBit i = true → i < pD_nm D := fun i h => ((hs2 i).mp h).1
  unfold f_X9_send
  rw [hc.1.2.2.1, hw, ob_eq, zl_eq, zl_eq]
  obtain ⟨S', B', r1, r2, r3, r4, r5⟩ := pc_send_ports hv hc hK hV hs hs3 (pD_np D) (p := 0) (fu := zFU) (Sn_s_best (Sn_s_best S (zr_fill 64 (Sn_best S) 1000000000000)) (vp_updL (Sn_best (Sn_s_best S (zr_fill 64 (Sn_best S) 1000000000000))) 0 0)) (fun t => if t = 0 then 0 else 1000000000000) (by omega) (zFU_ge (by omega)) (fun t ht => by
    show vp_updL (zr_fill 64 (Sn_best S) 1000000000000) 0 0 t = _
    by_cases y : t = 0
    · rw [y, vu_eq]; rfl
    · rw [vu_ne _ _ y]
      show (if t < 64 then _ else _) = zq (if t = 0 then 0 else 1000000000000)
      rw [if_pos ht, if_neg y]; rfl) (fun t => by show (if t = 0 then 0 else 1000000000000) ≤ 1000000000000; split <;> omega) (pDP_0 rfl (fun t _ ht => if_neg ht))
  rw [show (0 : Int32).toNatClampNeg = 0 from rfl, show (0 : Int32) = zn 0 from rfl, r1]
  show ∃ S'' W, _ ∧ ((_ ∧ _ ∧ f_X9_send_H30 S' L K (f_X9_send_L30 L K 0) (zn s) (zn (pD_np D)) = _ ∧ _) ∨ (_ ∧ f_X9_send_H30 S' L K (f_X9_send_L30 L K 0) (zn s) (zn (pD_np D)) = _ ∧ _))
  unfold f_X9_send_H30
  have c : ¬ zn (pD_np D) < Ld_places L := by rw [hc.1.1, zn_lt (by omega) (by omega)]; omega
  have hB := r4 s
  obtain ⟨d1, d2⟩ := r5 s (Nat.and_self s)
  simp only [if_neg c, zb_zn hs (show s < 2147483648 by omega), if_true, zn_nat (show s < 2147483648 by omega), r3 s hs, zq_l1000000000000, zq_l1000000]
  simp only [zq_cmpN (show B' s < 9223372036854775808 by omega) (show 1000000000000 < 9223372036854775808 by omega), zq_rem (show B' s < 9223372036854775808 by omega) (show 1000000 < 9223372036854775808 by omega)]
  by_cases q : B' s < 1000000000000
  · obtain ⟨f, f1, f2⟩ := d2 q
    have hb := pAW_bd hv hV hs3 f1
    obtain ⟨S2, g1, g2⟩ := pc_give L K hs (W := B' s) (by omega) 6 (fu := zFU) S' (Nat.le_refl _) (zFU_ge (by omega)) (r3 s hs) (fun m m1 m2 => by omega)
    refine ⟨S2, B' s, d1, Or.inl ⟨by omega, ⟨f, f1, f2⟩, ?_, g2⟩⟩
    rw [if_pos q]
    have e : B' s % 1000000 / 10 ^ (6 - 6) = B' s % 1000000 := by simp
    rw [e] at g1
    exact g1
  · refine ⟨S', B' s, d1, Or.inr ⟨by omega, ?_, r2⟩⟩
    rw [if_neg q]
theorem pm_spare_loop (M : MoT) : ∀ (d : Nat) {k fu : Nat} (sp : Nat → Int32), k + d = 6 → d + 1 ≤ fu → (∀ i, i < k → sp i = Mo_given M i) →
    ∃ sp', f_X12_sent_L7 fu (Mo_s_spare M sp) (zn k) = f_X12_sent_L33 zFU (Mo_s_spare M sp') (0 : Int32) ∧ ∀ i, i < 6 → sp' i = Mo_given M i := by
  intro d
  induction d with
  | zero =>
    intro k fu sp h1 h2 h3
    cases fu with
    | zero => omega
    | succ fu =>
      refine ⟨sp, ?_, fun i hi => h3 i (by omega)⟩
      show f_X12_sent_H7 (Mo_s_spare M sp) (f_X12_sent_L7 fu) (zn k) = _
      unfold f_X12_sent_H7
      rw [if_neg (by rw [zn_l6, zn_lt (by omega) (by omega)]; omega)]
  | succ d ih =>
    intro k fu sp h1 h2 h3
    cases fu with
    | zero => omega
    | succ fu =>
      obtain ⟨sp', e, h⟩ := ih (k := k + 1) (fu := fu) (upd sp k (Mo_given M k)) (by omega) (by omega) (fun i hi => by
        by_cases y : i = k
        · rw [y, pu_eq]
        · rw [pu_ne _ _ y]; exact h3 i (by omega))
      refine ⟨sp', ?_, h⟩
      show f_X12_sent_H7 (Mo_s_spare M sp) (f_X12_sent_L7 fu) (zn k) = _
      unfold f_X12_sent_H7
      rw [if_pos (by rw [zn_l6, zn_lt (by omega) (by omega)]; omega), zb_zn (by omega) (by omega), if_pos rfl, if_pos rfl, zl_eq, zn_nat (by omega), show zn k + 1 = zn (k + 1) from zn_add k 1]
      have e1 : Mo_s_spare (Mo_s_spare M sp) (upd (Mo_spare (Mo_s_spare M sp)) k (Mo_given (Mo_s_spare M sp) k)) = Mo_s_spare M (upd sp k (Mo_given M k)) := by simp only [Mo_s_spare, Mo_spare, Mo_given]
      rw [e1]; exact e
theorem pm_held_loop (M : MoT) (k33 : MoT → Option (Int32 × MoT)) (hk : ∀ he, k33 (Mo_s_held M he) = f_X12_sent_H33 (Mo_s_held M he) (f_X12_sent_L33 0) (zn 10)) : ∀ (d : Nat) {k fu : Nat} (he : Nat → Int32), k + d = 10 → d + 1 ≤ fu → (∀ i, i < k → he i = zn 0) →
    ∃ he', f_X12_sent_L33 fu (Mo_s_held M he) (zn k) = k33 (Mo_s_held M he') ∧ ∀ i, i < 10 → he' i = zn 0 := by
  intro d
  induction d with
  | zero =>
    intro k fu he h1 h2 h3
    cases fu with
    | zero => omega
    | succ fu =>
      refine ⟨he, ?_, fun i hi => h3 i (by omega)⟩
      have e : k = 10 := by omega
      subst e
      rw [hk]
      show f_X12_sent_H33 (Mo_s_held M he) (f_X12_sent_L33 fu) (zn 10) = _
      unfold f_X12_sent_H33
      rw [if_neg (by decide), if_neg (by decide)]
  | succ d ih =>
    intro k fu he h1 h2 h3
    cases fu with
    | zero => omega
    | succ fu =>
      obtain ⟨he', e, h⟩ := ih (k := k + 1) (fu := fu) (upd he k (0 : Int32)) (by omega) (by omega) (fun i hi => by
        by_cases y : i = k
        · rw [y, pu_eq]; rfl
        · rw [pu_ne _ _ y]; exact h3 i (by omega))
      refine ⟨he', ?_, h⟩
      show f_X12_sent_H33 (Mo_s_held M he) (f_X12_sent_L33 fu) (zn k) = _
      unfold f_X12_sent_H33
      rw [if_pos (by rw [zn_l10, zn_lt (by omega) (by omega)]; omega), zb_zn (by omega) (by omega), if_pos rfl, zl_eq, zn_nat (by omega), show zn k + 1 = zn (k + 1) from zn_add k 1]
      have e1 : Mo_s_held (Mo_s_held M he) (upd (Mo_held (Mo_s_held M he)) k (0 : Int32)) = Mo_s_held M (upd he k (0 : Int32)) := by simp only [Mo_s_held, Mo_held]
      rw [e1]; exact e
theorem pm_restore_loop (M : MoT) (gi he : Nat → Int32) (sl : Int32) : ∀ (d : Nat) {k fu : Nat} (gv : Nat → Int32), k + d = 6 → d + 1 ≤ fu → (∀ i, i < k → gv i = Mo_spare M i) →
    ∃ gv', f_X12_sent_L75 fu (pE M gi gv he sl) (zn k) = some (-1, pE M gi gv' he sl) ∧ ∀ i, i < 6 → gv' i = Mo_spare M i := by
  intro d
  induction d with
  | zero =>
    intro k fu gv h1 h2 h3
    cases fu with
    | zero => omega
    | succ fu =>
      refine ⟨gv, ?_, fun i hi => h3 i (by omega)⟩
      show f_X12_sent_H75 (pE M gi gv he sl) (f_X12_sent_L75 fu) (zn k) = _
      unfold f_X12_sent_H75
      rw [if_neg (by rw [zn_l6, zn_lt (by omega) (by omega)]; omega)]
  | succ d ih =>
    intro k fu gv h1 h2 h3
    cases fu with
    | zero => omega
    | succ fu =>
      obtain ⟨gv', e, h⟩ := ih (k := k + 1) (fu := fu) (upd gv k (Mo_spare M k)) (by omega) (by omega) (fun i hi => by
        by_cases y : i = k
        · rw [y, pu_eq]
        · rw [pu_ne _ _ y]; exact h3 i (by omega))
      refine ⟨gv', ?_, h⟩
      show f_X12_sent_H75 (pE M gi gv he sl) (f_X12_sent_L75 fu) (zn k) = _
      unfold f_X12_sent_H75
      have e0 : Mo_spare (pE M gi gv he sl) = Mo_spare M := by unfold pE Mo_spare; rfl
      rw [if_pos (by rw [zn_l6, zn_lt (by omega) (by omega)]; omega), zb_zn (by omega) (by omega), if_pos rfl, if_pos rfl, zl_eq, zn_nat (by omega), show zn k + 1 = zn (k + 1) from zn_add k 1, pE_given, pE_s_given, e0]
      exact e
theorem q_sent (hv : pV D) (hc : pLc D L) (hm : pLm D (Mo_now M)) (hK : pFc D F K) (hF : pFm D F (Mo_now M)) (hV : pFv D F) (X : XxT) {S : SnT} (h : pSent S M) :
    ∃ r S' gi gv he sl sp hs, f_X11_sent X S L K = some (r, S') ∧ f_X12_sent M = some (r, Mo_s_hasSent (pE (Mo_s_spare (Mo_s_thrown M 0) sp) gi gv he sl) hs) ∧ pSent S' (Mo_s_hasSent (pE (Mo_s_spare (Mo_s_thrown M 0) sp) gi gv he sl) hs) := by
  have hnp := hv.np
  have hnm := hv.nm
  obtain ⟨s, s1, s2, s3⟩ := pc_safe hv hK hV
  have hs3 : ∀ i, s.testBit i = true → i < pD_nm D := fun i h => ((s2 i).mp h).1
  obtain ⟨S', W, w1, w2⟩ := pc_send hv hc hK hV s1 s2 s3 S
  unfold f_X11_sent f_X12_sent
  rw [zl_eq]
  obtain ⟨sp, a1, a2⟩ := pm_spare_loop (Mo_s_thrown M 0) 6 (k := 0) (fu := zFU) (Mo_spare (Mo_s_thrown M 0)) (by omega) (zFU_ge (by omega)) (fun i hi => by omega)
  rw [show Mo_s_spare (Mo_s_thrown M 0) (Mo_spare (Mo_s_thrown M 0)) = Mo_s_thrown M 0 from rfl] at a1
  rw [show (0 : Int32) = zn 0 from rfl] at a1 ⊢
  rw [a1]
  generalize hM1 : Mo_s_spare (Mo_s_thrown M (zn 0)) sp = M1
  have n1 : Mo_now M1 = Mo_now M := by rw [← hM1]; rfl
  have n2 : Mo_spare M1 = sp := by rw [← hM1]; rfl
  have n3 : Mo_hasSent M1 = Mo_hasSent M := by rw [← hM1]; rfl
  have n4 : Mo_given M1 = Mo_given M := by rw [← hM1]; rfl
  rw [← n1] at hm hF
  obtain ⟨he, b1, b2⟩ := pm_held_loop M1 (fun y => f_X12_sent_H33 y (f_X12_sent_L33 0) (zn 10)) (fun _ => rfl) 10 (k := 0) (fu := zFU) (Mo_held M1) (by omega) (zFU_ge (by omega)) (fun i hi => by omega)
  rw [show Mo_s_held M1 (Mo_held M1) = M1 from rfl] at b1
  rw [b1]
  unfold f_X12_sent_H33
  rw [if_neg (show ¬ zn 10 < (10 : Int32) by decide), zl_eq]
  have e1 : Mo_s_sentLeast (Mo_s_held M1 he) (100000 : Int32) = pE M1 (Mo_giving M1) (Mo_given M1) he (zn (100000000000 / 1000000)) := by
    unfold pE
    rw [show Mo_s_giving M1 (Mo_giving M1) = M1 from rfl, show Mo_s_given M1 (Mo_given M1) = M1 from rfl]; rfl
  rw [e1]
  have z0 : ∀ u : Nat → Nat, pSu u s 0 = 0 := fun _ => rfl
  obtain ⟨gi', gv', he', W', p1, p2, p3, p4, p5, p6, p7⟩ := pm_sendFrom hv hV hm hF s2 (G0 := Mo_given M1) 10 (i := 0) (Nat.zero_le _) (by omega) (fun _ => 0) (Mo_giving M1) (Mo_given M1) he 100000000000 ⟨fun m hm => by omega, fun p hp => by rw [b2 p (by omega)]; rfl, fun m hm => by omega, fun p hp _ => Nat.zero_le _⟩ (Or.inl ⟨rfl, fun _ _ => rfl⟩) (Or.inl rfl)
  rw [show f_X12_sendFrom 10 (pE M1 (Mo_giving M1) (Mo_given M1) he (zn (100000000000 / 1000000))) (0 : Int32) (0 : Int32) = _ from p1, ob_eq, pE_sl]
  have hW' := pBs_le p2
  have x6 : ∀ f, pAs D F s (pD_np D) f → W' ≤ pAW D F s f := fun f hf => p6 f hf (fun m hm => by omega) (Nat.zero_le _)
  rcases w2 with ⟨w2, ⟨f, f1, f2⟩, w3, w4⟩ | ⟨w2, w3, w4⟩
  · have hb := pAW_bd hv hV hs3 f1
    have hl := x6 f f1
    have eW : W' = W := by
      rcases p7 with p7 | ⟨f', f1', _, f3'⟩
      · omega
      · have := w1 f' f1'; omega
    rcases p2 with p2 | p2
    · omega
    rw [w3, ob_eq, if_pos (by rw [zn_l100000, zn_lt (by omega) (by omega)]; omega), zl_eq, eW]
    refine ⟨_, S', gi', gv', he', zn (W / 1000000), sp, 1, rfl, ?_, Or.inr ⟨rfl, fun i hi => ?_⟩⟩
    · rw [hM1]
      have : Mo_sentLeast (Mo_s_hasSent (pE M1 gi' gv' he' (zn (W / 1000000))) 1) = zn (W / 1000000) := by unfold pE Mo_sentLeast Mo_s_hasSent; rfl
      rw [this]
    · have : Mo_given (Mo_s_hasSent (pE (Mo_s_spare (Mo_s_thrown M (zn 0)) sp) gi' gv' he' (zn (W / 1000000))) 1) = gv' := by unfold pE Mo_given Mo_s_hasSent; rfl
      rw [this, w4 i hi, p2.2 i hi, eW]
  · have eW : W' = 100000000000 := by
      rcases p7 with p7 | ⟨f', f1', _, f3'⟩
      · exact p7
      · have := w1 f' f1'
        have := pAW_bd hv hV hs3 f1'
        omega
    rw [w3, ob_eq, eW, if_neg (by decide)]
    obtain ⟨gv2, g1, g2⟩ := pm_restore_loop M1 gi' he' (zn (100000000000 / 1000000)) 6 (k := 0) (fu := zFU) gv' (by omega) (zFU_ge (by omega)) (fun i hi => by omega)
    rw [show (0 : Int32) = zn 0 from rfl, g1]
    have eg : ∀ i, i < 6 → gv2 i = Mo_given M i := fun i hi => by rw [g2 i hi, n2, a2 i hi]; rfl
    have e5 : Mo_s_hasSent (pE M1 gi' gv2 he' (zn (100000000000 / 1000000))) (Mo_hasSent M) = pE M1 gi' gv2 he' (zn (100000000000 / 1000000)) := by rw [← n3]; unfold pE; rfl
    refine ⟨_, S', gi', gv2, he', zn (100000000000 / 1000000), sp, Mo_hasSent M, rfl, ?_, ?_⟩
    · rw [hM1, e5]
    · have q1 : Mo_given (Mo_s_hasSent (pE (Mo_s_spare (Mo_s_thrown M (zn 0)) sp) gi' gv2 he' (zn (100000000000 / 1000000))) (Mo_hasSent M)) = gv2 := by unfold pE Mo_given Mo_s_hasSent; rfl
      have q2 : Mo_hasSent (Mo_s_hasSent (pE (Mo_s_spare (Mo_s_thrown M (zn 0)) sp) gi' gv2 he' (zn (100000000000 / 1000000))) (Mo_hasSent M)) = Mo_hasSent M := rfl
      unfold pSent
      rw [q1, q2, w4]
      rcases h with h | h
      · exact Or.inl h
      · exact Or.inr ⟨h.1, fun i hi => by rw [eg i hi]; exact h.2 i hi⟩
end
