/-! CUT: the search -/
theorem pCnt_new {vis : Nat → Bool} {q : Nat} (h : vis q = false) : ∀ n, pCnt (fun w => if w = q then true else vis w) n = pCnt vis n + (if q < n then 1 else 0)
  | 0 => rfl
  | n + 1 => by
    show pCnt (fun w => if w = q then true else vis w) n + (if (if n = q then true else vis n) = true then 1 else 0) = pCnt vis n + (if vis n = true then 1 else 0) + (if q < n + 1 then 1 else 0)
    rw [pCnt_new h n]
    by_cases e : n = q
    · subst e
      rw [h, if_pos rfl, if_pos rfl, if_neg (Nat.lt_irrefl n), if_pos (Nat.lt_succ_self n)]; simp
    · rw [if_neg e]
      by_cases l : q < n
      · rw [if_pos l, if_pos (show q < n + 1 by omega)]; omega
      · rw [if_neg l, if_neg (show ¬ q < n + 1 by omega)]; omega
theorem pCnt_none : ∀ n, pCnt (fun _ => false) n = 0
  | 0 => rfl
  | n + 1 => by
    show pCnt (fun _ => false) n + _ = 0
    rw [pCnt_none n]; rfl
theorem pOp_ends {D : pD} (hv : pV D) {kp : Nat} {x : Nat → Int} {r p q : Nat} (hr : r < pD_nr D) (h : pOp D kp x r p q) : q < pD_np D := by
  have := (hv.ro hr).1
  rcases h with ⟨_, h, _⟩ | ⟨_, h, _⟩ <;> omega
theorem pOp_uniq {D : pD} (hv : pV D) {kp : Nat} {x : Nat → Int} {r p q q' : Nat} (hr : r < pD_nr D) (h : pOp D kp x r p q) (h' : pOp D kp x r p q') : q' = q := by
  have := (hv.ro hr).1.2.2
  rcases h with ⟨h1, h2, _⟩ | ⟨h1, h2, _⟩ <;> rcases h' with ⟨g1, g2, _⟩ | ⟨g1, g2, _⟩ <;> omega
/-- how far the search is -/
def pSe (D : pD) (kp a : Nat) (x : Nat → Int) (C : CtT) (sz : Nat) (vis : Nat → Bool) (by_ pa rk : Nat → Nat) : Prop :=
  pTr D kp a x vis by_ pa rk ∧ (∀ w, w < pD_np D → Ct_cameBy C w = if vis w = true ∧ w ≠ a then zn (by_ w) else zm) ∧ (∀ w, vis w = true → rk w < sz ∧ Ct_queue C (rk w) = zn w) ∧ (∀ i, i < sz → ∃ w, vis w = true ∧ rk w = i) ∧ pCnt vis (pD_np D) = sz ∧ ∀ r, r < pD_nr D → Ct_flows C r = zi (x r)
def pDone (D : pD) (kp : Nat) (x : Nat → Int) (vis : Nat → Bool) (w n : Nat) : Prop := ∀ r, r < n → ∀ q, pOp D kp x r w q → vis q = true
theorem pSe_new {D : pD} {kp a : Nat} {x : Nat → Int} {C : CtT} {sz : Nat} {vis : Nat → Bool} {by_ pa rk : Nat → Nat} (h : pSe D kp a x C sz vis by_ pa rk) {r p q : Nat} (hr : r < pD_nr D) (hp : vis p = true) (hq : q < pD_np D) (ho : pOp D kp x r p q) (hn : vis q = false) (C' : CtT) (c1 : Ct_cameBy C' = upd (Ct_cameBy C) q (zn r)) (c2 : Ct_queue C' = upd (Ct_queue C) sz (zn q)) (c3 : Ct_flows C' = Ct_flows C) :
    pSe D kp a x C' (sz + 1) (fun w => if w = q then true else vis w) (fun w => if w = q then r else by_ w) (fun w => if w = q then p else pa w) (fun w => if w = q then sz else rk w) := by
  obtain ⟨⟨t1, t2, t3⟩, h2, h3, h4, h5, h6⟩ := h
  have qa : a ≠ q := by intro e; rw [e] at t1; rw [t1] at hn; exact absurd hn (by decide)
  have nq : ∀ w, vis w = true → w ≠ q := by intro w hw e; rw [e] at hw; rw [hw] at hn; exact absurd hn (by decide)
  refine ⟨⟨?_, ?_, fun w hw => ?_⟩, fun w hw => ?_, fun w hw => ?_, fun i hi => ?_, ?_, fun r hr => by rw [c3]; exact h6 r hr⟩
  · simp only [if_neg qa]; exact t1
  · simp only [if_neg qa]; exact t2
  · by_cases e : w = q
    · subst e
      refine ⟨hq, fun _ => ?_⟩
      simp only [if_true, if_neg (nq p hp)]
      exact ⟨hr, hp, (h3 p hp).1, ho⟩
    · simp only [if_neg e] at hw ⊢
      obtain ⟨g1, g2⟩ := t3 w hw
      refine ⟨g1, fun z => ?_⟩
      obtain ⟨k1, k2, k3, k4⟩ := g2 z
      rw [if_neg (nq _ k2), if_neg (nq _ k2)]
      exact ⟨k1, k2, k3, k4⟩
  · rw [c1]
    by_cases e : w = q
    · subst e
      rw [pu_eq, if_pos ⟨by simp, fun z => qa z.symm⟩]; simp
    · rw [pu_ne _ _ e, h2 w hw]; simp only [if_neg e]
  · rw [c2]
    by_cases e : w = q
    · subst e
      simp only [if_true]
      exact ⟨Nat.lt_succ_self _, pu_eq _ _ _⟩
    · simp only [if_neg e] at hw ⊢
      obtain ⟨g1, g2⟩ := h3 w hw
      exact ⟨by omega, by rw [pu_ne _ _ (by omega)]; exact g2⟩
  · by_cases e : i = sz
    · exact ⟨q, by simp, by simp [e]⟩
    · obtain ⟨w, g1, g2⟩ := h4 i (by omega)
      exact ⟨w, by simp only [if_neg (nq w g1)]; exact g1, by simp only [if_neg (nq w g1)]; exact g2⟩
  · rw [pCnt_new hn, if_pos hq, h5]
section
variable {D : pD} {L : LdT}
theorem pc_scan (hv : pV D) (hc : pLc D L) {kp a b p k : Nat} (hkp : kp < 65536) (ha : a < pD_np D) (hb : b < pD_np D) (hab : b ≠ a) (k21 : CtT → Int32 → Int32 → Int32 → Int32 → Int32 → Option (Int32 × CtT)) {x : Nat → Int} (hx : ∀ r, r < pD_nr D → -(pCap kp r : Int) ≤ x r ∧ x r ≤ pCap kp r) : ∀ (d : Nat) {r fu : Nat} (C : CtT) (sz : Nat) (vis : Nat → Bool) (by_ pa rk : Nat → Nat), r + d = pD_nr D → d + 1 ≤ fu → pSe D kp a x C sz vis by_ pa rk → vis p = true → rk p = k → (∀ w, vis w = true → rk w < k → pDone D kp x vis w (pD_nr D)) → pDone D kp x vis p r →
    ∃ C' sz' vis' by' pa' rk', f_X0_search_L47 L k21 fu C (zn a) (zn b) (zn kp) (zn sz) (zn k) (zn p) (zn r) = (if vis' b = true then some (1, C') else k21 C' (zn a) (zn b) (zn kp) (zn sz') (zn (k + 1))) ∧ pSe D kp a x C' sz' vis' by' pa' rk' ∧ (∀ w, vis' w = true → rk' w < k + 1 → pDone D kp x vis' w (pD_nr D)) ∧ Ct_latest C' = Ct_latest C := by
  have hnp := hv.np
  have hnr := hv.nr
  intro d
  induction d with
  | zero =>
    intro r fu C sz vis by_ pa rk h1 h2 hS hp hk hd hd2
    cases fu with
    | zero => omega
    | succ fu =>
      have e : r = pD_nr D := by omega
      refine ⟨C, sz, vis, by_, pa, rk, ?_, hS, fun w hw hw2 => ?_, rfl⟩
      · show f_X0_search_H47 C L k21 (f_X0_search_L47 L k21 fu) (zn a) (zn b) (zn kp) (zn sz) (zn k) (zn p) (zn r) = _
        unfold f_X0_search_H47
        rw [hc.1.2.1, if_neg (by rw [zn_lt (by omega) (by omega)]; omega), zb_zn (by omega) (by omega), if_pos rfl, zn_nat (by omega), show zn k + 1 = zn (k + 1) from zn_add k 1]
        by_cases q : vis b = true
        · obtain ⟨g1, -⟩ := (hS.1.2.2 b q).2 hab
          have e1 : Ct_cameBy C b = zn (by_ b) := by rw [hS.2.1 b hb, if_pos ⟨q, hab⟩]
          rw [e1, if_neg (show ¬ zn (by_ b) = (-1 : Int32) from fun h => (zm_eq (by omega)).mp h), if_pos q]
        · have e1 : Ct_cameBy C b = zm := by rw [hS.2.1 b hb, if_neg (fun z => q z.1)]
          rw [e1, if_pos (show zm = (-1 : Int32) from rfl), if_neg q]
      · by_cases z : rk w < k
        · exact hd w hw z
        · have : w = p := by
            have a1 := (hS.2.2.1 w hw).2
            have a2 := (hS.2.2.1 p hp).2
            rw [show rk w = rk p by omega, a2, zn_eq (by have := (hS.1.2.2 p hp).1; omega) (by have := (hS.1.2.2 w hw).1; omega)] at a1
            exact a1.symm
          rw [this, ← e]; exact hd2
  | succ d ih =>
    intro r fu C sz vis by_ pa rk h1 h2 hS hp hk hd hd2
    cases fu with
    | zero => omega
    | succ fu =>
      have hr : r < pD_nr D := by omega
      have hpp := (hS.1.2.2 p hp).1
      show ∃ C' sz' vis' by' pa' rk', f_X0_search_H47 C L k21 (f_X0_search_L47 L k21 fu) (zn a) (zn b) (zn kp) (zn sz) (zn k) (zn p) (zn r) = _ ∧ _
      unfold f_X0_search_H47 f_X0_search_b120
      rw [hc.1.2.1, if_pos (by rw [zn_lt (by omega) (by omega)]; omega), show zn r + 1 = zn (r + 1) from zn_add r 1]
      -- nothing new by this road
      have same : (∀ q, pOp D kp x r p q → vis q = true) → ∃ C' sz' vis' by' pa' rk', f_X0_search_L47 L k21 fu C (zn a) (zn b) (zn kp) (zn sz) (zn k) (zn p) (zn (r + 1)) = (if vis' b = true then some (1, C') else k21 C' (zn a) (zn b) (zn kp) (zn sz') (zn (k + 1))) ∧ pSe D kp a x C' sz' vis' by' pa' rk' ∧ (∀ w, vis' w = true → rk' w < k + 1 → pDone D kp x vis' w (pD_nr D)) ∧ Ct_latest C' = Ct_latest C := by
        intro hno
        refine ih C sz vis by_ pa rk (by omega) (by omega) hS hp hk hd (fun r' hr' q hq => ?_)
        by_cases z : r' = r
        · rw [z] at hq; exact hno q hq
        · exact hd2 r' (by omega) q hq
      rcases pc_openEnd hv hc hkp hx hS.2.2.2.2.2 (C := C) hr hpp with ⟨q, hq, ho, e⟩ | ⟨hno, e⟩
      · have hu : ∀ q', pOp D kp x r p q' → q' = q := fun q' h => pOp_uniq hv hr ho h
        rw [e, ob_eq, if_neg (show ¬ zn q = (-1 : Int32) from fun h => (zm_eq (by omega)).mp h), ifn_eq (by omega) (by omega)]
        by_cases z : q = a
        · rw [if_pos z]
          exact same (fun q' h => by rw [hu q' h, z]; exact hS.1.1)
        · rw [if_neg z, zb_zn (by omega) (by omega), if_pos rfl, zn_nat (by omega)]
          by_cases y : vis q = true
          · obtain ⟨g1, -⟩ := (hS.1.2.2 q y).2 z
            have e1 : Ct_cameBy C q = zn (by_ q) := by rw [hS.2.1 q hq, if_pos ⟨y, z⟩]
            rw [e1, if_neg (show ¬ zn (by_ q) = (-1 : Int32) from fun h => (zm_eq (by omega)).mp h)]
            exact same (fun q' h => by rw [hu q' h]; exact y)
          · have y' : vis q = false := by simpa using y
            have hlt : pCnt vis (pD_np D) < pCnt (fun _ => true) (pD_np D) := pCnt_lt (fun _ _ => rfl) (j := q) rfl y' _ hq
            have hle := pCnt_le (fun _ => true) (pD_np D)
            have hsz : sz < 10 := by have := hS.2.2.2.2.1; omega
            have e1 : Ct_cameBy C q = zm := by rw [hS.2.1 q hq, if_neg (fun w => y w.1)]
            rw [e1, if_pos (show zm = (-1 : Int32) from rfl), if_pos (by rw [zn_l10, zn_lt (by omega) (by omega)]; exact hsz), if_pos rfl, zl_eq, zb_zn hsz (by omega), if_pos rfl, zl_eq, zn_nat (by omega), show zn sz + 1 = zn (sz + 1) from zn_add sz 1]
            have nq : ∀ w, vis w = true → w ≠ q := by intro w hw e; rw [e] at hw; exact y hw
            obtain ⟨C', sz', vis', by', pa', rk', r1, r2, r3, r4⟩ := ih (r := r + 1) (fu := fu) (Ct_s_queue (Ct_s_cameBy C (upd (Ct_cameBy C) q (zn r))) (upd (Ct_queue (Ct_s_cameBy C (upd (Ct_cameBy C) q (zn r)))) sz (zn q))) (sz + 1) _ _ _ _ (by omega) (by omega) (pSe_new hS hr hp hq ho y' _ rfl rfl rfl) (by simp only [if_neg (nq p hp)]; exact hp) (by simp only [if_neg (nq p hp)]; exact hk) (fun w hw hw2 r' hr' q' hq' => by
              by_cases v : w = q
              · simp only [if_pos v] at hw2
                have := (hS.2.2.1 p hp).1
                omega
              · simp only [if_neg v] at hw hw2
                have := hd w hw hw2 r' hr' q' hq'
                simp only [if_neg (nq _ this)]; exact this) (fun r' hr' q' hq' => by
              by_cases v : r' = r
              · rw [v] at hq'
                rw [hu q' hq']; simp
              · have := hd2 r' (by omega) q' hq'
                simp only [if_neg (nq _ this)]; exact this)
            exact ⟨C', sz', vis', by', pa', rk', r1, r2, r3, r4⟩
      · rw [e, ob_eq, if_pos (show zm = (-1 : Int32) from rfl)]
        exact same (fun q h => absurd h (hno q))
theorem pc_search_loop (hv : pV D) (hc : pLc D L) {kp a b : Nat} (hkp : kp < 65536) (ha : a < pD_np D) (hb : b < pD_np D) (hab : b ≠ a) {x : Nat → Int} (hx : ∀ r, r < pD_nr D → -(pCap kp r : Int) ≤ x r ∧ x r ≤ pCap kp r) : ∀ (d : Nat) {k fu : Nat} (C : CtT) (sz : Nat) (vis : Nat → Bool) (by_ pa rk : Nat → Nat), k + d = 10 → d + 1 ≤ fu → pSe D kp a x C sz vis by_ pa rk → vis b = false → (∀ w, vis w = true → rk w < k → pDone D kp x vis w (pD_nr D)) →
    ∃ C' sz' vis' by' pa' rk', pSe D kp a x C' sz' vis' by' pa' rk' ∧ Ct_latest C' = Ct_latest C ∧ ((f_X0_search_L21 L fu C (zn a) (zn b) (zn kp) (zn sz) (zn k) = some (1, C') ∧ vis' b = true) ∨ (f_X0_search_L21 L fu C (zn a) (zn b) (zn kp) (zn sz) (zn k) = some (0, C') ∧ vis' b = false ∧ ∀ w, vis' w = true → pDone D kp x vis' w (pD_nr D))) := by
  have hnp := hv.np
  intro d
  induction d with
  | zero =>
    intro k fu C sz vis by_ pa rk h1 h2 hS hvb hd
    have hle := pCnt_le vis (pD_np D)
    have hsz : sz ≤ 10 := by have := hS.2.2.2.2.1; omega
    cases fu with
    | zero => omega
    | succ fu =>
      refine ⟨C, sz, vis, by_, pa, rk, hS, rfl, Or.inr ⟨?_, hvb, fun w hw => hd w hw (by have := (hS.2.2.1 w hw).1; omega)⟩⟩
      show f_X0_search_H21 C L (f_X0_search_L21 L fu) (zn a) (zn b) (zn kp) (zn sz) (zn k) = _
      unfold f_X0_search_H21
      rw [if_neg (by rw [zn_lt (by omega) (by omega)]; omega)]
  | succ d ih =>
    intro k fu C sz vis by_ pa rk h1 h2 hS hvb hd
    have hle := pCnt_le vis (pD_np D)
    have hsz : sz ≤ 10 := by have := hS.2.2.2.2.1; omega
    cases fu with
    | zero => omega
    | succ fu =>
      by_cases z : k < sz
      · obtain ⟨p, p1, p2⟩ := hS.2.2.2.1 k z
        obtain ⟨C', sz', vis', by', pa', rk', r1, r2, r3, r4⟩ := pc_scan hv hc hkp ha hb hab (f_X0_search_L21 L fu) hx (pD_nr D) (r := 0) (fu := zFU) C sz vis by_ pa rk (by omega) (zFU_ge (by have := hv.nr; omega)) hS p1 p2 hd (fun r hr => by omega)
        have e : f_X0_search_L21 L (fu + 1) C (zn a) (zn b) (zn kp) (zn sz) (zn k) = (if vis' b = true then some (1, C') else f_X0_search_L21 L fu C' (zn a) (zn b) (zn kp) (zn sz') (zn (k + 1))) := by
          show f_X0_search_H21 C L (f_X0_search_L21 L fu) (zn a) (zn b) (zn kp) (zn sz) (zn k) = _
          unfold f_X0_search_H21
          have hq := (hS.2.2.1 p p1).2
          rw [p2] at hq
          rw [if_pos (by rw [zn_lt (by omega) (by omega)]; exact z), if_pos (by rw [zn_l10, zn_lt (by omega) (by omega)]; omega), zb_zn (by omega) (by omega), if_pos rfl, zn_nat (by omega), hq]
          exact r1
        rw [e]
        by_cases y : vis' b = true
        · exact ⟨C', sz', vis', by', pa', rk', r2, r4, Or.inl ⟨by rw [if_pos y], y⟩⟩
        · rw [if_neg y]
          obtain ⟨C2, sz2, vis2, by2, pa2, rk2, s1, s2, s3⟩ := ih (k := k + 1) (fu := fu) C' sz' vis' by' pa' rk' (by omega) (by omega) r2 (by simpa using y) r3
          exact ⟨C2, sz2, vis2, by2, pa2, rk2, s1, s2.trans r4, s3⟩
      · refine ⟨C, sz, vis, by_, pa, rk, hS, rfl, Or.inr ⟨?_, hvb, fun w hw => hd w hw (by have := (hS.2.2.1 w hw).1; omega)⟩⟩
        show f_X0_search_H21 C L (f_X0_search_L21 L fu) (zn a) (zn b) (zn kp) (zn sz) (zn k) = _
        unfold f_X0_search_H21
        rw [if_neg (by rw [zn_lt (by omega) (by omega)]; omega)]
theorem pc_search (hv : pV D) (hc : pLc D L) {kp a b : Nat} (hkp : kp < 65536) (ha : a < pD_np D) (hb : b < pD_np D) (hab : b ≠ a) {x : Nat → Int} (hx : ∀ r, r < pD_nr D → -(pCap kp r : Int) ≤ x r ∧ x r ≤ pCap kp r) (C : CtT) (hf : ∀ r, r < pD_nr D → Ct_flows C r = zi (x r)) :
    ∃ C' sz' vis' by' pa' rk', pSe D kp a x C' sz' vis' by' pa' rk' ∧ Ct_latest C' = Ct_latest C ∧ ((f_X0_search C L (zn a) (zn b) (zn kp) = some (1, C') ∧ vis' b = true) ∨ (f_X0_search C L (zn a) (zn b) (zn kp) = some (0, C') ∧ vis' b = false ∧ ∀ w, vis' w = true → pDone D kp x vis' w (pD_nr D))) := by
  have hnp := hv.np
  unfold f_X0_search
  rw [zl_eq, zl_eq]
  refine pc_search_loop hv hc hkp ha hb hab hx 10 (k := 0) (fu := zFU) (Ct_s_queue (Ct_s_cameBy C (zr_fill 10 (Ct_cameBy C) (-1))) (upd (Ct_queue (Ct_s_cameBy C (zr_fill 10 (Ct_cameBy C) (-1)))) (0 : Int32).toNatClampNeg (zn a))) 1 (fun w => if w = a then true else false) (fun _ => 0) (fun _ => 0) (fun _ => 0) (by omega) (zFU_ge (by omega)) ⟨⟨by simp, rfl, fun w hw => ?_⟩, fun w hw => ?_, fun w hw => ?_, fun i hi => ⟨a, by simp, by show 0 = i; omega⟩, ?_, hf⟩ (by simp [hab]) (fun w _ h => by omega)
  · by_cases e : w = a
    · exact ⟨by omega, fun z => absurd e z⟩
    · simp only [if_neg e] at hw; exact absurd hw (by decide)
  · rw [if_neg]
    · show (if w < 10 then _ else _) = _
      rw [if_pos (by omega)]; rfl
    · rintro ⟨z1, z2⟩
      simp only [if_neg z2] at z1; exact absurd z1 (by decide)
  · by_cases e : w = a
    · refine ⟨by show 0 < 1; omega, ?_⟩
      rw [e]
      show upd (Ct_queue C) 0 (zn a) 0 = zn a
      exact pu_eq _ _ _
    · simp only [if_neg e] at hw; exact absurd hw (by decide)
  · rw [pCnt_new (vis := fun _ => false) rfl, if_pos ha, pCnt_none]
/-- as much as flows, or enough -/
theorem pc_flow_loop (hv : pV D) (hc : pLc D L) {kp a b en : Nat} (hkp : kp < 65536) (hen : en ≤ 5) (ha : a < pD_np D) (hb : b < pD_np D) (hab : b ≠ a) : ∀ (d : Nat) {n fu : Nat} (C : CtT) (x : Nat → Int), n + d = en → d + 1 ≤ fu → pFlw D kp a b x n → (∀ r, r < pD_nr D → Ct_flows C r = zi (x r)) →
    ∃ n' C', f_X0_flow_L11 L fu C (zn a) (zn b) (zn kp) (zn en) (zn n) = some (zn n', C') ∧ n' ≤ en ∧ Ct_latest C' = Ct_latest C ∧ (∀ S : Nat → Bool, S a = true → S b = false → n' ≤ pCs D S kp (pD_nr D)) ∧ (n' = en ∨ ∃ S : Nat → Bool, S a = true ∧ S b = false ∧ pCs D S kp (pD_nr D) = n') := by
  have hnp := hv.np
  intro d
  induction d with
  | zero =>
    intro n fu C x h1 h2 hF hf
    cases fu with
    | zero => omega
    | succ fu =>
      refine ⟨n, C, ?_, by omega, rfl, fun S s1 s2 => ?_, Or.inl (by omega)⟩
      · show f_X0_flow_H11 C L (f_X0_flow_L11 L fu) (zn a) (zn b) (zn kp) (zn en) (zn n) = _
        unfold f_X0_flow_H11
        rw [if_neg (by rw [zn_lt (by omega) (by omega)]; omega)]
      · have a1 := pWeak (D := D) (S := S) (pD_nr D) hF.1
        rw [hF.2 S s1 s2] at a1
        omega
  | succ d ih =>
    intro n fu C x h1 h2 hF hf
    cases fu with
    | zero => omega
    | succ fu =>
      have weak : ∀ S : Nat → Bool, S a = true → S b = false → n ≤ pCs D S kp (pD_nr D) := fun S s1 s2 => by
        have a1 := pWeak (D := D) (S := S) (pD_nr D) hF.1
        rw [hF.2 S s1 s2] at a1
        omega
      show ∃ n' C', f_X0_flow_H11 C L (f_X0_flow_L11 L fu) (zn a) (zn b) (zn kp) (zn en) (zn n) = _ ∧ _
      unfold f_X0_flow_H11
      rw [if_pos (by rw [zn_lt (by omega) (by omega)]; omega)]
      obtain ⟨C', sz', vis', by', pa', rk', s1, s2, s3⟩ := pc_search hv hc hkp ha hb hab hF.1 C hf
      rcases s3 with ⟨s3, s4⟩ | ⟨s3, s4, s5⟩
      · rw [s3, ob_eq]
        simp only
        rw [if_neg (show ¬ (1 : Int32) = 0 by decide)]
        unfold f_X0_push
        have hcnt := pCnt_le vis' (pD_np D)
        have hrk := (s1.2.2.1 b s4).1
        have hsz := s1.2.2.2.2.1
        obtain ⟨fl, y', p1, p2, p3⟩ := pc_push_loop hv hc ha (n := n) (b := b) s1.1 9 (w := b) (k := 0) (fu := zFU) C' x (by omega) (by omega) (zFU_ge (by omega)) s1.2.2.2.2.2 s1.2.1 ⟨hF.1, fun S q1 q2 => by rw [hF.2 S q1 q2, q2]; simp, fun _ _ _ _ => rfl, s4⟩
        rw [show (0 : Int32) = zn 0 from rfl, p1, ob_eq, show zn n + 1 = zn (n + 1) from zn_add n 1]
        obtain ⟨n', C2, r1, r2, r3, r4, r5⟩ := ih (n := n + 1) (fu := fu) (Ct_s_flows C' fl) y' (by omega) (by omega) ⟨p3.1, fun S q1 q2 => by rw [p3.2.1 S q1 q2, q1]; simp⟩ p2
        exact ⟨n', C2, r1, r2, r3.trans s2, r4, r5⟩
      · rw [s3, ob_eq]
        simp only
        rw [if_pos trivial]
        refine ⟨n, C', rfl, by omega, s2, weak, Or.inr ⟨vis', s1.1.1, s4, ?_⟩⟩
        have a1 := pTight (D := D) (S := vis') (kp := kp) (x := x) (pD_nr D) (fun r hr => ⟨fun u1 u2 => ?_, fun u1 u2 => ?_⟩)
        · rw [hF.2 vis' s1.1.1 s4] at a1; omega
        · have hx := hF.1 r hr
          by_cases z : x r < pCap kp r
          · have := s5 _ u1 r hr _ (Or.inl ⟨rfl, rfl, z⟩)
            rw [u2] at this; exact absurd this (by decide)
          · omega
        · have hx := hF.1 r hr
          by_cases z : -(pCap kp r : Int) < x r
          · have := s5 _ u2 r hr _ (Or.inr ⟨rfl, rfl, z⟩)
            rw [u1] at this; exact absurd this (by decide)
          · omega
theorem pXs_zero (e : Nat → Int) : ∀ n, pXs (fun _ => 0) e n = 0
  | 0 => rfl
  | n + 1 => by
    show pXs (fun _ => 0) e n + 0 * e n = 0
    rw [pXs_zero e n]; omega
theorem pc_flow (hv : pV D) (hc : pLc D L) {kp a b en : Nat} (hkp : kp < 65536) (hen : en ≤ 5) (ha : a < pD_np D) (hb : b < pD_np D) (hab : b ≠ a) (C : CtT) :
    ∃ n' C', f_X0_flow C L (zn a) (zn b) (zn kp) (zn en) = some (zn n', C') ∧ n' ≤ en ∧ Ct_latest C' = Ct_latest C ∧ (∀ S : Nat → Bool, S a = true → S b = false → n' ≤ pCs D S kp (pD_nr D)) ∧ (n' = en ∨ ∃ S : Nat → Bool, S a = true ∧ S b = false ∧ pCs D S kp (pD_nr D) = n') := by
  have hnr := hv.nr
  unfold f_X0_flow
  rw [zl_eq]
  exact pc_flow_loop hv hc hkp hen ha hb hab en (n := 0) (fu := zFU) (Ct_s_flows C (zr_fill 16 (Ct_flows C) 0)) (fun _ => 0) (by omega) (zFU_ge (by omega)) ⟨fun r hr => by show -(pCap kp r : Int) ≤ 0 ∧ (0 : Int) ≤ pCap kp r; omega, fun S s1 s2 => pXs_zero _ _⟩ (fun r hr => by
    show (if r < 16 then _ else _) = _
    rw [if_pos (by omega)]; rfl)
end
