/-! CUT: the reference -/
theorem pLow : ∀ (s : Nat), 0 < s → ∃ k, s.testBit k = true ∧ ∀ i, (s &&& (s - 1)).testBit i = (s.testBit i && !decide (i = k)) := by
  intro s
  induction s using Nat.strongRecOn with
  | ind s ih =>
    intro h
    by_cases o : s % 2 = 1
    · have e : (s - 1) / 2 = s / 2 := by omega
      refine ⟨0, by rw [Nat.testBit_zero]; simpa using o, fun i => ?_⟩
      cases i with
      | zero =>
        rw [Nat.testBit_and, Nat.testBit_zero (s - 1)]
        have : ¬ (s - 1) % 2 = 1 := by omega
        simp [this]
      | succ i =>
        rw [Nat.testBit_and, Nat.testBit_succ, Nat.testBit_succ, e]
        simp
    · obtain ⟨k, k1, k2⟩ := ih (s / 2) (by omega) (by omega)
      have e : (s - 1) / 2 = s / 2 - 1 := by omega
      refine ⟨k + 1, by rw [Nat.testBit_succ]; exact k1, fun i => ?_⟩
      cases i with
      | zero =>
        rw [Nat.testBit_and, Nat.testBit_zero s]
        simp [o]
      | succ i =>
        have := k2 i
        rw [Nat.testBit_and] at this ⊢
        rw [Nat.testBit_succ, Nat.testBit_succ, e, this]
        simp
theorem pSu_drop {g : Nat → Nat} {s t k : Nat} (hk : s.testBit k = true) (h : ∀ i, t.testBit i = (s.testBit i && !decide (i = k))) : ∀ n, pSu g s n = pSu g t n + (if k < n then g k else 0)
  | 0 => rfl
  | n + 1 => by
    rw [pSu_succ, pSu_succ, pSu_drop hk h n, h n]
    by_cases e : n = k
    · rw [e, hk, if_neg (Nat.lt_irrefl k), if_pos (Nat.lt_succ_self k)]; simp
    · by_cases l : k < n
      · rw [if_pos l, if_pos (show k < n + 1 by omega)]
        simp [e]; omega
      · rw [if_neg l, if_neg (show ¬ k < n + 1 by omega)]
        simp [e]
theorem pm_bits_loop {n : Nat} (hn : n ≤ 16) : ∀ (d : Nat) {s c fu : Nat}, s < 2 ^ n → pSu (fun _ => 1) s n ≤ d → d + 1 ≤ fu → f_X12_bits_L4 fu (zn c) (zn s) = some (zn (c + pSu (fun _ => 1) s n)) := by
  have h16 : 2 ^ n ≤ 2 ^ 16 := Nat.pow_le_pow_right (by omega) hn
  intro d
  induction d with
  | zero =>
    intro s c fu h1 h2 h3
    cases fu with
    | zero => omega
    | succ fu =>
      have e : s = 0 := by
        by_cases q : s = 0
        · exact q
        · obtain ⟨i, hi⟩ := pTb_nz q
          have := pSu_ge (g := fun _ => 1) (pTb_lt h1 hi) hi
          change 1 ≤ pSu (fun _ => 1) s n at this
          omega
      subst e
      show f_X12_bits_H4 (f_X12_bits_L4 fu) (zn c) (zn 0) = _
      unfold f_X12_bits_H4
      rw [if_pos (show zn 0 = (0 : Int32) from rfl), pSu_zero]; rfl
  | succ d ih =>
    intro s c fu h1 h2 h3
    cases fu with
    | zero => omega
    | succ fu =>
      show f_X12_bits_H4 (f_X12_bits_L4 fu) (zn c) (zn s) = _
      unfold f_X12_bits_H4
      by_cases q : s = 0
      · subst q
        rw [if_pos (show zn 0 = (0 : Int32) from rfl), pSu_zero]; rfl
      · obtain ⟨k, k1, k2⟩ := pLow s (by omega)
        have hkn := pTb_lt h1 k1
        have hd := pSu_drop (g := fun _ => 1) k1 k2 n
        rw [if_pos hkn] at hd
        have hl : s &&& (s - 1) < 2 ^ n := Nat.lt_of_le_of_lt Nat.and_le_left h1
        rw [if_neg (show ¬ zn s = (0 : Int32) by rw [zn_l0, zn_eq (by omega) (by omega)]; exact q), zn_l1, zn_sub (by omega), zn_and, zn_add, ih (s := s &&& (s - 1)) (c := c + 1) (fu := fu) hl (by omega) (by omega), hd]
        congr 2; omega
theorem pm_bits {n s : Nat} (hn : n ≤ 16) (hs : s < 2 ^ n) : f_X12_bits (zn s) = some (zn (pSu (fun _ => 1) s n)) := by
  have h := pm_bits_loop hn 16 (s := s) (c := 0) (fu := zFU) hs (by
    have : pSu (fun _ => 1) s n ≤ n * 1 := pSu_bd 1 n (fun _ _ _ => Nat.le_refl _)
    omega) (zFU_ge (by omega))
  rw [Nat.zero_add] at h
  exact h
section
variable {D : pD} {M : MoT}
/-- seen: no more than any set that the roads don't leave -/
def pSeen (D : pD) (a t s : Nat) : Prop := s < 1024 ∧ s.testBit a = true ∧ ∀ S : Nat → Bool, S a = true → (∀ r, r < pD_nr D → pXc D S r = true → t.testBit r = true) → ∀ i, s.testBit i = true → S i = true
theorem pSeen_add {a t s r u v : Nat} (h : pSeen D a t s) (hr : r < pD_nr D) (ht : ¬ t.testBit r = true) (hv : v < 10) (hu : s.testBit u = true) (e : (u = pD_ro D r 0 ∧ v = pD_ro D r 1) ∨ (u = pD_ro D r 1 ∧ v = pD_ro D r 0)) : pSeen D a t (s ||| 2 ^ v) := by
  refine ⟨Nat.or_lt_two_pow (n := 10) h.1 (Nat.pow_lt_pow_right (by omega) hv), by rw [Nat.testBit_or, h.2.1]; rfl, fun S s1 s2 i hi => ?_⟩
  rw [pTb_or] at hi
  by_cases q : i = v
  · have hx : pXc D S r = false := by
      cases e : pXc D S r
      · rfl
      · exact absurd (s2 r hr e) ht
    have hu2 := h.2.2 S s1 s2 u hu
    unfold pXc at hx
    simp at hx
    rcases e with ⟨e1, e2⟩ | ⟨e1, e2⟩
    · rw [q, e2, ← hx, ← e1]; exact hu2
    · rw [q, e2, hx, ← e1]; exact hu2
  · rw [if_neg q] at hi; exact h.2.2 S s1 s2 i hi
theorem pSub_or {w s v : Nat} (h : w &&& s = w) : w &&& (s ||| 2 ^ v) = w := pSub_tb (fun i hi => by rw [pTb_or]; split; rfl; exact pSub_of h hi)
theorem pm_leads_in (hv : pV D) (hm : pLm D (Mo_now M)) {a b t : Nat} (ht : t < 65536) (k8 : Int32 → Int32 → Int32 → Int32 → Option Int32) : ∀ (d : Nat) {r fu s w : Nat}, r + d = pD_nr D → d + 1 ≤ fu → pSeen D a t s → w < 1024 → w &&& s = w → (∀ i, i < r → ¬ t.testBit i = true → (w.testBit (pD_ro D i 0) = true → s.testBit (pD_ro D i 1) = true) ∧ (w.testBit (pD_ro D i 1) = true → s.testBit (pD_ro D i 0) = true)) →
    ∃ s', f_X12_leads_L29 M k8 fu (zn b) (zn t) (zn s) (zn w) (zn r) = k8 (zn b) (zn t) (zn s') (if s' = w then 0 else 1) ∧ pSeen D a t s' ∧ w &&& s' = w ∧ (∀ i, i < pD_nr D → ¬ t.testBit i = true → (w.testBit (pD_ro D i 0) = true → s'.testBit (pD_ro D i 1) = true) ∧ (w.testBit (pD_ro D i 1) = true → s'.testBit (pD_ro D i 0) = true)) := by
  have hnp := hv.np
  have hnr := hv.nr
  intro d
  induction d with
  | zero =>
    intro r fu s w h1 h2 hS hw hws hcl
    cases fu with
    | zero => omega
    | succ fu =>
      have e : r = pD_nr D := by omega
      refine ⟨s, ?_, hS, hws, by rw [← e]; exact hcl⟩
      show f_X12_leads_H29 M k8 (f_X12_leads_L29 M k8 fu) (zn b) (zn t) (zn s) (zn w) (zn r) = _
      unfold f_X12_leads_H29 f_X12_leads_b144
      have hs := hS.1
      rw [show Mo_now M (1 : Int32).toNatClampNeg = zn (pD_nr D) from hm.1.2.1, if_neg (by rw [zn_lt (by omega) (by omega)]; omega), ifn_eq (by omega) (by omega)]
      by_cases q : s = w
      · rw [if_pos q, if_pos q]
      · rw [if_neg q, if_neg q]
  | succ d ih =>
    intro r fu s w h1 h2 hS hw hws hcl
    cases fu with
    | zero => omega
    | succ fu =>
      have hr : r < pD_nr D := by omega
      have hro := (hv.ro hr).1
      have hs := hS.1
      obtain ⟨m1, m2, -⟩ := hm.2.2.1 r hr
      show ∃ s', f_X12_leads_H29 M k8 (f_X12_leads_L29 M k8 fu) (zn b) (zn t) (zn s) (zn w) (zn r) = _ ∧ _
      unfold f_X12_leads_H29 f_X12_leads_b89 f_X12_leads_b126
      simp only [show Mo_now M (1 : Int32).toNatClampNeg = zn (pD_nr D) from hm.1.2.1, show zn r + 1 = zn (r + 1) from zn_add r 1, zn_l192, zn_l208, zn_add, zb_zn (show 192 + r < 758 by omega) (show 192 + r < 2147483648 by omega), zb_zn (show 208 + r < 758 by omega) (show 208 + r < 2147483648 by omega), zn_nat (show 192 + r < 2147483648 by omega), zn_nat (show 208 + r < 2147483648 by omega), if_true, m1, m2, zn_shl1 (show pD_ro D r 0 < 31 by omega), zn_shl1 (show pD_ro D r 1 < 31 by omega), zn_or, zl_eq]
      rw [if_pos (by rw [zn_lt (by omega) (by omega)]; exact hr), pm_hasB (by omega) (by omega), ob_eq, pm_hasB (by omega) (by omega), ob_eq]
      by_cases q : t.testBit r = true
      · rw [if_pos q, if_neg (show ¬ (1 : Int32) = 0 by decide)]
        exact ih (r := r + 1) (fu := fu) (by omega) (by omega) hS hw hws (fun i hi hi2 => by
          by_cases z : i = r
          · rw [z] at hi2; exact absurd q hi2
          · exact hcl i (by omega) hi2)
      · rw [if_neg q, if_pos rfl]
        -- the second end, at a set s1 that has what the first end brought
        have second : ∀ s1, pSeen D a t s1 → s &&& s1 = s → (w.testBit (pD_ro D r 0) = true → s1.testBit (pD_ro D r 1) = true) →
            ∃ s', (f_X12_has (zn s1) (zn (pD_ro D r 1))).bind (fun q8 => if q8 = 0 then f_X12_leads_L29 M k8 fu (zn b) (zn t) (zn s1) (zn w) (zn (r + 1)) else f_X12_leads_L29 M k8 fu (zn b) (zn t) (zn (s1 ||| 2 ^ pD_ro D r 0)) (zn w) (zn (r + 1))) = k8 (zn b) (zn t) (zn s') (if s' = w then 0 else 1) ∧ pSeen D a t s' ∧ w &&& s' = w ∧ (∀ i, i < pD_nr D → ¬ t.testBit i = true → (w.testBit (pD_ro D i 0) = true → s'.testBit (pD_ro D i 1) = true) ∧ (w.testBit (pD_ro D i 1) = true → s'.testBit (pD_ro D i 0) = true)) := by
          intro s1 hS1 hsub h01
          have hs1 := hS1.1
          have hws1 : w &&& s1 = w := pSub_tb (fun i hi => pSub_of hsub (pSub_of hws hi))
          rw [pm_hasB (by omega) (by omega), ob_eq]
          by_cases y : s1.testBit (pD_ro D r 1) = true
          · rw [if_pos y, if_neg (show ¬ (1 : Int32) = 0 by decide)]
            refine ih (r := r + 1) (fu := fu) (by omega) (by omega) (pSeen_add hS1 hr q (by omega) y (Or.inr ⟨rfl, rfl⟩)) hw (pSub_or hws1) (fun i hi hi2 => ?_)
            by_cases z : i = r
            · rw [z, pTb_or, pTb_or, if_pos rfl]
              exact ⟨fun _ => by rw [y, ite_self], fun _ => rfl⟩
            · obtain ⟨c1, c2⟩ := hcl i (by omega) hi2
              rw [pTb_or, pTb_or]
              exact ⟨fun g => by rw [pSub_of hsub (c1 g), ite_self], fun g => by rw [pSub_of hsub (c2 g), ite_self]⟩
          · rw [if_neg y, if_pos rfl]
            refine ih (r := r + 1) (fu := fu) (by omega) (by omega) hS1 hw hws1 (fun i hi hi2 => ?_)
            by_cases z : i = r
            · rw [z]
              exact ⟨h01, fun g => absurd (pSub_of hws1 g) y⟩
            · obtain ⟨c1, c2⟩ := hcl i (by omega) hi2
              exact ⟨fun g => pSub_of hsub (c1 g), fun g => pSub_of hsub (c2 g)⟩
        by_cases y : s.testBit (pD_ro D r 0) = true
        · rw [if_pos y, if_neg (show ¬ (1 : Int32) = 0 by decide)]
          exact second _ (pSeen_add hS hr q (by omega) y (Or.inl ⟨rfl, rfl⟩)) (pSub_or (Nat.and_self s)) (fun _ => by rw [pTb_or, if_pos rfl])
        · rw [if_neg y, if_pos rfl]
          exact second s hS (Nat.and_self s) (fun g => absurd (pSub_of hws g) y)
theorem pm_leads (hv : pV D) (hm : pLm D (Mo_now M)) {a b t : Nat} (ht : t < 65536) (ha : a < pD_np D) (hb : b < pD_np D) :
    (f_X12_leads M (zn a) (zn b) (zn t) = some 0 ∧ pSp D a b t) ∨ (f_X12_leads M (zn a) (zn b) (zn t) = some 1 ∧ ¬ pSp D a b t) := by
  have hnp := hv.np
  have hnr := hv.nr
  -- b is seen: nothing parts
  have yes : ∀ s, pSeen D a t s → s.testBit b = true → ¬ pSp D a b t := fun s hS hsb h => by
    obtain ⟨S, s1, s2, s3⟩ := h
    have := hS.2.2 S s1 s3 b hsb
    rw [s2] at this; exact absurd this (by decide)
  have key : ∀ (d : Nat) {fu s : Nat}, 1024 - s ≤ d → d + 2 ≤ fu → pSeen D a t s → (f_X12_leads_L8 M fu (zn b) (zn t) (zn s) 1 = some 0 ∧ pSp D a b t) ∨ (f_X12_leads_L8 M fu (zn b) (zn t) (zn s) 1 = some 1 ∧ ¬ pSp D a b t) := by
    intro d
    induction d with
    | zero => intro fu s h1 h2 hS; have := hS.1; omega
    | succ d ih =>
      intro fu s h1 h2 hS
      have hs := hS.1
      cases fu with
      | zero => omega
      | succ fu =>
        have e : ∀ x, f_X12_leads_L8 M (fu + 1) (zn b) (zn t) (zn s) x = f_X12_leads_H8 M (f_X12_leads_L8 M fu) (zn b) (zn t) (zn s) x := fun _ => rfl
        rw [e]
        unfold f_X12_leads_H8
        rw [if_neg (show ¬ (1 : Int32) = 0 by decide), pm_hasB (by omega) (by omega), ob_eq, ob_eq]
        by_cases q : s.testBit b = true
        · rw [if_pos q, if_neg (show ¬ (1 : Int32) = 0 by decide), if_pos (show zb_bo 1 = true by decide)]
          exact Or.inr ⟨rfl, yes s hS q⟩
        · rw [if_neg q, if_pos rfl]
          obtain ⟨s', r1, r2, r3, r4⟩ := pm_leads_in hv hm ht (f_X12_leads_L8 M fu) (pD_nr D) (a := a) (b := b) (r := 0) (fu := zFU) (s := s) (w := s) (by omega) (zFU_ge (by omega)) hS hs (Nat.and_self s) (fun i hi => by omega)
          rw [show (0 : Int32) = zn 0 from rfl, r1]
          by_cases z : s' = s
          · rw [if_pos z, z]
            cases fu with
            | zero => omega
            | succ fu =>
              have e2 : f_X12_leads_L8 M (fu + 1) (zn b) (zn t) (zn s) 0 = some 0 := by
                show f_X12_leads_H8 M (f_X12_leads_L8 M fu) (zn b) (zn t) (zn s) 0 = _
                unfold f_X12_leads_H8
                rw [if_pos rfl, pm_hasB (by omega) (by omega), ob_eq, if_neg q, if_pos (show zb_bo 0 = true by decide)]
              refine Or.inl ⟨e2, fun i => s.testBit i, hS.2.1, by simpa using q, fun r hr hx => ?_⟩
              cases w : t.testBit r
              · exfalso
                rw [z] at r4
                obtain ⟨c1, c2⟩ := r4 r hr (by rw [w]; decide)
                unfold pXc at hx
                cases w1 : s.testBit (pD_ro D r 0) <;> cases w2 : s.testBit (pD_ro D r 1) <;> simp_all
              · rfl
          · rw [if_neg z]
            have := pSub_le r3
            exact ih (fu := fu) (s := s') (by omega) (by omega) r2
  unfold f_X12_leads
  rw [zn_shl1 (by omega)]
  refine key 1024 (fu := zFU) (s := 2 ^ a) (Nat.sub_le _ _) (zFU_ge (by omega)) ⟨Nat.pow_lt_pow_right (n := 10) (show 1 < 2 by omega) (by omega), by rw [Nat.testBit_two_pow]; simp, fun S s1 s2 i hi => ?_⟩
  rw [Nat.testBit_two_pow] at hi
  simp at hi
  rw [← hi]; exact s1
end
