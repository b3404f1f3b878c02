/-! CUT: flows. A road r goes from u to v; x r miles of water go along it -/
def pXs (x e : Nat → Int) : Nat → Int
  | 0 => 0
  | n + 1 => pXs x e n + x n * e n
/-- how a road crosses a set: 1 outward, -1 inward -/
def pEd (D : pD) (S : Nat → Bool) (r : Nat) : Int := (if S (pD_ro D r 0) = true then 1 else 0) - (if S (pD_ro D r 1) = true then 1 else 0)
def pCap (kp r : Nat) : Nat := if kp.testBit r = true then 5 else 1
def pXc (D : pD) (S : Nat → Bool) (r : Nat) : Bool := !(S (pD_ro D r 0) == S (pD_ro D r 1))
/-- what can cross a set -/
def pCs (D : pD) (S : Nat → Bool) (kp : Nat) : Nat → Nat
  | 0 => 0
  | n + 1 => pCs D S kp n + (if pXc D S n = true then pCap kp n else 0)
theorem pXs_upd (e : Nat → Int) {r : Nat} (d : Int) : ∀ (n : Nat) (x : Nat → Int), r < n → pXs (fun i => if i = r then x r + d else x i) e n = pXs x e n + d * e r
  | 0, x, h => by omega
  | n + 1, x, h => by
    have far : ∀ m, m ≤ r → pXs (fun i => if i = r then x r + d else x i) e m = pXs x e m := by
      intro m
      induction m with
      | zero => intro _; rfl
      | succ m ih =>
        intro hm
        show pXs _ e m + (if m = r then x r + d else x m) * e m = pXs x e m + x m * e m
        rw [ih (by omega), if_neg (by omega)]
    show pXs _ e n + (if n = r then x r + d else x n) * e n = pXs x e n + x n * e n + d * e r
    by_cases q : n = r
    · subst q
      rw [if_pos rfl, far n (Nat.le_refl _), Int.add_mul]; omega
    · rw [if_neg q, pXs_upd e d n x (by omega)]; omega
theorem pEd_cases (D : pD) (S : Nat → Bool) (r : Nat) : (pXc D S r = false ∧ pEd D S r = 0) ∨ (pXc D S r = true ∧ S (pD_ro D r 0) = true ∧ S (pD_ro D r 1) = false ∧ pEd D S r = 1) ∨ (pXc D S r = true ∧ S (pD_ro D r 0) = false ∧ S (pD_ro D r 1) = true ∧ pEd D S r = -1) := by
  unfold pXc pEd
  cases S (pD_ro D r 0) <;> cases S (pD_ro D r 1) <;> simp
/-- no more crosses than can -/
theorem pWeak {D : pD} {S : Nat → Bool} {kp : Nat} {x : Nat → Int} : ∀ (n : Nat), (∀ r, r < n → -(pCap kp r : Int) ≤ x r ∧ x r ≤ pCap kp r) → pXs x (pEd D S) n ≤ (pCs D S kp n : Int)
  | 0, _ => Int.le_refl _
  | n + 1, h => by
    have ih := pWeak (D := D) (S := S) n (fun r hr => h r (by omega))
    have hn := h n (by omega)
    show pXs x (pEd D S) n + x n * pEd D S n ≤ ((pCs D S kp n + (if pXc D S n = true then pCap kp n else 0) : Nat) : Int)
    rcases pEd_cases D S n with ⟨e1, e2⟩ | ⟨e1, -, -, e2⟩ | ⟨e1, -, -, e2⟩
    · rw [e1, e2]; simp; omega
    · rw [e1, e2]; simp; omega
    · rw [e1, e2]; simp; omega
/-- all that can crosses -/
theorem pTight {D : pD} {S : Nat → Bool} {kp : Nat} {x : Nat → Int} : ∀ (n : Nat), (∀ r, r < n → (S (pD_ro D r 0) = true → S (pD_ro D r 1) = false → x r = pCap kp r) ∧ (S (pD_ro D r 0) = false → S (pD_ro D r 1) = true → x r = -(pCap kp r : Int))) → pXs x (pEd D S) n = (pCs D S kp n : Int)
  | 0, _ => rfl
  | n + 1, h => by
    have ih := pTight (D := D) (S := S) n (fun r hr => h r (by omega))
    have hn := h n (by omega)
    show pXs x (pEd D S) n + x n * pEd D S n = ((pCs D S kp n + (if pXc D S n = true then pCap kp n else 0) : Nat) : Int)
    rcases pEd_cases D S n with ⟨e1, e2⟩ | ⟨e1, a, b, e2⟩ | ⟨e1, a, b, e2⟩
    · rw [e1, e2]; simp; omega
    · rw [e1, e2, hn.1 a b]; simp; omega
    · rw [e1, e2, hn.2 a b]; simp; omega
/-- a flow of n from a to b -/
def pFlw (D : pD) (kp a b : Nat) (x : Nat → Int) (n : Nat) : Prop :=
  (∀ r, r < pD_nr D → -(pCap kp r : Int) ≤ x r ∧ x r ≤ pCap kp r) ∧ ∀ S : Nat → Bool, S a = true → S b = false → pXs x (pEd D S) (pD_nr D) = n
/-- room on a road from p to q -/
def pOp (D : pD) (kp : Nat) (x : Nat → Int) (r p q : Nat) : Prop :=
  (pD_ro D r 0 = p ∧ pD_ro D r 1 = q ∧ x r < pCap kp r) ∨ (pD_ro D r 1 = p ∧ pD_ro D r 0 = q ∧ -(pCap kp r : Int) < x r)
/-- a tree of those that can be reached: from a, by w's road from w's elder, ever nearer -/
def pTr (D : pD) (kp a : Nat) (x : Nat → Int) (vis : Nat → Bool) (by_ pa rk : Nat → Nat) : Prop :=
  vis a = true ∧ rk a = 0 ∧ ∀ w, vis w = true → w < pD_np D ∧ (w ≠ a → by_ w < pD_nr D ∧ vis (pa w) = true ∧ rk (pa w) < rk w ∧ pOp D kp x (by_ w) (pa w) w)
theorem pXs_cg {x y e : Nat → Int} : ∀ (n : Nat), (∀ r, r < n → x r = y r) → pXs x e n = pXs y e n
  | 0, _ => rfl
  | n + 1, h => by
    show pXs x e n + x n * e n = pXs y e n + y n * e n
    rw [pXs_cg n (fun r hr => h r (by omega)), h n (by omega)]
section
variable {D : pD} {L : LdT}
/-- the state on the way back from b -/
def pPu (D : pD) (kp a b n : Nat) (x y : Nat → Int) (vis : Nat → Bool) (by_ rk : Nat → Nat) (w : Nat) : Prop :=
  (∀ r, r < pD_nr D → -(pCap kp r : Int) ≤ y r ∧ y r ≤ pCap kp r) ∧ (∀ S : Nat → Bool, S a = true → S b = false → pXs y (pEd D S) (pD_nr D) = n + (if S w = true then 1 else 0)) ∧ (∀ v, vis v = true → v ≠ a → rk v ≤ rk w → y (by_ v) = x (by_ v)) ∧ vis w = true
theorem pPu_step (hv : pV D) {kp a b n : Nat} {x y : Nat → Int} {vis : Nat → Bool} {by_ pa rk : Nat → Nat} (hT : pTr D kp a x vis by_ pa rk) {w : Nat} (h : pPu D kp a b n x y vis by_ rk w) (hw : w ≠ a) {d : Int} (hd : (d = 1 ∧ pD_ro D (by_ w) 1 = w ∧ pD_ro D (by_ w) 0 = pa w ∧ x (by_ w) < pCap kp (by_ w)) ∨ (d = -1 ∧ pD_ro D (by_ w) 0 = w ∧ pD_ro D (by_ w) 1 = pa w ∧ -(pCap kp (by_ w) : Int) < x (by_ w))) :
    pPu D kp a b n x (fun i => if i = by_ w then y (by_ w) + d else y i) vis by_ rk (pa w) := by
  obtain ⟨h1, h2, h3, h4⟩ := h
  obtain ⟨t1, t2, t3⟩ := hT
  obtain ⟨-, q⟩ := t3 w h4
  obtain ⟨q1, q2, q3, q4⟩ := q hw
  have ey : y (by_ w) = x (by_ w) := h3 w h4 hw (Nat.le_refl _)
  refine ⟨fun r hr => ?_, fun S s1 s2 => ?_, fun v v1 v2 v3 => ?_, q2⟩
  · show -(pCap kp r : Int) ≤ (if r = by_ w then y (by_ w) + d else y r) ∧ (if r = by_ w then y (by_ w) + d else y r) ≤ pCap kp r
    have := h1 r hr
    by_cases z : r = by_ w
    · rw [if_pos z, ey]
      rw [z] at this ⊢
      rw [ey] at this
      rcases hd with ⟨d1, -, -, d2⟩ | ⟨d1, -, -, d2⟩ <;> omega
    · rw [if_neg z]; exact this
  · rw [pXs_upd (pEd D S) d (pD_nr D) y q1, h2 S s1 s2]
    unfold pEd
    rcases hd with ⟨d1, d2, d3, -⟩ | ⟨d1, d2, d3, -⟩
    · rw [d1, d2, d3]; omega
    · rw [d1, d2, d3]; omega
  · have h5 := (t3 v v1).2 v2
    obtain ⟨-, u2, u3, u4⟩ := h5
    show (if by_ v = by_ w then _ else _) = _
    rw [if_neg]
    · exact h3 v v1 v2 (by omega)
    · intro e
      rw [e] at u4
      have hne := (hv.ro q1).1.2.2
      rcases u4 with ⟨a1, a2, -⟩ | ⟨a1, a2, -⟩ <;> rcases q4 with ⟨b1, b2, -⟩ | ⟨b1, b2, -⟩
      · have : v = w := by omega
        rw [this] at v3; omega
      · have e1 : pa v = w := by omega
        rw [e1] at u3; omega
      · have e1 : pa v = w := by omega
        rw [e1] at u3; omega
      · have : v = w := by omega
        rw [this] at v3; omega
theorem pc_push_loop (hv : pV D) (hc : pLc D L) {kp a b n : Nat} (ha : a < pD_np D) {x : Nat → Int} {vis : Nat → Bool} {by_ pa rk : Nat → Nat} (hT : pTr D kp a x vis by_ pa rk) : ∀ (j : Nat) {w k fu : Nat} (C : CtT) (y : Nat → Int), rk w ≤ j → k + j ≤ 10 → j + 1 ≤ fu → (∀ r, r < pD_nr D → Ct_flows C r = zi (y r)) → (∀ w, w < pD_np D → Ct_cameBy C w = if vis w = true ∧ w ≠ a then zn (by_ w) else zm) → pPu D kp a b n x y vis by_ rk w →
    ∃ fl y', f_X0_push_L6 L fu C (zn a) (zn w) (zn k) = some (Ct_s_flows C fl) ∧ (∀ r, r < pD_nr D → fl r = zi (y' r)) ∧ pPu D kp a b n x y' vis by_ rk a := by
  have hnp := hv.np
  have hnr := hv.nr
  intro j
  induction j with
  | zero =>
    intro w k fu C y h1 h2 h3 h4 h5 h6
    cases fu with
    | zero => omega
    | succ fu =>
      have e : w = a := by
        by_cases q : w = a
        · exact q
        · have := ((hT.2.2 w h6.2.2.2).2 q).2.2.1; omega
      subst e
      refine ⟨Ct_flows C, y, ?_, h4, h6⟩
      show f_X0_push_H6 C L (f_X0_push_L6 L fu) (zn w) (zn w) (zn k) = _
      unfold f_X0_push_H6
      rw [if_pos rfl, ite_self]; rfl
  | succ j ih =>
    intro w k fu C y h1 h2 h3 h4 h5 h6
    cases fu with
    | zero => omega
    | succ fu =>
      by_cases e : w = a
      · subst e
        refine ⟨Ct_flows C, y, ?_, h4, h6⟩
        show f_X0_push_H6 C L (f_X0_push_L6 L fu) (zn w) (zn w) (zn k) = _
        unfold f_X0_push_H6
        rw [if_pos rfl, ite_self]; rfl
      · obtain ⟨hw, q⟩ := hT.2.2 w h6.2.2.2
        obtain ⟨q1, q2, q3, q4⟩ := q e
        have hpa := (hT.2.2 _ q2).1
        have hro := hv.ro q1
        have hby : Ct_cameBy C w = zn (by_ w) := by rw [h5 w hw, if_pos ⟨h6.2.2.2, e⟩]
        show ∃ fl y', f_X0_push_H6 C L (f_X0_push_L6 L fu) (zn a) (zn w) (zn k) = _ ∧ _
        unfold f_X0_push_H6 f_X0_push_b100
        rw [if_pos (by rw [zn_l10, zn_lt (by omega) (by omega)]; omega), if_neg (by rw [zn_eq (by omega) (by omega)]; exact e), if_neg (show ¬ zn w = (-1 : Int32) from fun h => (zm_eq (by omega)).mp h)]
        simp only [zb_zn (show w < 10 by omega) (show w < 2147483648 by omega), if_true, zn_nat (show w < 2147483648 by omega), hby]
        rw [if_neg (show ¬ zn (by_ w) = (-1 : Int32) from fun h => (zm_eq (by omega)).mp h), show f_X3_ofRoad L (zn (by_ w)) (1 : Int32) = some (zn (pD_ro D (by_ w) 1)) from pc_ofRoad (k := 1) hv hc q1 (by omega), ob_eq, ifn_eq (by omega) (by omega)]
        simp only [zb_zn (show by_ w < 16 by omega) (show by_ w < 2147483648 by omega), if_true, zn_nat (show by_ w < 2147483648 by omega), h4 _ q1, zl_eq]
        rw [show f_X3_ofRoad L (zn (by_ w)) (0 : Int32) = some (zn (pD_ro D (by_ w) 0)) from pc_ofRoad (k := 0) hv hc q1 (by omega), ob_eq, ob_eq, show zn k + 1 = zn (k + 1) from zn_add k 1]
        have go : ∀ (d : Int), ((d = 1 ∧ pD_ro D (by_ w) 1 = w ∧ pD_ro D (by_ w) 0 = pa w ∧ x (by_ w) < pCap kp (by_ w)) ∨ (d = -1 ∧ pD_ro D (by_ w) 0 = w ∧ pD_ro D (by_ w) 1 = pa w ∧ -(pCap kp (by_ w) : Int) < x (by_ w))) → ∃ fl y', f_X0_push_L6 L fu (Ct_s_flows C (upd (Ct_flows C) (by_ w) (zi (y (by_ w) + d)))) (zn a) (zn (pa w)) (zn (k + 1)) = some (Ct_s_flows C fl) ∧ (∀ r, r < pD_nr D → fl r = zi (y' r)) ∧ pPu D kp a b n x y' vis by_ rk a := by
          intro d hd
          obtain ⟨fl, y', r1, r2, r3⟩ := ih (w := pa w) (k := k + 1) (fu := fu) (Ct_s_flows C (upd (Ct_flows C) (by_ w) (zi (y (by_ w) + d)))) (fun i => if i = by_ w then y (by_ w) + d else y i) (by omega) (by omega) (by omega) (fun r hr => by
            show upd (Ct_flows C) (by_ w) (zi (y (by_ w) + d)) r = zi (if r = by_ w then y (by_ w) + d else y r)
            by_cases z : r = by_ w
            · rw [if_pos z, z, pu_eq]
            · rw [if_neg z, pu_ne _ _ z]; exact h4 r hr) h5 (pPu_step hv hT h6 e hd)
          exact ⟨fl, y', r1, r2, r3⟩
        rcases q4 with ⟨b1, b2, b3⟩ | ⟨b1, b2, b3⟩
        · rw [if_pos b2, b1, show zi (y (by_ w)) + (1 : Int32) = zi (y (by_ w) + 1) from by rw [show (1 : Int32) = zi 1 from rfl, zi_add]]
          exact go 1 (Or.inl ⟨rfl, b2, b1, b3⟩)
        · rw [if_neg (by have := hro.1.2.2; omega), b1]
          have := go (-1) (Or.inr ⟨rfl, b2, b1, b3⟩)
          rw [show zi (y (by_ w)) - (1 : Int32) = zi (y (by_ w) + -1) from by rw [show (1 : Int32) = zi 1 from rfl, zi_sub]; congr 1]
          exact this
/-- an end that is open -/
theorem pc_openEnd (hv : pV D) (hc : pLc D L) {kp : Nat} (hkp : kp < 65536) {x : Nat → Int} (hx : ∀ r, r < pD_nr D → -(pCap kp r : Int) ≤ x r ∧ x r ≤ pCap kp r) {C : CtT} (hfl : ∀ r, r < pD_nr D → Ct_flows C r = zi (x r)) {r p : Nat} (hr : r < pD_nr D) (hp : p < pD_np D) :
    (∃ q, q < pD_np D ∧ pOp D kp x r p q ∧ f_X0_openEnd C L (zn r) (zn p) (zn kp) = some (zn q)) ∨ ((∀ q, ¬ pOp D kp x r p q) ∧ f_X0_openEnd C L (zn r) (zn p) (zn kp) = some zm) := by
  have hnp := hv.np
  have hnr := hv.nr
  have hro := (hv.ro hr).1
  have hxr := hx r hr
  have hcap : pCap kp r ≤ 5 := by unfold pCap; split <;> omega
  have e : f_X0_openEnd C L (zn r) (zn p) (zn kp) = f_X0_openEnd_b15 C L (zn r) (zn p) (zi (pCap kp r)) := by
    unfold f_X0_openEnd
    simp only [zn_bit1 (show kp < 2147483648 by omega) (show r < 32 by omega)]
    unfold pCap
    split <;> rfl
  rw [e]
  unfold f_X0_openEnd_b15
  rw [show f_X3_ofRoad L (zn r) (1 : Int32) = some (zn (pD_ro D r 1)) from pc_ofRoad (k := 1) hv hc hr (by omega), show f_X3_ofRoad L (zn r) (0 : Int32) = some (zn (pD_ro D r 0)) from pc_ofRoad (k := 0) hv hc hr (by omega)]
  simp (disch := omega) only [ob_eq, zn_eq, zb_zn, zn_nat, if_true, hfl r hr, zi_neg, zi_lt]
  by_cases c1 : pD_ro D r 0 = p
  · rw [if_pos c1]
    by_cases c2 : x r < pCap kp r
    · rw [if_pos c2]
      exact Or.inl ⟨_, hro.2.1, Or.inl ⟨c1, rfl, c2⟩, rfl⟩
    · rw [if_neg c2]
      refine Or.inr ⟨fun q hq => ?_, rfl⟩
      rcases hq with ⟨_, _, q3⟩ | ⟨q1, _, _⟩
      · exact c2 q3
      · exact hro.2.2 (by rw [c1, q1])
  · rw [if_neg c1]
    by_cases c2 : pD_ro D r 1 = p
    · rw [if_pos c2]
      by_cases c3 : -x r < (pCap kp r : Int)
      · rw [if_pos c3]
        exact Or.inl ⟨_, hro.1, Or.inr ⟨c2, rfl, by omega⟩, rfl⟩
      · rw [if_neg c3]
        refine Or.inr ⟨fun q hq => ?_, rfl⟩
        rcases hq with ⟨q1, _, _⟩ | ⟨_, _, q3⟩
        · exact c1 q1
        · omega
    · rw [if_neg c2]
      refine Or.inr ⟨fun q hq => ?_, rfl⟩
      rcases hq with ⟨q1, _, _⟩ | ⟨q1, _, _⟩
      · exact c1 q1
      · exact c2 q1
end
