/-! SENTENCES: reading, the tools -/
/-- what reading a sentence leaves -/
def pBl (M : MoT) := (M.1, M.2.2.2.1, M.2.2.2.2.1, M.2.2.2.2.2.1, M.2.2.2.2.2.2.1, M.2.2.2.2.2.2.2.1, M.2.2.2.2.2.2.2.2.1, M.2.2.2.2.2.2.2.2.2.1, M.2.2.2.2.2.2.2.2.2.2.1, M.2.2.2.2.2.2.2.2.2.2.2.1, Mo_thrown M)
theorem pFb.bl {M M' : MoT} (h : pFb M M') : pBl M' = pBl M := by unfold pBl; rw [h.1, h.2.1, h.2.2]
theorem pFb.nd {M M' : MoT} (h : pFb M M') : Mo_node M' = Mo_node M ∧ Mo_nodes M' = Mo_nodes M ∧ Mo_onesMany M' = Mo_onesMany M ∧ Mo_within M' = Mo_within M ∧ Mo_top M' = Mo_top M := by
  have e := h.2.1
  exact ⟨congrArg (fun z => z.2.2.2.2.2.2.2.2.2.1) e, congrArg (fun z => z.2.2.2.2.2.2.2.2.2.2.1) e, congrArg (fun z => z.2.2.2.2.2.2.2.2.2.2.2.1) e, congrArg (fun z => z.2.2.2.2.2.2.2.2.2.2.2.2.1) e, congrArg (fun z => z.2.2.2.2.2.2.2.2.2.2.2.2.2) e⟩
theorem pBl_now {M M' : MoT} (h : pBl M' = pBl M) : Mo_now M' = Mo_now M ∧ Mo_name M' = Mo_name M := ⟨congrArg (fun z => z.2.2.1.1) h, congrArg (fun z => z.2.2.1.2) h⟩
def upN (f : Nat → Nat) (k v : Nat) : Nat → Nat := fun i => if i = k then v else f i
theorem upN_eq (f : Nat → Nat) (k v : Nat) : upN f k v k = v := if_pos rfl
theorem upN_ne (f : Nat → Nat) {k i : Nat} (v : Nat) (h : i ≠ k) : upN f k v i = f i := if_neg h
theorem pc_addP {P : PhT} {ko so vo : Nat → Nat} {p : Nat} (h : pPh P ko so vo p) (hp : p < 40) {o s v : Nat} (ho : pOk3 o v) (hs : s < 128) :
    ∃ P', f_X5_add P (zn (pKo o)) (zn s) (zn v) = some P' ∧ Ph_ones P' = Ph_ones P ∧ pPh P' (upN ko p o) (upN so p s) (upN vo p v) (p + 1) := by
  obtain ⟨h1, h2, h3⟩ := h
  refine ⟨Ph_s_parts (Ph_s_values (Ph_s_signs (Ph_s_keys P (upd (Ph_keys P) p (zn (pKo o)))) (upd (Ph_signs P) p (zn s))) (upd (Ph_values P) p (zn v))) (zn (p + 1)), ?_, rfl, rfl, by omega, fun i hi => ?_⟩
  · unfold f_X5_add
    rw [h1, if_pos (show zn p < (40 : Int32) by rw [zn_l40, zn_lt (by omega) (by omega)]; exact hp), zb_zn hp (by omega), if_pos rfl, zl_eq, zn_nat (by omega)]
    rw [show Ph_parts (Ph_s_keys P (upd (Ph_keys P) p (zn (pKo o)))) = zn p from h1, zb_zn hp (by omega), if_pos rfl, zl_eq, zn_nat (by omega)]
    rw [show Ph_parts (Ph_s_signs (Ph_s_keys P (upd (Ph_keys P) p (zn (pKo o)))) (upd (Ph_signs (Ph_s_keys P (upd (Ph_keys P) p (zn (pKo o))))) p (zn s))) = zn p from h1, zb_zn hp (by omega), if_pos rfl, zl_eq, zn_nat (by omega), zl_eq]
    rw [show Ph_parts (Ph_s_values (Ph_s_signs (Ph_s_keys P (upd (Ph_keys P) p (zn (pKo o)))) (upd (Ph_signs (Ph_s_keys P (upd (Ph_keys P) p (zn (pKo o))))) p (zn s))) (upd (Ph_values (Ph_s_signs (Ph_s_keys P (upd (Ph_keys P) p (zn (pKo o)))) (upd (Ph_signs (Ph_s_keys P (upd (Ph_keys P) p (zn (pKo o))))) p (zn s)))) p (zn v))) = zn p from h1, show zn p + 1 = zn (p + 1) from zn_add p 1]
    rfl
  · show pOk3 (upN ko p o i) (upN vo p v i) ∧ upN so p s i < 128 ∧ upd (Ph_keys P) p (zn (pKo o)) i = _ ∧ upd (Ph_signs P) p (zn s) i = _ ∧ upd (Ph_values P) p (zn v) i = _
    by_cases q : i = p
    · rw [q, upN_eq, upN_eq, upN_eq, pu_eq, pu_eq, pu_eq]
      exact ⟨ho, hs, rfl, rfl, rfl⟩
    · rw [upN_ne _ _ q, upN_ne _ _ q, upN_ne _ _ q, pu_ne _ _ q, pu_ne _ _ q, pu_ne _ _ q]
      exact h3 i (by omega)
/-- adding where all is lost -/
theorem pc_addW {P : PhT} {p : Nat} (h : Ph_parts P = zn p) (hp : p ≤ 40) (x y z : Int32) : ∃ P' p', f_X5_add P x y z = some P' ∧ Ph_parts P' = zn p' ∧ p' ≤ 40 := by
  unfold f_X5_add
  by_cases q : p < 40
  · rw [h, if_pos (show zn p < (40 : Int32) by rw [zn_l40, zn_lt (by omega) (by omega)]; exact q), zb_zn q (by omega), if_pos rfl, zl_eq]
    rw [show Ph_parts (Ph_s_keys P (upd (Ph_keys P) (zn p).toNatClampNeg x)) = zn p from h, zb_zn q (by omega), if_pos rfl, zl_eq]
    rw [show Ph_parts (Ph_s_signs (Ph_s_keys P (upd (Ph_keys P) (zn p).toNatClampNeg x)) (upd (Ph_signs (Ph_s_keys P (upd (Ph_keys P) (zn p).toNatClampNeg x))) (zn p).toNatClampNeg y)) = zn p from h, zb_zn q (by omega), if_pos rfl, zl_eq, zl_eq]
    refine ⟨_, p + 1, rfl, ?_, by omega⟩
    show Ph_parts P + 1 = _
    rw [h]; exact zn_add p 1
  · rw [h, if_neg (show ¬ zn p < (40 : Int32) by rw [zn_l40, zn_lt (by omega) (by omega)]; exact q)]
    exact ⟨P, p, rfl, h, hp⟩
theorem pm_says {M : MoT} {q : Nat} (h : Mo_nodes M = zn q) (hq : q < 60) (x1 x2 x3 x4 : Int32) :
    ∃ nd, f_X12_saysOne M x1 x2 x3 x4 = some (zn q, Mo_s_nodes (Mo_s_node M nd) (zn (q + 1))) ∧ nd (4 * q) = x1 ∧ nd (4 * q + 1) = x2 ∧ nd (4 * q + 2) = x3 ∧ nd (4 * q + 3) = x4 ∧ ∀ j, j < 4 * q → nd j = Mo_node M j := by
  refine ⟨upd (upd (upd (upd (Mo_node M) (4 * q) x1) (4 * q + 1) x2) (4 * q + 2) x3) (4 * q + 3) x4, ?_, ?_, ?_, ?_, pu_eq _ _ _, fun j hj => ?_⟩
  · unfold f_X12_saysOne
    rw [h, zn_l4, zn_mul, show zn (4 * q) + (1 : Int32) = zn (4 * q + 1) from zn_add _ 1, show zn (4 * q) + (2 : Int32) = zn (4 * q + 2) from zn_add _ 2, show zn (4 * q) + (3 : Int32) = zn (4 * q + 3) from zn_add _ 3, zb_zn (by omega) (by omega), zb_zn (by omega) (by omega), zb_zn (by omega) (by omega), zb_zn (by omega) (by omega)]
    simp only [if_true, zl_eq, zn_nat (show 4 * q < 2147483648 by omega), zn_nat (show 4 * q + 1 < 2147483648 by omega), zn_nat (show 4 * q + 2 < 2147483648 by omega), zn_nat (show 4 * q + 3 < 2147483648 by omega)]
    have e : ∀ a b c d : Nat → Int32, Mo_nodes (Mo_s_node (Mo_s_node (Mo_s_node (Mo_s_node M a) b) c) d) = zn q := fun a b c d => h
    rw [e, show zn q + 1 = zn (q + 1) from zn_add q 1]
    have e2 : ∀ a b c d : Nat → Int32, Mo_s_nodes (Mo_s_node (Mo_s_node (Mo_s_node (Mo_s_node M a) b) c) d) (zn (q + 1)) = Mo_s_nodes (Mo_s_node M d) (zn (q + 1)) := fun a b c d => by simp only [Mo_s_nodes, Mo_s_node]
    have e3 : ∀ d : Nat → Int32, Mo_nodes (Mo_s_nodes (Mo_s_node M d) (zn (q + 1))) = zn (q + 1) := fun d => rfl
    rw [e2, e3, show zn (q + 1) - 1 = zn q from zn_sub (b := 1) (by omega)]
    rfl
  · rw [pu_ne _ _ (by omega), pu_ne _ _ (by omega), pu_ne _ _ (by omega), pu_eq]
  · rw [pu_ne _ _ (by omega), pu_ne _ _ (by omega), pu_eq]
  · rw [pu_ne _ _ (by omega), pu_eq]
  · rw [pu_ne _ _ (by omega), pu_ne _ _ (by omega), pu_ne _ _ (by omega), pu_ne _ _ (by omega)]
/-- the parts from a to b say d -/
def pSgm (D : pD) (ko so vo : Nat → Nat) (a b : Nat) (d : pF → Nat → Bool) : Prop := a ≤ b ∧ ∀ F m x, pRn3 D F m ko so vo (b - a) a x = 2 * x + (if d F m = true then 1 else 0)
theorem pSgm_cg {D : pD} {ko so vo ko' so' vo' : Nat → Nat} {a b : Nat} {d : pF → Nat → Bool} (h : pSgm D ko so vo a b d) (e : ∀ i, i < b → ko' i = ko i ∧ so' i = so i ∧ vo' i = vo i) : pSgm D ko' so' vo' a b d :=
  ⟨h.1, fun F m x => (pRn3_cg D F m (b - a) a x (fun i h1 h2 => e i (by have := h.1; omega))).trans (h.2 F m x)⟩
theorem pRn3_one (D : pD) (F : pF) (m : Nat) (ko so vo : Nat → Nat) (k x : Nat) : pRn3 D F m ko so vo 1 k x = pSt3 (pLf D F m (ko k - 50) (so k) (vo k)) (ko k) x := rfl
theorem pSgm_leaf {D : pD} {ko so vo : Nat → Nat} {a w s v : Nat} (hw : 15 ≤ w) (e : ko a = 50 + w) (e2 : so a = s) (e3 : vo a = v) : pSgm D ko so vo a (a + 1) (fun F m => pLf D F m w s v) := by
  refine ⟨by omega, fun F m x => ?_⟩
  rw [Nat.add_sub_cancel_left, pRn3_one, e, e2, e3, Nat.add_sub_cancel_left]
  unfold pSt3
  rw [if_neg (by omega), if_neg (by omega), if_neg (by omega)]
theorem pSgm_not {D : pD} {ko so vo : Nat → Nat} {a b : Nat} {d : pF → Nat → Bool} (h : pSgm D ko so vo a b d) (e : ko b = 1) : pSgm D ko so vo a (b + 1) (fun F m => !d F m) := by
  refine ⟨by have := h.1; omega, fun F m x => ?_⟩
  have hab := h.1
  rw [show b + 1 - a = (b - a) + 1 by omega, pRn3_add, h.2, show a + (b - a) = b by omega, pRn3_one, e]
  unfold pSt3
  rw [if_pos rfl]
  show _ = 2 * x + (if (!d F m) = true then 1 else 0)
  generalize d F m = y
  have e1 : (2 * x + 1) / 2 = x := by omega
  have e2 : (2 * x + 1) % 2 = 1 := by omega
  have e3 : (2 * x + 0) / 2 = x := by omega
  have e4 : (2 * x + 0) % 2 = 0 := by omega
  cases y
  · show (2 * x + 0) / 2 * 2 + (1 - (2 * x + 0) % 2) = 2 * x + 1
    rw [e3, e4]; omega
  · show (2 * x + 1) / 2 * 2 + (1 - (2 * x + 1) % 2) = 2 * x + 0
    rw [e1, e2]; omega
theorem pSgm_and {D : pD} {ko so vo : Nat → Nat} {a b c : Nat} {d1 d2 : pF → Nat → Bool} (h1 : pSgm D ko so vo a b d1) (h2 : pSgm D ko so vo b c d2) (e : ko c = 2) : pSgm D ko so vo a (c + 1) (fun F m => (d1 F m && d2 F m)) := by
  have hab := h1.1
  have hbc := h2.1
  refine ⟨by omega, fun F m x => ?_⟩
  rw [show c + 1 - a = (b - a) + ((c - b) + 1) by omega, pRn3_add, h1.2, show a + (b - a) = b by omega, pRn3_add, h2.2, show b + (c - b) = c by omega, pRn3_one, e]
  unfold pSt3
  rw [if_neg (by omega), if_pos rfl]
  show _ = 2 * x + (if (d1 F m && d2 F m) = true then 1 else 0)
  generalize d1 F m = y1
  generalize d2 F m = y2
  cases y1 <;> cases y2
  · show (if (2 * (2 * x + 0) + 0) % 2 = 1 then (2 * (2 * x + 0) + 0) / 2 else (2 * (2 * x + 0) + 0) / 2 / 2 * 2) = 2 * x + 0
    rw [if_neg (by omega)]; omega
  · show (if (2 * (2 * x + 0) + 1) % 2 = 1 then (2 * (2 * x + 0) + 1) / 2 else (2 * (2 * x + 0) + 1) / 2 / 2 * 2) = 2 * x + 0
    rw [if_pos (by omega)]; omega
  · show (if (2 * (2 * x + 1) + 0) % 2 = 1 then (2 * (2 * x + 1) + 0) / 2 else (2 * (2 * x + 1) + 0) / 2 / 2 * 2) = 2 * x + 0
    rw [if_neg (by omega)]; omega
  · show (if (2 * (2 * x + 1) + 1) % 2 = 1 then (2 * (2 * x + 1) + 1) / 2 else (2 * (2 * x + 1) + 1) / 2 / 2 * 2) = 2 * x + 1
    rw [if_pos (by omega)]; omega
theorem pSgm_or {D : pD} {ko so vo : Nat → Nat} {a b c : Nat} {d1 d2 : pF → Nat → Bool} (h1 : pSgm D ko so vo a b d1) (h2 : pSgm D ko so vo b c d2) (e : ko c = 3) : pSgm D ko so vo a (c + 1) (fun F m => (d1 F m || d2 F m)) := by
  have hab := h1.1
  have hbc := h2.1
  refine ⟨by omega, fun F m x => ?_⟩
  rw [show c + 1 - a = (b - a) + ((c - b) + 1) by omega, pRn3_add, h1.2, show a + (b - a) = b by omega, pRn3_add, h2.2, show b + (c - b) = c by omega, pRn3_one, e]
  unfold pSt3
  rw [if_neg (by omega), if_neg (by omega), if_pos rfl]
  show _ = 2 * x + (if (d1 F m || d2 F m) = true then 1 else 0)
  generalize d1 F m = y1
  generalize d2 F m = y2
  cases y1 <;> cases y2
  · show (if (2 * (2 * x + 0) + 0) % 2 = 1 then (2 * (2 * x + 0) + 0) / 2 / 2 * 2 + 1 else (2 * (2 * x + 0) + 0) / 2) = 2 * x + 0
    rw [if_neg (by omega)]; omega
  · show (if (2 * (2 * x + 0) + 1) % 2 = 1 then (2 * (2 * x + 0) + 1) / 2 / 2 * 2 + 1 else (2 * (2 * x + 0) + 1) / 2) = 2 * x + 1
    rw [if_pos (by omega)]; omega
  · show (if (2 * (2 * x + 1) + 0) % 2 = 1 then (2 * (2 * x + 1) + 0) / 2 / 2 * 2 + 1 else (2 * (2 * x + 1) + 0) / 2) = 2 * x + 1
    rw [if_neg (by omega)]; omega
  · show (if (2 * (2 * x + 1) + 1) % 2 = 1 then (2 * (2 * x + 1) + 1) / 2 / 2 * 2 + 1 else (2 * (2 * x + 1) + 1) / 2) = 2 * x + 1
    rw [if_pos (by omega)]; omega
theorem pOnes_up (ko : Nat → Nat) (p o : Nat) : pOnes (upN ko p o) (p + 1) = pOnes ko p + (if 50 ≤ o then 1 else 0) := by
  have cg : ∀ n, n ≤ p → pOnes (upN ko p o) n = pOnes ko n := by
    intro n
    induction n with
    | zero => intro _; rfl
    | succ n ih =>
      intro hn
      show pOnes (upN ko p o) n + (if decide (50 ≤ upN ko p o n) = true then 1 else 0) = pOnes ko n + (if decide (50 ≤ ko n) = true then 1 else 0)
      rw [ih (by omega), upN_ne _ _ (by omega)]
  show pOnes (upN ko p o) p + (if decide (50 ≤ upN ko p o p) = true then 1 else 0) = _
  rw [cg p (Nat.le_refl _), upN_eq]
  by_cases q : 50 ≤ o <;> simp [q]
/-- both have read so far, well: p parts and nodes, o ONES, dp within one another -/
def pJ (n most : Nat) (B : Nat → Nat) (R : RdT) (M : MoT) (P : PhT) (ko so vo : Nat → Nat) (p o dp : Nat) : Prop :=
  pG n most B R M ∧ (Ph_ones P = zn o ∧ o ≤ 20 ∧ Mo_onesMany M = zn o) ∧ pPh P ko so vo p ∧ pOnes ko p ≤ o ∧ p ≤ 2 * o ∧ Mo_nodes M = zn p ∧ Mo_within M = zn dp
/-- what comes of reading a piece -/
def pGood (n most : Nat) (B : Nat → Nat) (D : pD) (M : MoT) (ko so vo : Nat → Nat) (p o dp : Nat) (cl : Option (PhT × RdT)) (mo : Option (Int32 × MoT)) : Prop :=
  ∃ P' R' M' ko' so' vo' p' o' d t, cl = some (P', R') ∧ mo = some (1, M') ∧ pJ n most B R' M' P' ko' so' vo' p' o' dp ∧ p' + 1 + 2 * o ≤ p + 2 * o' ∧ o < o' ∧ p < p' ∧ (∀ i, i < p → ko' i = ko i ∧ so' i = so i ∧ vo' i = vo i) ∧ (∀ j, j < 4 * p → Mo_node M' j = Mo_node M j) ∧ pSgm D ko' so' vo' p p' d ∧ t < p' ∧ Mo_top M' = zn t ∧ pNd D (Mo_node M') p' t d ∧ pBl M' = pBl M
def pBad3 (M : MoT) (cl : Option (PhT × RdT)) (mo : Option (Int32 × MoT)) : Prop :=
  ∃ P' R' M' p', cl = some (P', R') ∧ mo = some (0, M') ∧ pW R' M' ∧ Ph_parts P' = zn p' ∧ p' ≤ 40 ∧ pBl M' = pBl M
/-- one part and one node more -/
theorem pJ_add {n most : Nat} {B : Nat → Nat} {R : RdT} {M : MoT} {P : PhT} {ko so vo : Nat → Nat} {p o dp : Nat} (h : pJ n most B R M P ko so vo p o dp) (hp : p + 1 ≤ 2 * o) {c s v : Nat} (hc : pOk3 c v) (hs : s < 128) (ho : 50 ≤ c → pOnes ko p + 1 ≤ o) (x1 x2 x3 x4 : Int32) :
    ∃ P' nd, f_X5_add P (zn (pKo c)) (zn s) (zn v) = some P' ∧ f_X12_saysOne M x1 x2 x3 x4 = some (zn p, Mo_s_nodes (Mo_s_node M nd) (zn (p + 1))) ∧ pJ n most B R (Mo_s_nodes (Mo_s_node M nd) (zn (p + 1))) P' (upN ko p c) (upN so p s) (upN vo p v) (p + 1) o dp ∧ nd (4 * p) = x1 ∧ nd (4 * p + 1) = x2 ∧ nd (4 * p + 2) = x3 ∧ nd (4 * p + 3) = x4 ∧ (∀ j, j < 4 * p → nd j = Mo_node M j) := by
  obtain ⟨hG, ⟨h1, h2, h3⟩, h4, h5, h6, h7, h8⟩ := h
  obtain ⟨P', a1, a2, a3⟩ := pc_addP h4 (by omega) hc hs
  obtain ⟨nd, b1, b2, b3, b4, b5, b6⟩ := pm_says h7 (by omega) x1 x2 x3 x4
  refine ⟨P', nd, a1, b1, ⟨hG, ⟨a2.trans h1, h2, h3⟩, a3, ?_, hp, rfl, h8⟩, b2, b3, b4, b5, b6⟩
  rw [pOnes_up]
  split
  · rename_i q; exact ho q
  · omega
