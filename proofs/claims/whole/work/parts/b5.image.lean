/-! IMAGES -/
def pCpL (S T : Nat → Int64) (a b k n : Nat) : Nat → Int64 := fun j => if a + k ≤ j ∧ j < a + n then T (b + (j - a)) else S j
theorem pCpL_end (S T : Nat → Int64) (a b n : Nat) : pCpL S T a b n n = S := by
  funext j; unfold pCpL; rw [if_neg (by omega)]
theorem pCpL_step (S T : Nat → Int64) {a b k n : Nat} (h : k < n) : pCpL (vp_updL S (a + k) (T (b + k))) T a b (k + 1) n = pCpL S T a b k n := by
  funext j
  unfold pCpL vp_updL
  by_cases q : j = a + k
  · subst q
    rw [if_neg (by omega), if_pos rfl, if_pos (by omega)]; congr 1; omega
  · by_cases q2 : a + (k + 1) ≤ j ∧ j < a + n
    · rw [if_pos q2, if_pos (by omega)]
    · rw [if_neg q2, if_neg q, if_neg (by omega)]
theorem pCpL_in (S T : Nat → Int64) {a b n i : Nat} (h : i < n) : pCpL S T a b 0 n (a + i) = T (b + i) := by
  unfold pCpL; rw [if_pos (by omega)]; congr 1; omega
theorem pCpL_out (S T : Nat → Int64) {a b n j : Nat} (h : j < a ∨ a + n ≤ j) : pCpL S T a b 0 n j = S j := by
  unfold pCpL; rw [if_neg (by omega)]
/-! the copies -/
theorem va_cpy0 {α : Type} (f g : Nat → α) {n i : Nat} (h : i < n) : va_cpy f g 0 0 n i = f i := by
  unfold va_cpy
  rw [if_pos (by omega)]; congr 1; omega
def pCpLd (L2 L : LdT) : LdT := ((Ld_places L, Ld_roads L, Ld_men L, Ld_ports L, Ld_lines L), (va_cpy (Ld_placeNames L) (Ld_placeNames L2) 0 0 10, va_cpy (Ld_manNames L) (Ld_manNames L2) 0 0 6, va_cpy (Ld_placeRows L) (Ld_placeRows L2) 0 0 40, va_cpy (Ld_roadRows L) (Ld_roadRows L2) 0 0 80, va_cpy (Ld_manRows L) (Ld_manRows L2) 0 0 24), (va_cpy (Ld_between L) (Ld_between L2) 0 0 100, va_cpy (Ld_miles L) (Ld_miles L2) 0 0 100, va_cpy (Ld_nexts L) (Ld_nexts L2) 0 0 100, va_cpy (Ld_towards L) (Ld_towards L2) 0 0 100))
theorem pc_cpLd (L2 L : LdT) : f_X3_copy L2 L = some (pCpLd L2 L) := by
  unfold f_X3_copy pCpLd
  simp only [zl_eq, show (0 : Int32).toNatClampNeg = 0 from rfl, show (6 : Int32).toNatClampNeg = 6 from rfl, show (10 : Int32).toNatClampNeg = 10 from rfl, show (24 : Int32).toNatClampNeg = 24 from rfl, show (40 : Int32).toNatClampNeg = 40 from rfl, show (80 : Int32).toNatClampNeg = 80 from rfl, show (100 : Int32).toNatClampNeg = 100 from rfl, Ld_s_places, Ld_s_roads, Ld_s_men, Ld_s_ports, Ld_s_lines, Ld_s_placeNames, Ld_s_manNames, Ld_s_placeRows, Ld_s_roadRows, Ld_s_manRows, Ld_s_between, Ld_s_miles, Ld_s_nexts, Ld_s_towards, Ld_places, Ld_roads, Ld_men, Ld_ports, Ld_lines, Ld_placeNames, Ld_manNames, Ld_placeRows, Ld_roadRows, Ld_manRows, Ld_between, Ld_miles, Ld_nexts, Ld_towards]
theorem pc_copyL (L2 L : LdT) : ∃ L', f_X3_copy L2 L = some L' ∧ ∀ D, pV D → pLc D L → pLc D L' ∧ ∀ N, pNn D L N → pNn D L' N := by
  refine ⟨pCpLd L2 L, pc_cpLd L2 L, fun D hv hc => ⟨⟨hc.1, fun p k hp hk => ?_, fun r k hr hk => ?_, fun m k hm hk => ?_, fun a b ha hb => ?_⟩, fun N hN => ⟨fun p hp => ?_, fun m hm => ?_⟩⟩⟩
  · have := hv.np
    rw [← hc.2.1 p k hp hk]
    exact va_cpy0 (Ld_placeRows L) _ (show p * 4 + k < 40 by omega)
  · have := hv.nr
    rw [← hc.2.2.1 r k hr hk]
    exact va_cpy0 (Ld_roadRows L) _ (show r * 5 + k < 80 by omega)
  · have := hv.nm
    rw [← hc.2.2.2.1 m k hm hk]
    exact va_cpy0 (Ld_manRows L) _ (show m * 4 + k < 24 by omega)
  · have := hv.np
    obtain ⟨h1, h2, h3, h4⟩ := hc.2.2.2.2 a b ha hb
    exact ⟨(va_cpy0 (Ld_between L) _ (show a * 10 + b < 100 by omega)).trans h1, (va_cpy0 (Ld_miles L) _ (show a * 10 + b < 100 by omega)).trans h2, (va_cpy0 (Ld_nexts L) _ (show a * 10 + b < 100 by omega)).trans h3, (va_cpy0 (Ld_towards L) _ (show a * 10 + b < 100 by omega)).trans h4⟩
  · have := hv.np
    have e := va_cpy0 (Ld_placeNames L) (Ld_placeNames L2) (show p < 10 by omega)
    have h := hN.1 p hp
    rw [← e] at h
    exact h
  · have := hv.nm
    have e := va_cpy0 (Ld_manNames L) (Ld_manNames L2) (show m < 6 by omega)
    have h := hN.2 m hm
    rw [← e] at h
    exact h
theorem pc_copyP (P2 P : PhT) : ∃ P', f_X5_copy P2 P = some P' ∧ ∀ D w, pSen D P w → pSen D P' w := by
  unfold f_X5_copy
  simp only [zl_eq]
  refine ⟨_, rfl, fun D w h => ?_⟩
  rcases h with h | ⟨ko, so, vo, p, o, d, t, h1, h2, h3, ⟨h4, h5, h6⟩, h7⟩
  · exact Or.inl h
  · refine Or.inr ⟨ko, so, vo, p, o, d, t, h1, h2, h3, ⟨h4, h5, fun i hi => ?_⟩, h7⟩
    obtain ⟨g1, g2, g3, g4, g5⟩ := h6 i hi
    exact ⟨g1, g2, (va_cpy0 (Ph_keys P) _ (show i < 40 by omega)).trans g3, (va_cpy0 (Ph_signs P) _ (show i < 40 by omega)).trans g4, (va_cpy0 (Ph_values P) _ (show i < 40 by omega)).trans g5⟩
theorem pSen.cg {D : pD} {P : PhT} {w w' : Nat → Int32} (h : pSen D P w) (e : ∀ j, 516 ≤ j → j < 758 → w' j = w j) : pSen D P w' := by
  rcases h with ⟨h1, h2⟩ | ⟨ko, so, vo, p, o, d, t, h1, h2, h3, h4, h5, h6, h7, h8, h9, h10⟩
  · exact Or.inl ⟨h1, by rw [e _ (by omega) (by omega)]; exact h2⟩
  · exact Or.inr ⟨ko, so, vo, p, o, d, t, h1, h2, h3, h4, h5, h6, by rw [e _ (by omega) (by omega)]; exact h7, by rw [e _ (by omega) (by omega)]; exact h8, h9, pNd_cg (fun j hj => e _ (by omega) (by omega)) h10⟩
theorem pNn.cg {D : pD} {L : LdT} {N N' : Nat → Int64} (hv : pV D) (h : pNn D L N) (e : ∀ j, j < 16 → N' j = N j) : pNn D L N' := by
  have := hv.np
  have := hv.nm
  exact ⟨fun p hp => by rw [e _ (by omega)]; exact h.1 p hp, fun m hm => by rw [e _ (by omega)]; exact h.2 m hm⟩
/-- an image as both hold it -/
def pImR (w : Nat → Int32) (N : Nat → Int64) (L : LdT) (K : FkT) (P : PhT) : Prop := ∃ D F, pV D ∧ pLc D L ∧ pLm D w ∧ pNn D L N ∧ pFc D F K ∧ pFm D F w ∧ pFv D F ∧ pSen D P w
theorem pImR.cg {w w' : Nat → Int32} {N N' : Nat → Int64} {L : LdT} {K : FkT} {P : PhT} (h : pImR w N L K P) (e1 : ∀ j, j < 758 → w' j = w j) (e2 : ∀ j, j < 16 → N' j = N j) : pImR w' N' L K P := by
  obtain ⟨D, F, h1, h2, h3, h4, h5, h6, h7, h8⟩ := h
  exact ⟨D, F, h1, h2, h3.fr h1 (fun i hi => e1 i (by omega)), h4.cg h1 e2, h5, h6.cg h1 (fun k a b => e1 k (by omega)), h7, h8.cg (fun j a b => e1 j b)⟩
/-- copied, it is the same -/
theorem pImR.copy {w : Nat → Int32} {N : Nat → Int64} {L L2 L' : LdT} {K K2 K' : FkT} {P P2 P' : PhT} (h : pImR w N L K P) (c1 : f_X3_copy L2 L = some L') (c2 : f_X1_copy K2 K = some K') (c3 : f_X5_copy P2 P = some P') : pImR w N L' K' P' := by
  obtain ⟨D, F, h1, h2, h3, h4, h5, h6, h7, h8⟩ := h
  obtain ⟨L1, a1, a2⟩ := pc_copyL L2 L
  obtain ⟨K1, b1, b2⟩ := pc_copy (D := D) K2 K
  obtain ⟨P1, d1, d2⟩ := pc_copyP P2 P
  rw [c1] at a1
  rw [c2] at b1
  rw [c3] at d1
  obtain rfl := Option.some.inj a1
  obtain rfl := Option.some.inj b1
  obtain rfl := Option.some.inj d1
  exact ⟨D, F, h1, (a2 D h1 h2).1, h3, (a2 D h1 h2).2 N h4, b2 F h5 h1, h6, h7, d2 D w h8⟩
def pImg (j : Nat) (o : Option (LdT × FkT × PhT)) (M : MoT) : Prop := match o with
  | none => Mo_isKept M j = 0
  | some q => Mo_isKept M j = 1 ∧ pImR (fun i => Mo_kept M (758 * j + i)) (fun i => Mo_keptName M (16 * j + i)) q.1 q.2.1 q.2.2
theorem pImg.cg {j : Nat} {o : Option (LdT × FkT × PhT)} {M M' : MoT} (h : pImg j o M) (e : M'.2.2.2.2.2.1 = M.2.2.2.2.2.1) : pImg j o M' := by
  unfold pImg Mo_isKept Mo_kept Mo_keptName at h ⊢
  rw [e]; exact h
section
variable {M : MoT}
theorem pm_image51 (M : MoT) {j : Nat} (hj : j < 2) : ∀ (d : Nat) {k fu : Nat} (N : Nat → Int64), k + d = 16 → d + 1 ≤ fu → f_X12_image_L51 fu (Mo_s_keptName M N) (zn j) (zn k) = some (1, Mo_s_isKept (Mo_s_keptName M (pCpL N (Mo_name M) (16 * j) 0 k 16)) (upd (Mo_isKept M) j 1)) := by
  intro d
  induction d with
  | zero =>
    intro k fu N h1 h2
    cases fu with
    | zero => omega
    | succ fu =>
      show f_X12_image_H51 (Mo_s_keptName M N) (f_X12_image_L51 fu) (zn j) (zn k) = _
      unfold f_X12_image_H51
      have e : k = 16 := by omega
      subst e
      rw [if_neg (show ¬ zn 16 < (16 : Int32) by decide), pCpL_end, zb_zn hj (by omega), if_pos rfl, zl_eq, zn_nat (by omega), show vp_nar .boolean (1 : Int32) = 1 from by decide]
      rfl
  | succ d ih =>
    intro k fu N h1 h2
    cases fu with
    | zero => omega
    | succ fu =>
      show f_X12_image_H51 (Mo_s_keptName M N) (f_X12_image_L51 fu) (zn j) (zn k) = _
      unfold f_X12_image_H51
      rw [if_pos (show zn k < (16 : Int32) by rw [zn_l16, zn_lt (by omega) (by omega)]; omega), show (16 : Int32) * zn j = zn (16 * j) from zn_mul 16 j, zn_add, zb_zn (show k < 16 by omega) (by omega), zb_zn (show 16 * j + k < 32 by omega) (by omega), if_pos rfl, if_pos rfl, zl_eq, zn_nat (show k < 2147483648 by omega), zn_nat (show 16 * j + k < 2147483648 by omega), show zn k + 1 = zn (k + 1) from zn_add k 1]
      have e1 : ∀ v, Mo_s_keptName (Mo_s_keptName M N) v = Mo_s_keptName M v := fun v => by simp only [Mo_s_keptName]
      rw [e1, show Mo_keptName (Mo_s_keptName M N) = N from rfl, show Mo_name (Mo_s_keptName M N) = Mo_name M from rfl]
      have := ih (k := k + 1) (fu := fu) (vp_updL N (16 * j + k) (Mo_name M k)) (by omega) (by omega)
      have e := pCpL_step N (Mo_name M) (a := 16 * j) (b := 0) (k := k) (n := 16) (by omega)
      rw [Nat.zero_add] at e
      rw [e] at this
      exact this
theorem pm_image18 (M : MoT) {j : Nat} (hj : j < 2) : ∀ (d : Nat) {k fu : Nat} (w : Nat → Int32), k + d = 758 → d + 1 ≤ fu → f_X12_image_L18 fu (Mo_s_kept M w) (zn j) (zn k) = f_X12_image_L51 zFU (Mo_s_kept M (pCpy w (Mo_now M) (758 * j) 0 k 758)) (zn j) 0 := by
  intro d
  induction d with
  | zero =>
    intro k fu w h1 h2
    cases fu with
    | zero => omega
    | succ fu =>
      show f_X12_image_H18 (Mo_s_kept M w) (f_X12_image_L18 fu) (zn j) (zn k) = _
      unfold f_X12_image_H18
      have e : k = 758 := by omega
      subst e
      rw [if_neg (show ¬ zn 758 < (758 : Int32) by decide), pCpy_end]
  | succ d ih =>
    intro k fu w h1 h2
    cases fu with
    | zero => omega
    | succ fu =>
      show f_X12_image_H18 (Mo_s_kept M w) (f_X12_image_L18 fu) (zn j) (zn k) = _
      unfold f_X12_image_H18
      rw [if_pos (show zn k < (758 : Int32) by rw [zn_l758, zn_lt (by omega) (by omega)]; omega), show (758 : Int32) * zn j = zn (758 * j) from zn_mul 758 j, zn_add, zb_zn (show k < 758 by omega) (by omega), zb_zn (show 758 * j + k < 1516 by omega) (by omega), if_pos rfl, if_pos rfl, zl_eq, zn_nat (show k < 2147483648 by omega), zn_nat (show 758 * j + k < 2147483648 by omega), show zn k + 1 = zn (k + 1) from zn_add k 1]
      have e1 : ∀ v, Mo_s_kept (Mo_s_kept M w) v = Mo_s_kept M v := fun v => by simp only [Mo_s_kept]
      rw [e1, show Mo_kept (Mo_s_kept M w) = w from rfl, show Mo_now (Mo_s_kept M w) = Mo_now M from rfl]
      have := ih (k := k + 1) (fu := fu) (upd w (758 * j + k) (Mo_now M k)) (by omega) (by omega)
      have e := pCpy_step w (Mo_now M) (a := 758 * j) (b := 0) (k := k) (n := 758) (by omega)
      rw [Nat.zero_add] at e
      rw [e] at this
      exact this
theorem pm_restore60 (M : MoT) {j : Nat} (hj : j < 2) : ∀ (d : Nat) {k fu : Nat} (N : Nat → Int64), k + d = 16 → d + 1 ≤ fu → f_X12_restore_L60 fu (Mo_s_name M N) (zn j) (zn k) = some (1, Mo_s_snapMany (Mo_s_name M (pCpL N (Mo_keptName M) 0 (16 * j) k 16)) 0) := by
  intro d
  induction d with
  | zero =>
    intro k fu N h1 h2
    cases fu with
    | zero => omega
    | succ fu =>
      show f_X12_restore_H60 (Mo_s_name M N) (f_X12_restore_L60 fu) (zn j) (zn k) = _
      unfold f_X12_restore_H60
      have e : k = 16 := by omega
      subst e
      rw [if_neg (show ¬ zn 16 < (16 : Int32) by decide), pCpL_end, zl_eq]
  | succ d ih =>
    intro k fu N h1 h2
    cases fu with
    | zero => omega
    | succ fu =>
      show f_X12_restore_H60 (Mo_s_name M N) (f_X12_restore_L60 fu) (zn j) (zn k) = _
      unfold f_X12_restore_H60
      rw [if_pos (show zn k < (16 : Int32) by rw [zn_l16, zn_lt (by omega) (by omega)]; omega), show (16 : Int32) * zn j = zn (16 * j) from zn_mul 16 j, zn_add, zb_zn (show k < 16 by omega) (by omega), zb_zn (show 16 * j + k < 32 by omega) (by omega), if_pos rfl, zl_eq, if_pos rfl, zl_eq, zn_nat (show k < 2147483648 by omega), zn_nat (show 16 * j + k < 2147483648 by omega), show zn k + 1 = zn (k + 1) from zn_add k 1]
      have e1 : ∀ v, Mo_s_name (Mo_s_name M N) v = Mo_s_name M v := fun v => by simp only [Mo_s_name]
      rw [e1, show Mo_name (Mo_s_name M N) = N from rfl, show Mo_keptName (Mo_s_name M N) = Mo_keptName M from rfl]
      have := ih (k := k + 1) (fu := fu) (vp_updL N k (Mo_keptName M (16 * j + k))) (by omega) (by omega)
      have e := pCpL_step N (Mo_keptName M) (a := 0) (b := 16 * j) (k := k) (n := 16) (by omega)
      rw [Nat.zero_add] at e
      rw [e] at this
      exact this
theorem pm_restore27 (M : MoT) {j : Nat} (hj : j < 2) : ∀ (d : Nat) {k fu : Nat} (w : Nat → Int32), k + d = 758 → d + 1 ≤ fu → f_X12_restore_L27 fu (Mo_s_now M w) (zn j) (zn k) = f_X12_restore_L60 zFU (Mo_s_now M (pCpy w (Mo_kept M) 0 (758 * j) k 758)) (zn j) 0 := by
  intro d
  induction d with
  | zero =>
    intro k fu w h1 h2
    cases fu with
    | zero => omega
    | succ fu =>
      show f_X12_restore_H27 (Mo_s_now M w) (f_X12_restore_L27 fu) (zn j) (zn k) = _
      unfold f_X12_restore_H27
      have e : k = 758 := by omega
      subst e
      rw [if_neg (show ¬ zn 758 < (758 : Int32) by decide), pCpy_end]
  | succ d ih =>
    intro k fu w h1 h2
    cases fu with
    | zero => omega
    | succ fu =>
      show f_X12_restore_H27 (Mo_s_now M w) (f_X12_restore_L27 fu) (zn j) (zn k) = _
      unfold f_X12_restore_H27
      rw [if_pos (show zn k < (758 : Int32) by rw [zn_l758, zn_lt (by omega) (by omega)]; omega), show (758 : Int32) * zn j = zn (758 * j) from zn_mul 758 j, zn_add, zb_zn (show k < 758 by omega) (by omega), zb_zn (show 758 * j + k < 1516 by omega) (by omega), if_pos rfl, zl_eq, if_pos rfl, zl_eq, zn_nat (show k < 2147483648 by omega), zn_nat (show 758 * j + k < 2147483648 by omega), show zn k + 1 = zn (k + 1) from zn_add k 1]
      have e1 : ∀ v, Mo_s_now (Mo_s_now M w) v = Mo_s_now M v := fun v => by simp only [Mo_s_now]
      rw [e1, show Mo_now (Mo_s_now M w) = w from rfl, show Mo_kept (Mo_s_now M w) = Mo_kept M from rfl]
      have := ih (k := k + 1) (fu := fu) (upd w k (Mo_kept M (758 * j + k))) (by omega) (by omega)
      have e := pCpy_step w (Mo_kept M) (a := 0) (b := 758 * j) (k := k) (n := 758) (by omega)
      rw [Nat.zero_add] at e
      rw [e] at this
      exact this
/-- promise 39, no such image -/
theorem q_image_no {x1 : Int32} (h : x1 < 0 ∨ ¬ x1 < (2 : Int32)) : f_X12_image M x1 = some (0, Mo_s_thrown M 0) ∧ f_X12_restore M x1 = some (0, Mo_s_thrown M 0) := by
  have h1 : x1 < (0 : Int32) ∨ (1 : Int32) < x1 := by
    rcases h with h | h
    · exact Or.inl h
    · right
      obtain ⟨a, rfl, a1, a2⟩ := zi_get x1
      rw [show (2 : Int32) = zi 2 from rfl, zi_lt a1 a2 (by omega) (by omega)] at h
      rw [show (1 : Int32) = zi 1 from rfl, zi_lt (by omega) (by omega) a1 a2]; omega
  unfold f_X12_image f_X12_restore
  rw [zl_eq, zl_eq, pm_isIn0 h1, ob_eq, ob_eq, if_pos rfl, if_pos rfl]
  exact ⟨rfl, rfl⟩
theorem q_image {j : Nat} (hj : j < 2) {L L2 L' : LdT} {K K2 K' : FkT} {P P2 P' : PhT} (h : pImR (Mo_now M) (Mo_name M) L K P) (c1 : f_X3_copy L2 L = some L') (c2 : f_X1_copy K2 K = some K') (c3 : f_X5_copy P2 P = some P') :
    ∃ W N I, f_X12_image M (zn j) = some (1, Mo_s_isKept (Mo_s_keptName (Mo_s_kept (Mo_s_thrown M 0) W) N) I) ∧ pImg j (some (L', K', P')) (Mo_s_isKept (Mo_s_keptName (Mo_s_kept (Mo_s_thrown M 0) W) N) I) ∧ ∀ i o, i < 2 → i ≠ j → pImg i o M → pImg i o (Mo_s_isKept (Mo_s_keptName (Mo_s_kept (Mo_s_thrown M 0) W) N) I) := by
  refine ⟨pCpy (Mo_kept M) (Mo_now M) (758 * j) 0 0 758, pCpL (Mo_keptName M) (Mo_name M) (16 * j) 0 0 16, upd (Mo_isKept M) j 1, ?_, ⟨pu_eq _ _ _, (h.copy c1 c2 c3).cg (fun i hi => ?_) (fun i hi => ?_)⟩, fun i o hi hne ho => ?_⟩
  · unfold f_X12_image
    rw [zl_eq, show f_X12_isIn (zn j) 0 1 = some 1 from pm_isIn1 (lo := 0) (hi := 1) (by omega) (by omega) (by omega), ob_eq, if_neg n10]
    have e1 : Mo_s_thrown M 0 = Mo_s_kept (Mo_s_thrown M 0) (Mo_kept M) := rfl
    have a1 := pm_image18 (Mo_s_thrown M 0) hj 758 (k := 0) (fu := zFU) (Mo_kept M) (by omega) (zFU_ge (by omega))
    rw [← e1] at a1
    refine a1.trans ?_
    have a2 := pm_image51 (Mo_s_kept (Mo_s_thrown M 0) (pCpy (Mo_kept M) (Mo_now (Mo_s_thrown M 0)) (758 * j) 0 0 758)) hj 16 (k := 0) (fu := zFU) (Mo_keptName M) (by omega) (zFU_ge (by omega))
    exact a2
  · show pCpy (Mo_kept M) (Mo_now M) (758 * j) 0 0 758 (758 * j + i) = _
    rw [pCpy_in _ _ hi, Nat.zero_add]
  · show pCpL (Mo_keptName M) (Mo_name M) (16 * j) 0 0 16 (16 * j + i) = _
    rw [pCpL_in _ _ hi, Nat.zero_add]
  · unfold pImg at ho ⊢
    cases o with
    | none =>
      show upd (Mo_isKept M) j 1 i = 0
      rw [pu_ne _ _ hne]; exact ho
    | some q =>
      refine ⟨?_, ho.2.cg (fun z hz => ?_) (fun z hz => ?_)⟩
      · show upd (Mo_isKept M) j 1 i = 1
        rw [pu_ne _ _ hne]; exact ho.1
      · show pCpy (Mo_kept M) (Mo_now M) (758 * j) 0 0 758 (758 * i + z) = _
        rw [pCpy_out _ _ (by omega)]
      · show pCpL (Mo_keptName M) (Mo_name M) (16 * j) 0 0 16 (16 * i + z) = _
        rw [pCpL_out _ _ (by omega)]
/-- promise 40 -/
theorem q_restore_no {j : Nat} (hj : j < 2) (h : pImg j none M) : f_X12_restore M (zn j) = some (0, Mo_s_thrown M 0) := by
  unfold f_X12_restore
  rw [zl_eq, show f_X12_isIn (zn j) 0 1 = some 1 from pm_isIn1 (lo := 0) (hi := 1) (by omega) (by omega) (by omega), ob_eq, if_neg n10, zb_zn hj (by omega), if_pos rfl, zn_nat (by omega), if_pos (show Mo_isKept (Mo_s_thrown M 0) j = 0 from h)]
theorem q_restore {j : Nat} (hj : j < 2) {L L2 L' : LdT} {K K2 K' : FkT} {P P2 P' : PhT} (h : pImg j (some (L, K, P)) M) (c1 : f_X3_copy L2 L = some L') (c2 : f_X1_copy K2 K = some K') (c3 : f_X5_copy P2 P = some P') :
    ∃ w N, f_X12_restore M (zn j) = some (1, Mo_s_snapMany (Mo_s_name (Mo_s_now (Mo_s_thrown M 0) w) N) 0) ∧ pImR w N L' K' P' := by
  refine ⟨pCpy (Mo_now M) (Mo_kept M) 0 (758 * j) 0 758, pCpL (Mo_name M) (Mo_keptName M) 0 (16 * j) 0 16, ?_, (h.2.copy c1 c2 c3).cg (fun i hi => ?_) (fun i hi => ?_)⟩
  · unfold f_X12_restore
    rw [zl_eq, show f_X12_isIn (zn j) 0 1 = some 1 from pm_isIn1 (lo := 0) (hi := 1) (by omega) (by omega) (by omega), ob_eq, if_neg n10, zb_zn hj (by omega), if_pos rfl, zn_nat (by omega), show Mo_isKept (Mo_s_thrown M 0) j = 1 from h.1, if_neg n10]
    have e1 : Mo_s_thrown M 0 = Mo_s_now (Mo_s_thrown M 0) (Mo_now M) := rfl
    have a1 := pm_restore27 (Mo_s_thrown M 0) hj 758 (k := 0) (fu := zFU) (Mo_now M) (by omega) (zFU_ge (by omega))
    rw [← e1] at a1
    refine a1.trans ?_
    have a2 := pm_restore60 (Mo_s_now (Mo_s_thrown M 0) (pCpy (Mo_now M) (Mo_kept (Mo_s_thrown M 0)) 0 (758 * j) 0 758)) hj 16 (k := 0) (fu := zFU) (Mo_name M) (by omega) (zFU_ge (by omega))
    exact a2
  · have := pCpy_in (Mo_now M) (Mo_kept M) (a := 0) (b := 758 * j) (n := 758) hi
    rw [Nat.zero_add] at this; exact this
  · have := pCpL_in (Mo_name M) (Mo_keptName M) (a := 0) (b := 16 * j) (n := 16) hi
    rw [Nat.zero_add] at this; exact this
end
