/-! the class: stepping along the way -/
theorem zn_eq0 {a : Nat} (h : a < 2147483648) : (zn a = 0) = (a = 0) := zn_eq (b := 0) h (by omega)
theorem zn_eq1 {a : Nat} (h : a < 2147483648) : (zn a = 1) = (a = 1) := zn_eq (b := 1) h (by omega)
theorem zn_eq2 {a : Nat} (h : a < 2147483648) : (zn a = 2) = (a = 2) := zn_eq (b := 2) h (by omega)
theorem zn_pos {a : Nat} (h : a < 2147483648) : ((0 : Int32) < zn a) = (0 < a) := zn_lt (a := 0) (by omega) h
theorem pc_ofRoadL {D : pD} {L : LdT} (hv : pV D) (h : pLc D L) {r k : Nat} (hr : r < pD_nr D) (hk : k < 5) {x : Int32} (hx : x = zn k) : f_X3_ofRoad L (zn r) x = some (zn (pD_ro D r k)) := by
  rw [hx]; exact pc_ofRoad hv h hr hk
theorem pc_next {D : pD} {L : LdT} (hv : pV D) (h : pLc D L) {a b : Nat} (ha : a < pD_np D) (hb : b < pD_np D) (hab : a ≠ b) (hj : pD_far D a b ≠ 100000) : f_X3_nextTo L (zn a) (zn b) = some (zn (pNx D a b)) := by
  obtain ⟨⟨e, -⟩, -⟩ := hv.stp ha hb hab hj
  rw [pc_nextTo hv h ha hb, e]; rfl
theorem pc_toward {D : pD} {L : LdT} (hv : pV D) (h : pLc D L) {a b : Nat} (ha : a < pD_np D) (hb : b < pD_np D) (hab : a ≠ b) (hj : pD_far D a b ≠ 100000) : f_X3_roadToward L (zn a) (zn b) = some (zn (pRd D a b)) := by
  obtain ⟨⟨e, -⟩, ⟨e2, -⟩, -⟩ := hv.stp ha hb hab hj
  exact pc_roadToward hv h ha hb e e2
theorem pc_length {D : pD} {L : LdT} (hv : pV D) (h : pLc D L) {a b : Nat} (ha : a < pD_np D) (hb : b < pD_np D) (hab : a ≠ b) (hj : pD_far D a b ≠ 100000) : f_X3_ofRoad L (zn (pRd D a b)) (2 : Int32) = some (zn (pLen D a b)) := by
  obtain ⟨-, ⟨-, hr⟩, e3, -⟩ := hv.stp ha hb hab hj
  rw [e3]; exact pc_ofRoadL hv h hr (k := 2) (by omega) rfl
theorem pc_step_loop {D : pD} {L : LdT} (hv : pV D) (h : pLc D L) {b : Nat} (hb : b < pD_np D) (K : FkT) (x2 x3 : Int32) : ∀ (n : Nat) {a g k fu : Nat}, a < pD_np D → pD_far D a b ≠ 100000 → pCl D b a < n → k + n ≤ 10 → n ≤ fu → g < 100000 →
    f_X1_step_L31 L fu K x2 x3 (zn b) (zn a) (zn g) (zn k) = f_X1_step_b93 K L x2 x3 (zn (pWalk D b n a g).1) (zn (pWalk D b n a g).2)
  | 0, a, g, k, fu, ha, hj, h1, h2, h3, hg => by omega
  | n + 1, a, g, k, 0, ha, hj, h1, h2, h3, hg => by omega
  | n + 1, a, g, k, fu + 1, ha, hj, h1, h2, h3, hg => by
    have hnp := hv.np
    show f_X1_step_H31 K L (f_X1_step_L31 L fu) x2 x3 (zn b) (zn a) (zn g) (zn k) = _
    unfold f_X1_step_H31
    have c1 : zn k < (10 : Int32) := by rw [zn_l10, zn_lt (by omega) (by omega)]; omega
    rw [if_pos c1, pWalk_succ]
    by_cases q : a = b
    · rw [if_pos (by rw [q]), if_pos (Or.inl q)]
    · rw [if_neg (by rw [zn_eq (by omega) (by omega)]; exact q), pc_toward hv h ha hb q hj, ob_some, pc_length hv h ha hb q hj, ob_some, pc_next hv h ha hb q hj]
      obtain ⟨⟨-, s1⟩, -, -, s4, s5, s6, s7, s8⟩ := hv.stp ha hb q hj
      by_cases q2 : g < pLen D a b
      · rw [if_pos (by rw [zn_lt (by omega) (by omega)]; exact q2), if_pos (Or.inr q2)]
      · rw [if_neg (by rw [zn_lt (by omega) (by omega)]; exact q2), if_neg (by omega), ob_some, zn_sub (by omega), zn_l1, zn_add]
        exact pc_step_loop hv h hb K x2 x3 n s1 s7 (by omega) (by omega) (by omega) (by omega)
/-! fords -/
def pFord (D : pD) (b a : Nat) (left : Int) : Prop := ∃ j : Nat, (j : Int) < left ∧ j < pD_far D a b ∧ pD_ro D (pRd D (pWalk D b 10 a j).1 b) 4 = 1
theorem pFord_no {D : pD} {b a : Nat} {left : Int} (h : left ≤ 0) : ¬ pFord D b a left := by
  rintro ⟨j, h1, -⟩; omega
theorem pFord_goal {D : pD} (hv : pV D) {b : Nat} (hb : b < pD_np D) {left : Int} : ¬ pFord D b b left := by
  rintro ⟨j, -, h1, -⟩
  have := hv.far0 hb
  omega
theorem pFord_now {D : pD} (hv : pV D) {a b : Nat} (ha : a < pD_np D) (hb : b < pD_np D) (hab : a ≠ b) (hj : pD_far D a b ≠ 100000) {left : Int} (hl : 0 < left) (hf : pD_ro D (pRd D a b) 4 = 1) : pFord D b a left := by
  obtain ⟨-, -, -, s4, s5, s6, s7, s8⟩ := hv.stp ha hb hab hj
  exact ⟨0, hl, by omega, by rw [pWalk_stay (Or.inr (by omega))]; exact hf⟩
theorem pFord_on {D : pD} (hv : pV D) {a b : Nat} (ha : a < pD_np D) (hb : b < pD_np D) (hab : a ≠ b) (hj : pD_far D a b ≠ 100000) {left : Int} (hf : pD_ro D (pRd D a b) 4 ≠ 1) : pFord D b a left ↔ pFord D b (pNx D a b) (left - pLen D a b) := by
  obtain ⟨-, -, -, s4, s5, s6, s7, s8⟩ := hv.stp ha hb hab hj
  constructor
  · rintro ⟨j, h1, h2, h3⟩
    by_cases q : j < pLen D a b
    · rw [pWalk_stay (Or.inr q)] at h3; exact absurd h3 hf
    · rw [pWalk_on hv ha hb hab hj (by omega)] at h3
      exact ⟨j - pLen D a b, by omega, by omega, h3⟩
  · rintro ⟨j, h1, h2, h3⟩
    refine ⟨j + pLen D a b, by omega, by omega, ?_⟩
    rw [pWalk_on hv ha hb hab hj (by omega), Nat.add_sub_cancel]; exact h3
theorem pc_ford_loop {D : pD} {L : LdT} (hv : pV D) (h : pLc D L) {b : Nat} (hb : b < pD_np D) (K : FkT) {go : Nat} (hgo : go < 10000) (hgo0 : 0 < go) : ∀ (n : Nat) {a k fu : Nat} {left : Int}, a < pD_np D → pD_far D a b ≠ 100000 → pCl D b a < n → k + n ≤ 10 → n ≤ fu → -10000 < left → left < 20000 →
    ∃ r : Int32, f_X1_meetsFord_L31 K L fu (zn go) (zn b) (zn a) (zi left) (zn k) = some r ∧ ((r = 1 ∧ pFord D b a left) ∨ (r = 0 ∧ ¬ pFord D b a left))
  | 0, a, k, fu, left, ha, hj, h1, h2, h3, hl, hl2 => by omega
  | n + 1, a, k, 0, left, ha, hj, h1, h2, h3, hl, hl2 => by omega
  | n + 1, a, k, fu + 1, left, ha, hj, h1, h2, h3, hl, hl2 => by
    have hnp := hv.np
    show ∃ r : Int32, f_X1_meetsFord_H31 K L (f_X1_meetsFord_L31 K L fu) (zn go) (zn b) (zn a) (zi left) (zn k) = some r ∧ _
    unfold f_X1_meetsFord_H31
    have c1 : zn k < (10 : Int32) := by rw [zn_l10, zn_lt (by omega) (by omega)]; omega
    rw [if_pos c1, if_pos (show (0 : Int32) < zn go by rw [zn_pos (by omega)]; exact hgo0)]
    have e0 : ((0 : Int32) < zi left) = (0 < left) := by rw [zn_l0, ← zi_zn]; exact zi_lt (by omega) (by omega) (by omega) (by omega)
    by_cases q0 : 0 < left
    · rw [if_pos (by rw [e0]; exact q0)]
      by_cases q : a = b
      · rw [if_pos (by rw [q])]
        exact ⟨0, rfl, Or.inr ⟨rfl, by rw [q]; exact pFord_goal hv hb⟩⟩
      · obtain ⟨⟨-, s1⟩, ⟨-, sr⟩, -, s4, s5, s6, s7, s8⟩ := hv.stp ha hb q hj
        have hro := (hv.ro sr).2.2.2.2.1
        rw [if_neg (by rw [zn_eq (by omega) (by omega)]; exact q), pc_toward hv h ha hb q hj, ob_some, pc_ofRoadL hv h sr (k := 4) (x := (4 : Int32)) (by omega) rfl, ob_some]
        by_cases q4 : pD_ro D (pRd D a b) 4 = 1
        · rw [if_pos (by rw [zn_eq1 (by omega)]; exact q4)]
          exact ⟨1, rfl, Or.inl ⟨rfl, pFord_now hv ha hb q hj q0 q4⟩⟩
        · rw [if_neg (by rw [zn_eq1 (by omega)]; exact q4), pc_length hv h ha hb q hj, ob_some, pc_next hv h ha hb q hj, ob_some, ← zi_zn (pLen D a b), zi_sub, zn_l1, zn_add]
          obtain ⟨r, i1, i2⟩ := pc_ford_loop hv h hb K hgo hgo0 n (fu := fu) (k := k + 1) (left := left - pLen D a b) s1 s7 (by omega) (by omega) (by omega) (by omega) (by omega)
          refine ⟨r, i1, ?_⟩
          rw [pFord_on hv ha hb q hj q4]; exact i2
    · rw [if_neg (by rw [e0]; exact q0)]
      exact ⟨0, rfl, Or.inr ⟨rfl, pFord_no (by omega)⟩⟩
/-! the reference: where he is -/
def pM (M : MoT) (w : Nat → Int32) (s a b : Int32) : MoT := Mo_s_placeThere (Mo_s_roadThere (Mo_s_seed (Mo_s_now M w) s) a) b
theorem pM_now (M : MoT) (w : Nat → Int32) (s a b : Int32) : Mo_now (pM M w s a b) = w := Eq.trans rfl rfl
theorem pM_seed (M : MoT) (w : Nat → Int32) (s a b : Int32) : Mo_seed (pM M w s a b) = s := Eq.trans rfl rfl
theorem pM_road (M : MoT) (w : Nat → Int32) (s a b : Int32) : Mo_roadThere (pM M w s a b) = a := Eq.trans rfl rfl
theorem pM_place (M : MoT) (w : Nat → Int32) (s a b : Int32) : Mo_placeThere (pM M w s a b) = b := Eq.trans rfl rfl
theorem pM_snow (M : MoT) (w : Nat → Int32) (s a b : Int32) (v : Nat → Int32) : Mo_s_now (pM M w s a b) v = pM M v s a b := Eq.trans rfl rfl
theorem pM_sseed (M : MoT) (w : Nat → Int32) (s a b : Int32) (v : Int32) : Mo_s_seed (pM M w s a b) v = pM M w v a b := Eq.trans rfl rfl
theorem pM_sroad (M : MoT) (w : Nat → Int32) (s a b : Int32) (v : Int32) : Mo_s_roadThere (pM M w s a b) v = pM M w s v b := Eq.trans rfl rfl
theorem pM_splace (M : MoT) (w : Nat → Int32) (s a b : Int32) (v : Int32) : Mo_s_placeThere (pM M w s a b) v = pM M w s a v := Eq.trans rfl rfl
theorem pM_eta (M : MoT) : pM M (Mo_now M) (Mo_seed M) (Mo_roadThere M) (Mo_placeThere M) = M := Eq.trans rfl rfl
theorem pm_next {D : pD} {M : MoT} (hv : pV D) (h : pLm D (Mo_now M)) {a b : Nat} (ha : a < pD_np D) (hb : b < pD_np D) (hab : a ≠ b) (hj : pD_far D a b ≠ 100000) : f_X12_nextOf M (zn a) (zn b) = some (zn (pNx D a b)) := by
  obtain ⟨⟨e, -⟩, -⟩ := hv.stp ha hb hab hj
  rw [pm_nextOf hv h ha hb, e]; rfl
theorem pm_road {D : pD} {M : MoT} (hv : pV D) (h : pLm D (Mo_now M)) {a b : Nat} (ha : a < pD_np D) (hb : b < pD_np D) (hab : a ≠ b) (hj : pD_far D a b ≠ 100000) : f_X12_roadOf M (zn a) (zn (pNx D a b)) = some (zn (pRd D a b)) := by
  obtain ⟨⟨-, e1⟩, ⟨e2, -⟩, -⟩ := hv.stp ha hb hab hj
  rw [pm_roadOf hv h ha e1, e2]; rfl
/-- where one is who has gone g miles from a to b: the place, or none -/
def pThere (D : pD) (b a g : Nat) : Int32 := if (pWalk D b 10 a g).2 = 0 then zn (pWalk D b 10 a g).1 else zm
theorem pm_lay_loop {D : pD} (hv : pV D) (M : MoT) {w : Nat → Int32} (h : pLm D w) (s : Int32) {b : Nat} (hb : b < pD_np D) : ∀ (n : Nat) {a g fu : Nat} (r0 p0 : Int32), a < pD_np D → pD_far D a b ≠ 100000 → pCl D b a < n → n + 1 ≤ fu → g ≤ pD_far D a b →
    f_X12_layThere_L11 fu (pM M w s r0 p0) (zn b) (zn a) (zn g) = some (pM M w s (if g = 0 then r0 else zn (pRd D (pWalk D b 10 a (g - 1)).1 b)) (pThere D b a g))
  | 0, a, g, fu, r0, p0, ha, hj, h1, h2, h3 => by omega
  | n + 1, a, g, 0, r0, p0, ha, hj, h1, h2, h3 => by omega
  | n + 1, a, g, 1, r0, p0, ha, hj, h1, h2, h3 => by omega
  | n + 1, a, g, fu + 2, r0, p0, ha, hj, h1, h2, h3 => by
    have hnp := hv.np
    have hfar := hv.far ha hb
    have hX : ∀ (r1 p1 : Int32), pLm D (Mo_now (pM M w s r1 p1)) := fun _ _ => h
    show f_X12_layThere_H11 (pM M w s r0 p0) (f_X12_layThere_L11 (fu + 1)) (zn b) (zn a) (zn g) = _
    unfold f_X12_layThere_H11
    simp only [zlet, pM_splace]
    by_cases q0 : g = 0
    · subst q0
      have e : pThere D b a 0 = zn a := by
        unfold pThere
        by_cases q : a = b
        · rw [pWalk_stay (Or.inl q), if_pos rfl]
        · have := (hv.stp ha hb q hj).2.2.2.2.1
          rw [pWalk_stay (Or.inr (by omega)), if_pos rfl]
      rw [if_neg (by rw [zn_pos (by omega)]; omega), if_pos (by rw [zn_eq0 (by omega)]), e, if_pos rfl]
    · have hab : a ≠ b := by
        intro e
        have := hv.far0 hb
        rw [e] at h3; omega
      obtain ⟨⟨-, s1⟩, ⟨-, sr⟩, s3, s4, s5, s6, s7, s8⟩ := hv.stp ha hb hab hj
      have hnr := hv.nr
      rw [if_pos (by rw [zn_pos (by omega)]; omega), if_neg q0, pm_next hv (hX _ _) ha hb hab hj, ob_some, pm_road hv (hX _ _) ha hb hab hj, ob_some]
      simp only [pM_sroad, pM_road, pM_now]
      simp (disch := omega) only [zn_l144, zn_add, zb_zn, zn_nat, if_true, (h.2.2.1 _ sr).2.2.1]
      rw [← s3]
      by_cases q : pLen D a b ≤ g
      · rw [zn_sub q, pm_lay_loop hv M h s hb n _ _ s1 s7 (by omega) (by omega) (by omega)]
        have e1 : pThere D b (pNx D a b) (g - pLen D a b) = pThere D b a g := by
          unfold pThere; rw [pWalk_on hv ha hb hab hj q]
        rw [e1]
        congr 2
        by_cases q2 : g - pLen D a b = 0
        · rw [if_pos q2, pWalk_stay (g := g - 1) (Or.inr (by omega))]
        · rw [if_neg q2, pWalk_on hv ha hb hab hj (g := g - 1) (by omega)]
          congr 4; omega
      · have e1 : zn g - zn (pLen D a b) = zi ((g : Int) - (pLen D a b : Int)) := by rw [← zi_zn, ← zi_zn, zi_sub]
        rw [e1]
        show f_X12_layThere_H11 (pM M w s (zn (pRd D a b)) p0) (f_X12_layThere_L11 fu) (zn b) (zn (pNx D a b)) _ = _
        unfold f_X12_layThere_H11
        have e2 : ((0 : Int32) < zi ((g : Int) - (pLen D a b : Int))) = False := by
          rw [zn_l0, ← zi_zn, zi_lt (by omega) (by omega) (by omega) (by omega), eq_iff_iff, iff_false]; omega
        have e3 : (zi ((g : Int) - (pLen D a b : Int)) = (0 : Int32)) = False := by
          rw [zn_l0, ← zi_zn, zi_eq (by omega) (by omega) (by omega) (by omega), eq_iff_iff, iff_false]; omega
        simp only [zlet, pM_splace, e2, e3, if_false]
        have e4 : pThere D b a g = zm := by
          unfold pThere; rw [pWalk_stay (Or.inr (by omega)), if_neg q0]
        rw [e4, pWalk_stay (g := g - 1) (Or.inr (by omega))]; rfl
