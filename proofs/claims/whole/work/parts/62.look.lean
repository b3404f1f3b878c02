/-! rows that are looked at only where the index is within -/
theorem zb_row {α : Type} {i N : Nat} {a b c : α} (h : i < N) (hN : N < 2147483648) : (if zn i < 0 then a else if zn i < nI N then b else c) = b := by
  show (if zn i < 0 then a else if zn i < zn N then b else c) = b
  rw [if_neg (zn_ge0 (by omega)), if_pos (show zn i < zn N by rw [zn_lt (by omega) hN]; exact h)]
theorem pr_ofPlace (L : LdT) {p k : Nat} (h : p * 4 + k < 40) : f_X3_ofPlace L (zn p) (zn k) = some (Ld_placeRows L (p * 4 + k)) := by
  unfold f_X3_ofPlace
  rw [show zn p * (4 : Int32) = zn (p * 4) from zn_mul p 4, zn_add, zb_row h (by omega), zb_zn h (by omega), if_pos rfl, zn_nat (by omega)]
theorem pr_ofRoad (L : LdT) {p k : Nat} (h : p * 5 + k < 80) : f_X3_ofRoad L (zn p) (zn k) = some (Ld_roadRows L (p * 5 + k)) := by
  unfold f_X3_ofRoad
  rw [show zn p * (5 : Int32) = zn (p * 5) from zn_mul p 5, zn_add, zb_row h (by omega), zb_zn h (by omega), if_pos rfl, zn_nat (by omega)]
theorem pr_ofMan (L : LdT) {p k : Nat} (h : p * 4 + k < 24) : f_X3_ofMan L (zn p) (zn k) = some (Ld_manRows L (p * 4 + k)) := by
  unfold f_X3_ofMan
  rw [show zn p * (4 : Int32) = zn (p * 4) from zn_mul p 4, zn_add, zb_row h (by omega), zb_zn h (by omega), if_pos rfl, zn_nat (by omega)]
theorem pr_roadBetween (L : LdT) {p k : Nat} (h : p * 10 + k < 100) : f_X3_roadBetween L (zn p) (zn k) = some (Ld_between L (p * 10 + k)) := by
  unfold f_X3_roadBetween
  rw [show zn p * (10 : Int32) = zn (p * 10) from zn_mul p 10, zn_add, zb_row h (by omega), zb_zn h (by omega), if_pos rfl, zn_nat (by omega)]
theorem pr_milesBetween (L : LdT) {p k : Nat} (h : p * 10 + k < 100) : f_X3_milesBetween L (zn p) (zn k) = some (Ld_miles L (p * 10 + k)) := by
  unfold f_X3_milesBetween
  rw [show zn p * (10 : Int32) = zn (p * 10) from zn_mul p 10, zn_add, zb_row h (by omega), zb_zn h (by omega), if_pos rfl, zn_nat (by omega)]
theorem pr_nextTo (L : LdT) {p k : Nat} (h : p * 10 + k < 100) : f_X3_nextTo L (zn p) (zn k) = some (Ld_nexts L (p * 10 + k)) := by
  unfold f_X3_nextTo
  rw [show zn p * (10 : Int32) = zn (p * 10) from zn_mul p 10, zn_add, zb_row h (by omega), zb_zn h (by omega), if_pos rfl, zn_nat (by omega)]
theorem pr_roadToward (L : LdT) {p k : Nat} (h : p * 10 + k < 100) : f_X3_roadToward L (zn p) (zn k) = some (Ld_towards L (p * 10 + k)) := by
  unfold f_X3_roadToward
  rw [show zn p * (10 : Int32) = zn (p * 10) from zn_mul p 10, zn_add, zb_row h (by omega), zb_zn h (by omega), if_pos rfl, zn_nat (by omega)]
theorem pr_nameOfPlace (L : LdT) {p : Nat} (h : p < 10) : f_X3_nameOfPlace L (zn p) = some (Ld_placeNames L p) := by
  unfold f_X3_nameOfPlace
  rw [zb_row h (by omega), zb_zn h (by omega), if_pos rfl, zn_nat (by omega)]
theorem pr_nameOfMan (L : LdT) {p : Nat} (h : p < 6) : f_X3_nameOfMan L (zn p) = some (Ld_manNames L p) := by
  unfold f_X3_nameOfMan
  rw [zb_row h (by omega), zb_zn h (by omega), if_pos rfl, zn_nat (by omega)]
/-! reading the land: the class -/
theorem pc_hasPlace1 {D : pD} {L : LdT} (hv : pV D) (h : pLc D L) {p : Nat} (hp : p < pD_np D) : f_X3_hasPlace L (zn p) = some 1 := by
  have := hv.np
  unfold f_X3_hasPlace
  rw [if_neg (zn_ge0 (by omega)), if_pos]
  rw [h.1.1, zn_lt (by omega) (by omega)]; exact hp
theorem pc_hasPlace0 {D : pD} {L : LdT} (h : pLc D L) {x : Int32} (hx : x < 0 ∨ ¬ x < zn (pD_np D)) : f_X3_hasPlace L x = some 0 := by
  unfold f_X3_hasPlace f_X3_hasPlace_b16
  rw [h.1.1]
  rcases hx with hx | hx
  · rw [if_pos hx]
  · rw [if_neg hx]; split <;> rfl
theorem pc_hasMan1 {D : pD} {L : LdT} (hv : pV D) (h : pLc D L) {p : Nat} (hp : p < pD_nm D) : f_X3_hasMan L (zn p) = some 1 := by
  have := hv.nm
  unfold f_X3_hasMan
  rw [if_neg (zn_ge0 (by omega)), if_pos]
  rw [h.1.2.2.1, zn_lt (by omega) (by omega)]; exact hp
theorem pc_hasMan0 {D : pD} {L : LdT} (h : pLc D L) {x : Int32} (hx : x < 0 ∨ ¬ x < zn (pD_nm D)) : f_X3_hasMan L x = some 0 := by
  unfold f_X3_hasMan f_X3_hasMan_b16
  rw [h.1.2.2.1]
  rcases hx with hx | hx
  · rw [if_pos hx]
  · rw [if_neg hx]; split <;> rfl
theorem pc_ofPlace {D : pD} {L : LdT} (hv : pV D) (h : pLc D L) {p k : Nat} (hp : p < pD_np D) (hk : k < 4) : f_X3_ofPlace L (zn p) (zn k) = some (zn (pD_pl D p k)) := by
  have := hv.np
  rw [pr_ofPlace L (by omega), h.2.1 p k hp hk]
theorem pc_ofRoad {D : pD} {L : LdT} (hv : pV D) (h : pLc D L) {r k : Nat} (hr : r < pD_nr D) (hk : k < 5) : f_X3_ofRoad L (zn r) (zn k) = some (zn (pD_ro D r k)) := by
  have := hv.nr
  rw [pr_ofRoad L (by omega), h.2.2.1 r k hr hk]
theorem pc_ofMan {D : pD} {L : LdT} (hv : pV D) (h : pLc D L) {m k : Nat} (hm : m < pD_nm D) (hk : k < 4) : f_X3_ofMan L (zn m) (zn k) = some (zn (pD_me D m k)) := by
  have := hv.nm
  rw [pr_ofMan L (by omega), h.2.2.2.1 m k hm hk]
theorem pc_roadBetween {D : pD} {L : LdT} (hv : pV D) (h : pLc D L) {a b : Nat} (ha : a < pD_np D) (hb : b < pD_np D) : f_X3_roadBetween L (zn a) (zn b) = some (zo (pD_rd D a b)) := by
  have := hv.np
  rw [pr_roadBetween L (by omega), (h.2.2.2.2 a b ha hb).1]
theorem pc_milesBetween {D : pD} {L : LdT} (hv : pV D) (h : pLc D L) {a b : Nat} (ha : a < pD_np D) (hb : b < pD_np D) : f_X3_milesBetween L (zn a) (zn b) = some (zn (pD_far D a b)) := by
  have := hv.np
  rw [pr_milesBetween L (by omega), (h.2.2.2.2 a b ha hb).2.1]
theorem pc_nextTo {D : pD} {L : LdT} (hv : pV D) (h : pLc D L) {a b : Nat} (ha : a < pD_np D) (hb : b < pD_np D) : f_X3_nextTo L (zn a) (zn b) = some (zo (pD_nx D a b)) := by
  have := hv.np
  rw [pr_nextTo L (by omega), (h.2.2.2.2 a b ha hb).2.2.1]
theorem pc_roadToward {D : pD} {L : LdT} (hv : pV D) (h : pLc D L) {a b p r : Nat} (ha : a < pD_np D) (hb : b < pD_np D) (hp : pD_nx D a b = p + 1) (hr : pD_rd D a p = r + 1) : f_X3_roadToward L (zn a) (zn b) = some (zn r) := by
  have := hv.np
  have e := (h.2.2.2.2 a b ha hb).2.2.2
  rw [hp, if_neg (by omega), Nat.add_sub_cancel, hr] at e
  rw [pr_roadToward L (by omega), e]; rfl
theorem pc_joined {D : pD} {L : LdT} (hv : pV D) (h : pLc D L) {a b : Nat} (ha : a < pD_np D) (hb : b < pD_np D) : f_X3_joined L (zn a) (zn b) = some (if pD_far D a b = 100000 then 0 else 1) := by
  have := hv.np
  have hf := hv.far ha hb
  unfold f_X3_joined
  rw [pc_milesBetween hv h ha hb, Option.bind_some]
  simp (disch := omega) only [zn_l100000, zn_lt]
  by_cases q : pD_far D a b = 100000
  · rw [if_neg (by omega), if_pos q]
  · rw [if_pos (by omega), if_neg q]
theorem pc_isPort1 {D : pD} {L : LdT} (hv : pV D) (h : pLc D L) {p : Nat} (hp : p < pD_np D) : f_X3_isPort L (zn p) = some (if pD_pl D p 0 = 2 then 1 else 0) := by
  have := hv.pl hp
  unfold f_X3_isPort f_X3_isPort_b22
  rw [pc_hasPlace1 hv h hp, zn_l0, Option.bind_some, if_neg (by decide), pc_ofPlace hv h hp (by omega), Option.bind_some]
  simp (disch := omega) only [zn_l2, zn_eq]
  split <;> rfl
theorem pc_isPort0 {D : pD} {L : LdT} (h : pLc D L) {x : Int32} (hx : x < 0 ∨ ¬ x < zn (pD_np D)) : f_X3_isPort L x = some 0 := by
  unfold f_X3_isPort f_X3_isPort_b22
  rw [pc_hasPlace0 h hx, Option.bind_some, if_pos rfl]
/-! the reference -/
theorem pm_isIn (x a b : Int32) : f_X12_isIn x a b = some (if x < a ∨ b < x then 0 else 1) := by
  unfold f_X12_isIn f_X12_isIn_b14
  by_cases h1 : x < a
  · simp [h1]
  · by_cases h2 : b < x <;> simp [h1, h2]
theorem pm_bound {x : Int32} {n : Nat} (hn : n < 2147483648) : f_X12_isIn x 0 (zn n - 1) = some (if x < 0 ∨ ¬ x < zn n then 0 else 1) := by
  rw [pm_isIn]
  obtain ⟨a, rfl, h1, h2⟩ := zi_get x
  have e : (zn n - 1 < zi a) = (¬ zi a < zn n) := by
    rw [zn_l1, ← zi_zn, ← zi_zn, zi_sub, zi_lt (by omega) (by omega) h1 h2, zi_lt h1 h2 (by omega) (by omega)]
    simp only [eq_iff_iff]; omega
  simp only [e]
theorem pm_bound1 {p n : Nat} (hn : n < 2147483648) (hp : p < n) : f_X12_isIn (zn p) 0 (zn n - 1) = some 1 := by
  rw [pm_bound hn, if_neg]
  rintro (q | q)
  · exact zn_ge0 (by omega) q
  · rw [zn_lt (by omega) (by omega)] at q; exact q hp
theorem pm_isPlace1 {D : pD} {M : MoT} (hv : pV D) (h : pLm D (Mo_now M)) {p : Nat} (hp : p < pD_np D) : f_X12_isPlace M (zn p) = some 1 := by
  have := hv.np
  unfold f_X12_isPlace
  rw [show (0 : Int32).toNatClampNeg = 0 from rfl, h.1.1, pm_bound1 (by omega) hp, Option.bind_some]
  rfl
theorem pm_isPlace0 {D : pD} {M : MoT} (hv : pV D) (h : pLm D (Mo_now M)) {x : Int32} (hx : x < 0 ∨ ¬ x < zn (pD_np D)) : f_X12_isPlace M x = some 0 := by
  have := hv.np
  unfold f_X12_isPlace
  rw [show (0 : Int32).toNatClampNeg = 0 from rfl, h.1.1, pm_bound (by omega), Option.bind_some, if_pos hx]
  rfl
theorem pm_isMan1 {D : pD} {M : MoT} (hv : pV D) (h : pLm D (Mo_now M)) {p : Nat} (hp : p < pD_nm D) : f_X12_isMan M (zn p) = some 1 := by
  have := hv.nm
  unfold f_X12_isMan
  rw [show (2 : Int32).toNatClampNeg = 2 from rfl, h.1.2.2.1, pm_bound1 (by omega) hp, Option.bind_some]
  rfl
theorem pm_isMan0 {D : pD} {M : MoT} (hv : pV D) (h : pLm D (Mo_now M)) {x : Int32} (hx : x < 0 ∨ ¬ x < zn (pD_nm D)) : f_X12_isMan M x = some 0 := by
  have := hv.nm
  unfold f_X12_isMan
  rw [show (2 : Int32).toNatClampNeg = 2 from rfl, h.1.2.2.1, pm_bound (by omega), Option.bind_some, if_pos hx]
  rfl
theorem pm_isPort1 {D : pD} {M : MoT} (hv : pV D) (h : pLm D (Mo_now M)) {p : Nat} (hp : p < pD_np D) : f_X12_isPort M (zn p) = some (if pD_pl D p 0 = 2 then 1 else 0) := by
  have := hv.pl hp
  have := hv.np
  unfold f_X12_isPort f_X12_isPort_b24
  rw [pm_isPlace1 hv h hp, Option.bind_some, if_neg (by decide)]
  simp (disch := omega) only [zn_l4, zn_l2, zn_add, zb_zn, zn_nat, if_true, (h.2.1 p hp).1, zn_eq]
  split <;> rfl
theorem pm_isPort0 {D : pD} {M : MoT} (hv : pV D) (h : pLm D (Mo_now M)) {x : Int32} (hx : x < 0 ∨ ¬ x < zn (pD_np D)) : f_X12_isPort M x = some 0 := by
  unfold f_X12_isPort f_X12_isPort_b24
  rw [pm_isPlace0 hv h hx, Option.bind_some, if_pos rfl]
theorem pm_farOf {D : pD} {M : MoT} (hv : pV D) (h : pLm D (Mo_now M)) {a b : Nat} (ha : a < pD_np D) (hb : b < pD_np D) : f_X12_farOf M (zn a) (zn b) = some (zn (pD_far D a b)) := by
  have := hv.np
  unfold f_X12_farOf
  simp (disch := omega) only [zn_l10, zn_l243, zn_mul, zn_add, zb_zn, zn_nat, if_true, (h.2.2.2.2.2 a b ha hb).2.1]
theorem pm_nextOf {D : pD} {M : MoT} (hv : pV D) (h : pLm D (Mo_now M)) {a b : Nat} (ha : a < pD_np D) (hb : b < pD_np D) : f_X12_nextOf M (zn a) (zn b) = some (zo (pD_nx D a b)) := by
  have := hv.np
  unfold f_X12_nextOf
  simp (disch := omega) only [zn_l10, zn_l343, zn_mul, zn_add, zb_zn, zn_nat, if_true, (h.2.2.2.2.2 a b ha hb).2.2]
theorem zo_pred (n : Nat) : zn n - 1 = zo n := by
  cases n with
  | zero => rfl
  | succ k => rw [zn_l1, zn_sub (by omega)]; rfl
theorem pm_roadOf {D : pD} {M : MoT} (hv : pV D) (h : pLm D (Mo_now M)) {a b : Nat} (ha : a < pD_np D) (hb : b < pD_np D) : f_X12_roadOf M (zn a) (zn b) = some (zo (pD_rd D a b)) := by
  have := hv.np
  unfold f_X12_roadOf
  simp (disch := omega) only [zn_l10, zn_l44, zn_mul, zn_add, zb_zn, zn_nat, if_true, (h.2.2.2.2.2 a b ha hb).1, zo_pred]
/-! promise 17 -/
theorem q_far {D : pD} {L : LdT} {M : MoT} (hv : pV D) (hc : pLc D L) (hm : pLm D (Mo_now M)) (X : XxT) (x1 x2 : Int32) : ∃ r, f_X11_far X L x1 x2 = some r ∧ f_X12_far M x1 x2 = some (r, Mo_s_thrown M 0) := by
  have hm' : pLm D (Mo_now (Mo_s_thrown M 0)) := hm
  simp only [f_X11_far, f_X12_far, f_X12_far_b41, zlet]
  rcases zn_lim x1 (pD_np D) (by have := hv.np; omega) with h1 | ⟨a, rfl, ha⟩
  · refine ⟨-1, ?_, ?_⟩
    · rw [pc_hasPlace0 hc h1, Option.bind_some, if_pos rfl]
    · rw [pm_isPlace0 hv hm' h1, Option.bind_some, if_pos rfl]
  rcases zn_lim x2 (pD_np D) (by have := hv.np; omega) with h2 | ⟨b, rfl, hb⟩
  · refine ⟨-1, ?_, ?_⟩
    · simp only [pc_hasPlace1 hv hc ha, pc_hasPlace0 hc h2, Option.bind_some]; rfl
    · simp only [pm_isPlace1 hv hm' ha, pm_isPlace0 hv hm' h2, Option.bind_some]; rfl
  have hf := hv.far ha hb
  refine ⟨if pD_far D a b = 100000 then -1 else zn (pD_far D a b), ?_, ?_⟩
  · simp only [pc_hasPlace1 hv hc ha, pc_hasPlace1 hv hc hb, pc_joined hv hc ha hb, pc_milesBetween hv hc ha hb, Option.bind_some]
    by_cases q : pD_far D a b = 100000 <;> simp [q]
  · simp only [pm_isPlace1 hv hm' ha, pm_isPlace1 hv hm' hb, pm_farOf hv hm' ha hb, Option.bind_some]
    simp (disch := omega) only [zn_l100000, zn_lt]
    by_cases q : pD_far D a b = 100000
    · simp [q]
    · have : pD_far D a b < 100000 := by omega
      simp [q, this]
