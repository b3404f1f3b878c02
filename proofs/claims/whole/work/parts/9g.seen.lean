theorem pByt_255 : ∀ c : Fin 256, pByt c.val &&& (255 : Int32) = zn c.val := by decide +kernel
section
variable {s : Nat → Nat} {p n : Nat} {M : MoT} {R : RdT}
theorem q_seen (hS : ∀ i, i < n → Rd_tape R i = pByt (s i) ∧ Mo_tape M i = zn (s i) ∧ s i < 256) (hn : n ≤ 20) {g : Nat} (hg : g ≤ 270) (m x2 : Int32) : ∀ (d : Nat) {k f1 f2 : Nat} {S : TrT}, k + d = n → d + 1 ≤ f1 → d + 1 ≤ f2 → (∀ i, i < k → Tr_seen S i = zn (s i) ∧ s i ≤ g) →
    (∃ S', f_X10_track_L24 R f1 S x2 (zn g) (zn n) (zn k) = some (-1, S') ∧ f_X12_turned_L58 f2 M m (zn n) (zn g) (zn k) = some (-1, M) ∧ Tr_least S' = Tr_least S ∧ Tr_greatest S' = Tr_greatest S) ∨
    (∃ S', f_X10_track_L24 R f1 S x2 (zn g) (zn n) (zn k) = f_X10_track_L79 R zFU S' x2 (zn g) (zn n) 0 ∧ f_X12_turned_L58 f2 M m (zn n) (zn g) (zn k) = f_X12_turned_L89 zFU M m (zn n) (zn g) 0 0 ∧ (∀ i, i < n → Tr_seen S' i = zn (s i) ∧ s i ≤ g) ∧ (∀ a, a < 271 → Tr_marks S' a = 0) ∧ Tr_least S' = Tr_least S ∧ Tr_greatest S' = Tr_greatest S)
  | d, k, 0, f2, S, h1, h2, h3, h4 => by omega
  | d, k, f1 + 1, 0, S, h1, h2, h3, h4 => by omega
  | 0, k, f1 + 1, f2 + 1, S, h1, h2, h3, h4 => by
    right
    have c0 : f_X10_track_L24 R (f1 + 1) S x2 (zn g) (zn n) (zn k) = f_X10_track_H24 S R (f_X10_track_L24 R f1) x2 (zn g) (zn n) (zn k) := rfl
    have m0 : f_X12_turned_L58 (f2 + 1) M m (zn n) (zn g) (zn k) = f_X12_turned_H58 M (f_X12_turned_L58 f2) m (zn n) (zn g) (zn k) := rfl
    have e : k = n := by omega
    subst e
    rw [c0, m0]
    unfold f_X10_track_H24 f_X12_turned_H58
    have nl : ¬ zn k < zn k := by rw [zn_lt (by omega) (by omega)]; omega
    rw [if_neg nl, if_neg nl, zl_eq]
    refine ⟨Tr_s_marks S (zr_fill 271 (Tr_marks S) (vp_nar .byte 0)), rfl, rfl, h4, fun a ha => ?_, rfl, rfl⟩
    show zr_fill 271 (Tr_marks S) (vp_nar .byte 0) a = 0
    unfold zr_fill
    rw [if_pos ha]; decide
  | d + 1, k, f1 + 1, f2 + 1, S, h1, h2, h3, h4 => by
    have c0 : f_X10_track_L24 R (f1 + 1) S x2 (zn g) (zn n) (zn k) = f_X10_track_H24 S R (f_X10_track_L24 R f1) x2 (zn g) (zn n) (zn k) := rfl
    have m0 : f_X12_turned_L58 (f2 + 1) M m (zn n) (zn g) (zn k) = f_X12_turned_H58 M (f_X12_turned_L58 f2) m (zn n) (zn g) (zn k) := rfl
    rw [c0, m0]
    unfold f_X10_track_H24 f_X12_turned_H58
    obtain ⟨t1, t2, t3⟩ := hS k (by omega)
    have lt : zn k < zn n := by rw [zn_lt (by omega) (by omega)]; omega
    rw [if_pos lt, if_pos lt, zb_zn (show k < 940 by omega) (by omega), if_pos rfl, if_pos rfl, zb_zn (show k < 20 by omega) (by omega), if_pos rfl, zl_eq, if_pos rfl, zn_nat (by omega), t1, t2, show pByt (s k) &&& 255 = zn (s k) from pByt_255 ⟨s k, t3⟩, show Tr_seen (Tr_s_seen S (upd (Tr_seen S) k (zn (s k)))) k = zn (s k) from pu_eq _ _ _, show zn k + 1 = zn (k + 1) from zn_add k 1]
    by_cases q : g < s k
    · left
      have q' : zn g < zn (s k) := by rw [zn_lt (by omega) (by omega)]; exact q
      rw [if_pos q', if_pos q']
      exact ⟨_, rfl, rfl, rfl, rfl⟩
    · have q' : ¬ zn g < zn (s k) := by rw [zn_lt (by omega) (by omega)]; exact q
      rw [if_neg q', if_neg q']
      have ih := q_seen hS hn hg m x2 d (k := k + 1) (f1 := f1) (f2 := f2) (S := Tr_s_seen S (upd (Tr_seen S) k (zn (s k)))) (by omega) (by omega) (by omega) (fun i hi => by
        show upd (Tr_seen S) k (zn (s k)) i = _ ∧ _
        by_cases e : i = k
        · subst e; exact ⟨pu_eq _ _ _, by omega⟩
        · rw [pu_ne _ _ e]; exact h4 i (by omega))
      exact ih
end
