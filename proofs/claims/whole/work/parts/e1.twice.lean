/-! the calls that end in two ways -/
theorem nm_L_man : zj_nm yL_man 4 := ⟨by decide +kernel, by decide +kernel, by decide +kernel⟩
theorem nm_L_plan : zj_nm yL_plan 4 := ⟨by decide +kernel, by decide +kernel, by decide +kernel⟩
theorem nm_L_ship : zj_nm yL_ship 5 := ⟨by decide +kernel, by decide +kernel, by decide +kernel⟩
theorem zq_hi {G : zj_G} {a : Nat → Nat} {B B' : Nat → Nat → Nat} {s : HiT} (h : ∀ i, i < 8 → B i = B' i) : w_Hi G a B s = w_Hi G a B' s := by
  have e : (fun i : Nat => if i < 8 then some (B i 0) else none) = (fun i : Nat => if i < 8 then some (B' i 0) else none) := by
    funext i
    by_cases hi : i < 8
    · rw [if_pos hi, if_pos hi, h i hi]
    · rw [if_neg hi, if_neg hi]
  unfold w_Hi
  rw [e]
theorem zq_h8 {G : zj_G} {B B' : Nat → Nat → Nat} {s : H8T} (h : ∀ i, i < 8 → B i = B' i) : w_H8 G B s = w_H8 G B' s := by
  unfold w_H8
  rw [h 0 (by omega), h 1 (by omega), h 2 (by omega), h 3 (by omega), h 4 (by omega), h 5 (by omega), h 6 (by omega), h 7 (by omega)]
/-- the law's first bundles, the history's by B -/
def zq_B (G : zj_G) (am : Nat → Nat) (ao : Nat) (A B : Nat → Nat → Nat) (K : Nat → Nat → Option Nat) (f : Nat → Int64) (pb : Bool) (X : XxT) (R : RdT) (L L2 : LdT) (F F2 : FkT) (P P2 : PhT) (Hi : HiT) (H : H8T) (Lg : LgT) (Pl : PlT) (Sn : SnT) (Ct : CtT) (Sc : ScT) (Tr : TrT) (M : MoT) (T : List va_W) : List va_W :=
  w_Xx G A K X :: w_Rd G (A 1) R :: w_Ld G (A 2) L :: w_Ld G (A 3) L2 :: w_Fk G (A 4) F :: w_Fk G (A 5) F2 :: w_Ph G (A 6) P :: w_Ph G (A 7) P2 :: w_Hi G (A 8) B Hi :: w_H8 G B H :: w_Lg G (A 17) Lg :: zq_P G pb (A 18) Pl :: w_Sn G (A 19) Sn :: w_Ct G (A 20) Ct :: w_Sc G (A 21) Sc :: w_Tr G (A 22) Tr :: w_Mo G am M :: w_Ou G ao f :: T
section
variable {G : zj_G} {am : Nat → Nat} {ao : Nat} {A A' B B' : Nat → Nat → Nat} {K : Nat → Nat → Option Nat} {f : Nat → Int64} {pb : Bool} {X : XxT} {R : RdT} {L L2 : LdT} {F F2 : FkT} {P P2 : PhT} {Hi : HiT} {H : H8T} {Lg : LgT} {Pl : PlT} {Sn : SnT} {Ct : CtT} {Sc : ScT} {Tr : TrT} {o0 o1 : Option (LdT × FkT × PhT)} {M : MoT} {T T' : List va_W}
theorem zq_BB (h : ∀ i, i < 8 → B i = B' i) : zq_B G am ao A B K f pb X R L L2 F F2 P P2 Hi H Lg Pl Sn Ct Sc Tr M T = zq_B G am ao A B' K f pb X R L L2 F F2 P P2 Hi H Lg Pl Sn Ct Sc Tr M T := by
  unfold zq_B
  rw [zq_hi h, zq_h8 h]
theorem zq_BT (h : T.Perm T') : (zq_B G am ao A B K f pb X R L L2 F F2 P P2 Hi H Lg Pl Sn Ct Sc Tr M T).Perm (zq_B G am ao A B K f pb X R L L2 F F2 P P2 Hi H Lg Pl Sn Ct Sc Tr M T') :=
  .cons _ (.cons _ (.cons _ (.cons _ (.cons _ (.cons _ (.cons _ (.cons _ (.cons _ (.cons _ (.cons _ (.cons _ (.cons _ (.cons _ (.cons _ (.cons _ (.cons _ (.cons _ h)))))))))))))))))
end
/-- the planner's rows made at b -/
def zqA (A : Nat → Nat → Nat) (b : Nat → Nat) : Nat → Nat → Nat := fun i => if i = 18 then zaP (A 18) b else A i
/-- the images j made at b -/
def zqI (A : Nat → Nat → Nat) (j : Nat) (b : Nat → Nat) : Nat → Nat → Nat := fun i => if i = 23 + j then b else if i = 25 + j then (fun c => b (16 + c)) else if i = 27 + j then (fun c => b (32 + c)) else A i
theorem zqA_hi (A : Nat → Nat → Nat) (b : Nat → Nat) : ∀ i, i < 8 → (fun i => A (9 + i)) i = (fun i => zqA A b (9 + i)) i := fun i hi => by
  show A (9 + i) = zqA A b (9 + i)
  unfold zqA
  rw [if_neg (by omega)]
theorem zqI_hi (A : Nat → Nat → Nat) (j : Nat) (b : Nat → Nat) : ∀ i, i < 8 → (fun i => A (9 + i)) i = (fun i => zqI A j b (9 + i)) i := fun i hi => by
  show A (9 + i) = zqI A j b (9 + i)
  unfold zqI
  rw [if_neg (by omega), if_neg (by omega), if_neg (by omega)]
theorem zsw_hi (A : Nat → Nat → Nat) {p q : Nat} (hp : p < 9) (hq : q < 9) : ∀ i, i < 8 → (fun i => A (9 + i)) i = (fun i => zsw A p q (9 + i)) i := fun i hi => by
  show A (9 + i) = zsw A p q (9 + i)
  unfold zsw
  rw [if_neg (by omega), if_neg (by omega)]
theorem zq_kA {A : Nat → Nat → Nat} {K : Nat → Nat → Option Nat} {b : Nat → Nat} {o : Option (LdT × FkT × PhT)} : (zq_k A K 0 o → zq_k (zqA A b) K 0 o) ∧ (zq_k A K 1 o → zq_k (zqA A b) K 1 o) := by cases o <;> exact ⟨id, id⟩
theorem zq_ks {A : Nat → Nat → Nat} {K : Nat → Nat → Option Nat} {o : Option (LdT × FkT × PhT)} : ((zq_k A K 0 o → zq_k (zsw A 2 3) K 0 o) ∧ (zq_k A K 1 o → zq_k (zsw A 2 3) K 1 o)) ∧ (zq_k A K 0 o → zq_k (zsw A 6 7) K 0 o) ∧ (zq_k A K 1 o → zq_k (zsw A 6 7) K 1 o) := by cases o <;> exact ⟨⟨id, id⟩, id, id⟩
theorem zq_kI0 {A : Nat → Nat → Nat} {K : Nat → Nat → Option Nat} {b : Nat → Nat} {o : Option (LdT × FkT × PhT)} {q : LdT × FkT × PhT} (h : zq_k A K 1 o) : zq_k (zqI A 0 b) (zk3 K 0 b) 0 (some q) ∧ zq_k (zqI A 0 b) (zk3 K 0 b) 1 o := by
  cases o with
  | none => exact ⟨⟨rfl, rfl, rfl⟩, h⟩
  | some z => exact ⟨⟨rfl, rfl, rfl⟩, h⟩
theorem zq_kI1 {A : Nat → Nat → Nat} {K : Nat → Nat → Option Nat} {b : Nat → Nat} {o : Option (LdT × FkT × PhT)} {q : LdT × FkT × PhT} (h : zq_k A K 0 o) : zq_k (zqI A 1 b) (zk3 K 1 b) 0 o ∧ zq_k (zqI A 1 b) (zk3 K 1 b) 1 (some q) := by
  cases o with
  | none => exact ⟨h, ⟨rfl, rfl, rfl⟩⟩
  | some z => exact ⟨h, ⟨rfl, rfl, rfl⟩⟩
theorem pc_copyF (K2 K : FkT) : ∃ K', f_X1_copy K2 K = some K' := ⟨_, rfl⟩
theorem zq_x01 {x : Int32} (h : ¬ (x < 0 ∨ ¬ x < (2 : Int32))) : x = 0 ∨ x = 1 := by
  rcases zn_lim x 2 (by omega) with h1 | ⟨n, rfl, hn⟩
  · exact absurd h1 h
  · rcases (show n = 0 ∨ n = 1 by omega) with rfl | rfl
    · exact Or.inl rfl
    · exact Or.inr rfl
set_option maxRecDepth 100000 in
set_option maxHeartbeats 4000000 in
theorem e_planAt {l : Launch} {G : zj_G} {b L : Nat} {xs : Nat → Int32} {a1 : Nat} {am : Nat → Nat} {ao ii k n : Nat} (hii : ii + 6 ≤ L) (hL : L ≤ 3072) (hk : k ≤ 600000) (hn : n ≤ 7289000) (hN : zq_N l G b L xs a1 am ao ii (k + 20) (n + 4000) 1476) : zq_N l G b L xs a1 am ao ii k n 908 := by
  intro A K f pb X R Ld L2 F F2 P P2 Hi H Lg Pl Sn Ct Sc Tr o0 o1 M hI hA h0 h1
  subst hA
  obtain ⟨r, M', e1, e2, hI2⟩ := s_planAt hI (xs (ii + 1))
  refine zr_aload_n (i := 1) rfl (by decide +kernel) ?_
  refine zq_arg (j := 1) (jz := 1) rfl (by decide) hii hL rfl rfl (by decide +kernel) (by decide +kernel) (by decide +kernel) (by decide +kernel) (by decide +kernel) ?_
  cases pb with
  | true =>
    refine zr_callV (c_X11_planAt l G A K X Pl (xs (ii + 1)) r e1) (WW' := fun _ => zq_W G am ao A K f true X R Ld L2 F F2 P P2 Hi H Lg Pl Sn Ct Sc Tr o0 o1 M) (st := []) (st' := [.int r]) [0, 11] rfl rfl (fun _ => Nat.le_of_ble_eq_true rfl) (fun _ => List.append_nil _) rfl rfl nm_X11_planAt zw_4_76 zw_4_77 zw_4_78 zw_1_1 zw_4_79 rfl rfl rfl (Nat.le_of_ble_eq_true rfl) ⟨show k + 0 ≤ 601024 by omega, show n + 0 ≤ 7293034 by omega⟩ (by decide +kernel) (fun _ => ?_)
    refine zr_aload_n (i := 2) rfl (by decide +kernel) ?_
    refine zq_arg (j := 1) (jz := 1) rfl (by decide) hii hL rfl rfl (by decide +kernel) (by decide +kernel) (by decide +kernel) (by decide +kernel) (by decide +kernel) ?_
    refine zr_callV (c_X12_planAt l G am M (xs (ii + 1)) (r, M') e2) (WW' := fun _ => zq_W G am ao A K f true X R Ld L2 F F2 P P2 Hi H Lg Pl Sn Ct Sc Tr o0 o1 M') (st := [.int r]) (st' := [.int r, .int r]) [16] rfl rfl (fun _ => Nat.le_of_ble_eq_true rfl) (fun _ => List.append_nil _) rfl rfl nm_X12_planAt zw_8_37 zw_8_38 zw_8_39 zw_1_18 zw_8_40 rfl rfl rfl (Nat.le_of_ble_eq_true rfl) ⟨show k + 0 + 0 ≤ 601024 by omega, show n + 0 + 0 ≤ 7293034 by omega⟩ (by decide +kernel) (fun _ => ?_)
    refine zr_icmp_eq (off := 548) (tgt := 1476) (by decide +kernel) (by decide) (fun _ => ?_) (fun h => absurd rfl h)
    exact zr_widen (k2 := k + 20) (n2 := n + 4000) (show k + 0 + 0 ≤ k + 20 by omega) (show n + 0 + 0 ≤ n + 4000 by omega) (hN A K f true X R Ld L2 F F2 P P2 Hi H Lg Pl Sn Ct Sc Tr o0 o1 M' hI2 rfl h0 h1)
  | false =>
    refine zr_callV (c_X11_plaA l G A K X Pl (xs (ii + 1)) r e1) (WW' := fun _ => zq_W G am ao A K f false X R Ld L2 F F2 P P2 Hi H Lg Pl Sn Ct Sc Tr o0 o1 M) (st := []) (st' := [.int r]) [0, 11] rfl rfl (fun _ => Nat.le_of_ble_eq_true rfl) (fun _ => List.append_nil _) rfl rfl nm_X11_planAt zw_4_76 zw_4_77 zw_4_78 zw_1_1 zw_4_79 rfl rfl rfl (Nat.le_of_ble_eq_true rfl) ⟨show k + 0 ≤ 601024 by omega, show n + 0 ≤ 7293034 by omega⟩ (by decide +kernel) (fun _ => ?_)
    refine zr_aload_n (i := 2) rfl (by decide +kernel) ?_
    refine zq_arg (j := 1) (jz := 1) rfl (by decide) hii hL rfl rfl (by decide +kernel) (by decide +kernel) (by decide +kernel) (by decide +kernel) (by decide +kernel) ?_
    refine zr_callV (c_X12_planAt l G am M (xs (ii + 1)) (r, M') e2) (WW' := fun _ => zq_W G am ao A K f false X R Ld L2 F F2 P P2 Hi H Lg Pl Sn Ct Sc Tr o0 o1 M') (st := [.int r]) (st' := [.int r, .int r]) [16] rfl rfl (fun _ => Nat.le_of_ble_eq_true rfl) (fun _ => List.append_nil _) rfl rfl nm_X12_planAt zw_8_37 zw_8_38 zw_8_39 zw_1_18 zw_8_40 rfl rfl rfl (Nat.le_of_ble_eq_true rfl) ⟨show k + 0 + 0 ≤ 601024 by omega, show n + 0 + 0 ≤ 7293034 by omega⟩ (by decide +kernel) (fun _ => ?_)
    refine zr_icmp_eq (off := 548) (tgt := 1476) (by decide +kernel) (by decide) (fun _ => ?_) (fun h => absurd rfl h)
    exact zr_widen (k2 := k + 20) (n2 := n + 4000) (show k + 0 + 0 ≤ k + 20 by omega) (show n + 0 + 0 ≤ n + 4000 by omega) (hN A K f false X R Ld L2 F F2 P P2 Hi H Lg Pl Sn Ct Sc Tr o0 o1 M' hI2 rfl h0 h1)
set_option maxRecDepth 100000 in
set_option maxHeartbeats 4000000 in
theorem e_man {l : Launch} {G : zj_G} {b L : Nat} {xs : Nat → Int32} {a1 : Nat} {am : Nat → Nat} {ao ii k n : Nat} (hii : ii + 6 ≤ L) (hL : L ≤ 3072) (hk : k ≤ 600000) (hn : n ≤ 7289000) (hN : zq_N l G b L xs a1 am ao ii (k + 20) (n + 4000) 1476) (hl : l.stackTraces = false) : zq_N l G b L xs a1 am ao ii k n 426 := by
  intro A K f pb X R Ld L2 F F2 P P2 Hi H Lg Pl Sn Ct Sc Tr o0 o1 M hI hA h0 h1
  subst hA
  rcases s_man hI (xs (ii + 1)) (xs (ii + 2)) with ⟨r, M', e1, e2, et, hI2⟩ | ⟨r, M', e1, e2, et, hI2⟩
  · skip
    refine zr_aload_n (i := 1) rfl (by decide +kernel) ?_
    refine zq_arg (j := 1) (jz := 1) rfl (by decide) hii hL rfl rfl (by decide +kernel) (by decide +kernel) (by decide +kernel) (by decide +kernel) (by decide +kernel) ?_
    refine zq_arg (j := 2) (jz := 2) rfl (by decide) hii hL rfl rfl (by decide +kernel) (by decide +kernel) (by decide +kernel) (by decide +kernel) (by decide +kernel) ?_
    refine zr_aload_n (i := 3) rfl (by decide +kernel) ?_
    refine zr_callSW (MC := M_L_man) (c_L_man l G hl A K ao f X Ld F (xs (ii + 1)) (xs (ii + 2)) none e1) (WW' := fun _ => zq_W G am ao A K f pb X R Ld L2 F F2 P P2 Hi H Lg Pl Sn Ct Sc Tr o0 o1 M) (st := []) (st' := [.int 1]) [0, 2, 4, 17] rfl rfl (fun _ => Nat.le_of_ble_eq_true rfl) (fun _ => List.append_nil _) rfl rfl nm_L_man zw_5_139 zw_5_140 zw_1_0 zw_5_141 rfl (Nat.le_of_ble_eq_true rfl) ⟨show k + 1 ≤ 601024 by omega, show n + 6 ≤ 7293034 by omega⟩ (by decide +kernel) (fun _ => ?_)
    refine zr_istore (i := 5) rfl (by decide +kernel) ?_
    refine zr_aload_n (i := 2) rfl (by decide +kernel) ?_
    refine zq_arg (j := 1) (jz := 1) rfl (by decide) hii hL rfl rfl (by decide +kernel) (by decide +kernel) (by decide +kernel) (by decide +kernel) (by decide +kernel) ?_
    refine zq_arg (j := 2) (jz := 2) rfl (by decide) hii hL rfl rfl (by decide +kernel) (by decide +kernel) (by decide +kernel) (by decide +kernel) (by decide +kernel) ?_
    refine zr_callV (c_X12_man l G am M (xs (ii + 1)) (xs (ii + 2)) (r, M') e2) (WW' := fun _ => zq_W G am ao A K f pb X R Ld L2 F F2 P P2 Hi H Lg Pl Sn Ct Sc Tr o0 o1 M') (st := []) (st' := [.int r]) [16] rfl rfl (fun _ => Nat.le_of_ble_eq_true rfl) (fun _ => List.append_nil _) rfl rfl nm_X12_man zw_7_124 zw_7_125 zw_7_126 zw_1_18 zw_7_127 rfl rfl rfl (Nat.le_of_ble_eq_true rfl) ⟨show k + 1 + 0 ≤ 601024 by omega, show n + 6 + 0 ≤ 7293034 by omega⟩ (by decide +kernel) (fun _ => ?_)
    refine zr_istore (i := 6) rfl (by decide +kernel) ?_
    refine zr_aload_n (i := 2) rfl (by decide +kernel) ?_
    refine zr_callV (c_X12_thrown l G am M' 1 (congrArg some et)) (WW' := fun _ => zq_W G am ao A K f pb X R Ld L2 F F2 P P2 Hi H Lg Pl Sn Ct Sc Tr o0 o1 M') (st := []) (st' := [.int 1]) [16] rfl rfl (fun _ => Nat.le_of_ble_eq_true rfl) (fun _ => List.append_nil _) rfl rfl nm_X12_thrown zw_6_193 zw_6_194 zw_6_195 zw_1_18 zw_6_196 rfl rfl rfl (Nat.le_of_ble_eq_true rfl) ⟨show k + 1 + 0 + 0 ≤ 601024 by omega, show n + 6 + 0 + 0 ≤ 7293034 by omega⟩ (by decide +kernel) (fun _ => ?_)
    refine zr_iload (i := 5) rfl (by decide +kernel) ?_
    refine zr_icmp_eq (off := 5) (tgt := 474) (by decide +kernel) (by decide) (fun _ => ?_) (fun h => absurd rfl h)
    refine zr_iload (i := 5) rfl (by decide +kernel) ?_
    refine zr_if_ne (off := 15) (tgt := 491) (by decide +kernel) (by decide) (fun h => absurd h (by decide)) (fun _ => ?_)
    refine zr_drop [5, 6, 7] ?_
    refine zr_goto (off := 985) (tgt := 1476) (by decide +kernel) (by decide) ?_
    exact zr_widen (k2 := k + 20) (n2 := n + 4000) (show k + 1 + 0 + 0 ≤ k + 20 by omega) (show n + 6 + 0 + 0 ≤ n + 4000 by omega) (hN A K f pb X R Ld L2 F F2 P P2 Hi H Lg Pl Sn Ct Sc Tr o0 o1 M' hI2 rfl h0 h1)
  · skip
    refine zr_aload_n (i := 1) rfl (by decide +kernel) ?_
    refine zq_arg (j := 1) (jz := 1) rfl (by decide) hii hL rfl rfl (by decide +kernel) (by decide +kernel) (by decide +kernel) (by decide +kernel) (by decide +kernel) ?_
    refine zq_arg (j := 2) (jz := 2) rfl (by decide) hii hL rfl rfl (by decide +kernel) (by decide +kernel) (by decide +kernel) (by decide +kernel) (by decide +kernel) ?_
    refine zr_aload_n (i := 3) rfl (by decide +kernel) ?_
    refine zr_callSW (MC := M_L_man) (c_L_man l G hl A K ao f X Ld F (xs (ii + 1)) (xs (ii + 2)) (some r) e1) (WW' := fun _ => zq_W G am ao A K (vp_updL f 0 r.toInt64) pb X R Ld L2 F F2 P P2 Hi H Lg Pl Sn Ct Sc Tr o0 o1 M) (st := []) (st' := [.int 0]) [0, 2, 4, 17] rfl rfl (fun _ => Nat.le_of_ble_eq_true rfl) (fun _ => List.append_nil _) rfl rfl nm_L_man zw_5_139 zw_5_140 zw_1_0 zw_5_141 rfl (Nat.le_of_ble_eq_true rfl) ⟨show k + 1 ≤ 601024 by omega, show n + 6 ≤ 7293034 by omega⟩ (by decide +kernel) (fun _ => ?_)
    refine zr_istore (i := 5) rfl (by decide +kernel) ?_
    refine zr_aload_n (i := 2) rfl (by decide +kernel) ?_
    refine zq_arg (j := 1) (jz := 1) rfl (by decide) hii hL rfl rfl (by decide +kernel) (by decide +kernel) (by decide +kernel) (by decide +kernel) (by decide +kernel) ?_
    refine zq_arg (j := 2) (jz := 2) rfl (by decide) hii hL rfl rfl (by decide +kernel) (by decide +kernel) (by decide +kernel) (by decide +kernel) (by decide +kernel) ?_
    refine zr_callV (c_X12_man l G am M (xs (ii + 1)) (xs (ii + 2)) (r, M') e2) (WW' := fun _ => zq_W G am ao A K (vp_updL f 0 r.toInt64) pb X R Ld L2 F F2 P P2 Hi H Lg Pl Sn Ct Sc Tr o0 o1 M') (st := []) (st' := [.int r]) [16] rfl rfl (fun _ => Nat.le_of_ble_eq_true rfl) (fun _ => List.append_nil _) rfl rfl nm_X12_man zw_7_124 zw_7_125 zw_7_126 zw_1_18 zw_7_127 rfl rfl rfl (Nat.le_of_ble_eq_true rfl) ⟨show k + 1 + 0 ≤ 601024 by omega, show n + 6 + 0 ≤ 7293034 by omega⟩ (by decide +kernel) (fun _ => ?_)
    refine zr_istore (i := 6) rfl (by decide +kernel) ?_
    refine zr_aload_n (i := 2) rfl (by decide +kernel) ?_
    refine zr_callV (c_X12_thrown l G am M' 0 (congrArg some et)) (WW' := fun _ => zq_W G am ao A K (vp_updL f 0 r.toInt64) pb X R Ld L2 F F2 P P2 Hi H Lg Pl Sn Ct Sc Tr o0 o1 M') (st := []) (st' := [.int 0]) [16] rfl rfl (fun _ => Nat.le_of_ble_eq_true rfl) (fun _ => List.append_nil _) rfl rfl nm_X12_thrown zw_6_193 zw_6_194 zw_6_195 zw_1_18 zw_6_196 rfl rfl rfl (Nat.le_of_ble_eq_true rfl) ⟨show k + 1 + 0 + 0 ≤ 601024 by omega, show n + 6 + 0 + 0 ≤ 7293034 by omega⟩ (by decide +kernel) (fun _ => ?_)
    refine zr_iload (i := 5) rfl (by decide +kernel) ?_
    refine zr_icmp_eq (off := 5) (tgt := 474) (by decide +kernel) (by decide) (fun _ => ?_) (fun h => absurd rfl h)
    refine zr_iload (i := 5) rfl (by decide +kernel) ?_
    refine zr_if_ne (off := 15) (tgt := 491) (by decide +kernel) (by decide) (fun _ => ?_) (fun h => absurd rfl h)
    refine zr_aload_n (i := 3) rfl (by decide +kernel) ?_
    refine zr_iconst (i := 0) (v := 0) rfl (by decide +kernel) ?_
    refine zr_lald (b := 17) (c' := 0) rfl rfl rfl (by decide +kernel) (by decide +kernel) ?_
    refine zr_iload (i := 6) rfl (by decide +kernel) ?_
    refine zr_i2l (by decide +kernel) ?_
    refine zr_lcmp (by decide +kernel) ?_
    refine zr_if_eq (off := 5) (tgt := 491) (by decide +kernel) (by decide) (fun _ => ?_) (fun h => absurd ((lg_eq0 _ _).mpr rfl) h)
    refine zr_drop [5, 6, 7] ?_
    refine zr_goto (off := 985) (tgt := 1476) (by decide +kernel) (by decide) ?_
    exact zr_widen (k2 := k + 20) (n2 := n + 4000) (show k + 1 + 0 + 0 ≤ k + 20 by omega) (show n + 6 + 0 + 0 ≤ n + 4000 by omega) (hN A K (vp_updL f 0 r.toInt64) pb X R Ld L2 F F2 P P2 Hi H Lg Pl Sn Ct Sc Tr o0 o1 M' hI2 rfl h0 h1)
set_option maxRecDepth 100000 in
set_option maxHeartbeats 4000000 in
theorem e_plan {l : Launch} {G : zj_G} {b L : Nat} {xs : Nat → Int32} {a1 : Nat} {am : Nat → Nat} {ao ii k n : Nat} (hii : ii + 6 ≤ L) (hL : L ≤ 3072) (hk : k ≤ 600000) (hn : n ≤ 7289000) (hN : zq_N l G b L xs a1 am ao ii (k + 20) (n + 4000) 1476) (hl : l.stackTraces = false) : zq_N l G b L xs a1 am ao ii k n 841 := by
  intro A K f pb X R Ld L2 F F2 P P2 Hi H Lg Pl Sn Ct Sc Tr o0 o1 M hI hA h0 h1
  subst hA
  cases pb with
  | true =>
    rcases s_plan hI Pl (xs (ii + 1)) (xs (ii + 2)) with ⟨r, M', e1, e2, et, hI2⟩ | ⟨r, Q', M', e1, e2, et, hI2⟩
    · skip
      refine zr_aload_n (i := 1) rfl (by decide +kernel) ?_
      refine zq_arg (j := 1) (jz := 1) rfl (by decide) hii hL rfl rfl (by decide +kernel) (by decide +kernel) (by decide +kernel) (by decide +kernel) (by decide +kernel) ?_
      refine zq_arg (j := 2) (jz := 2) rfl (by decide) hii hL rfl rfl (by decide +kernel) (by decide +kernel) (by decide +kernel) (by decide +kernel) (by decide +kernel) ?_
      refine zr_aload_n (i := 3) rfl (by decide +kernel) ?_
      refine zr_callSW (MC := M_L_plan) (c_L_plan l G hl A K ao f X Ld F Pl (xs (ii + 1)) (xs (ii + 2)) none e1) (WW' := fun _ => zq_W G am ao A K f true X R Ld L2 F F2 P P2 Hi H Lg Pl Sn Ct Sc Tr o0 o1 M) (st := []) (st' := [.int 1]) [0, 2, 4, 11, 17] rfl rfl (fun _ => Nat.le_of_ble_eq_true rfl) (fun _ => List.append_nil _) rfl rfl nm_L_plan zw_5_208 zw_5_209 zw_1_0 zw_5_210 rfl (Nat.le_of_ble_eq_true rfl) ⟨show k + 1 ≤ 601024 by omega, show n + 6 ≤ 7293034 by omega⟩ (by decide +kernel) (fun _ => ?_)
      refine zr_istore (i := 5) rfl (by decide +kernel) ?_
      refine zr_aload_n (i := 2) rfl (by decide +kernel) ?_
      refine zq_arg (j := 1) (jz := 1) rfl (by decide) hii hL rfl rfl (by decide +kernel) (by decide +kernel) (by decide +kernel) (by decide +kernel) (by decide +kernel) ?_
      refine zq_arg (j := 2) (jz := 2) rfl (by decide) hii hL rfl rfl (by decide +kernel) (by decide +kernel) (by decide +kernel) (by decide +kernel) (by decide +kernel) ?_
      refine zr_callV (c_X12_plan l G am M (xs (ii + 1)) (xs (ii + 2)) (r, M') e2) (WW' := fun _ => zq_W G am ao A K f true X R Ld L2 F F2 P P2 Hi H Lg Pl Sn Ct Sc Tr o0 o1 M') (st := []) (st' := [.long r]) [16] rfl rfl (fun _ => Nat.le_of_ble_eq_true rfl) (fun _ => List.append_nil _) rfl rfl nm_X12_plan zw_8_17 zw_8_18 zw_8_19 zw_1_18 zw_8_20 rfl rfl rfl (Nat.le_of_ble_eq_true rfl) ⟨show k + 1 + 0 ≤ 601024 by omega, show n + 6 + 0 ≤ 7293034 by omega⟩ (by decide +kernel) (fun _ => ?_)
      refine zr_lstore (i := 6) rfl (by decide +kernel) ?_
      refine zr_aload_n (i := 2) rfl (by decide +kernel) ?_
      refine zr_callV (c_X12_thrown l G am M' 1 (congrArg some et)) (WW' := fun _ => zq_W G am ao A K f true X R Ld L2 F F2 P P2 Hi H Lg Pl Sn Ct Sc Tr o0 o1 M') (st := []) (st' := [.int 1]) [16] rfl rfl (fun _ => Nat.le_of_ble_eq_true rfl) (fun _ => List.append_nil _) rfl rfl nm_X12_thrown zw_6_193 zw_6_194 zw_6_195 zw_1_18 zw_6_196 rfl rfl rfl (Nat.le_of_ble_eq_true rfl) ⟨show k + 1 + 0 + 0 ≤ 601024 by omega, show n + 6 + 0 + 0 ≤ 7293034 by omega⟩ (by decide +kernel) (fun _ => ?_)
      refine zr_iload (i := 5) rfl (by decide +kernel) ?_
      refine zr_icmp_eq (off := 5) (tgt := 889) (by decide +kernel) (by decide) (fun _ => ?_) (fun h => absurd rfl h)
      refine zr_iload (i := 5) rfl (by decide +kernel) ?_
      refine zr_if_ne (off := 14) (tgt := 905) (by decide +kernel) (by decide) (fun h => absurd h (by decide)) (fun _ => ?_)
      refine zr_drop [5, 6, 7] ?_
      refine zr_goto (off := 571) (tgt := 1476) (by decide +kernel) (by decide) ?_
      exact zr_widen (k2 := k + 20) (n2 := n + 4000) (show k + 1 + 0 + 0 ≤ k + 20 by omega) (show n + 6 + 0 + 0 ≤ n + 4000 by omega) (hN A K f true X R Ld L2 F F2 P P2 Hi H Lg Pl Sn Ct Sc Tr o0 o1 M' hI2 rfl h0 h1)
    · skip
      refine zr_aload_n (i := 1) rfl (by decide +kernel) ?_
      refine zq_arg (j := 1) (jz := 1) rfl (by decide) hii hL rfl rfl (by decide +kernel) (by decide +kernel) (by decide +kernel) (by decide +kernel) (by decide +kernel) ?_
      refine zq_arg (j := 2) (jz := 2) rfl (by decide) hii hL rfl rfl (by decide +kernel) (by decide +kernel) (by decide +kernel) (by decide +kernel) (by decide +kernel) ?_
      refine zr_aload_n (i := 3) rfl (by decide +kernel) ?_
      refine zr_callSW (MC := M_L_plan) (c_L_plan l G hl A K ao f X Ld F Pl (xs (ii + 1)) (xs (ii + 2)) (some (r, Q')) e1) (WW' := fun _ => zq_W G am ao A K (vp_updL f 0 r) true X R Ld L2 F F2 P P2 Hi H Lg Q' Sn Ct Sc Tr o0 o1 M) (st := []) (st' := [.int 0]) [0, 2, 4, 11, 17] rfl rfl (fun _ => Nat.le_of_ble_eq_true rfl) (fun _ => List.append_nil _) rfl rfl nm_L_plan zw_5_208 zw_5_209 zw_1_0 zw_5_210 rfl (Nat.le_of_ble_eq_true rfl) ⟨show k + 1 ≤ 601024 by omega, show n + 6 ≤ 7293034 by omega⟩ (by decide +kernel) (fun _ => ?_)
      refine zr_istore (i := 5) rfl (by decide +kernel) ?_
      refine zr_aload_n (i := 2) rfl (by decide +kernel) ?_
      refine zq_arg (j := 1) (jz := 1) rfl (by decide) hii hL rfl rfl (by decide +kernel) (by decide +kernel) (by decide +kernel) (by decide +kernel) (by decide +kernel) ?_
      refine zq_arg (j := 2) (jz := 2) rfl (by decide) hii hL rfl rfl (by decide +kernel) (by decide +kernel) (by decide +kernel) (by decide +kernel) (by decide +kernel) ?_
      refine zr_callV (c_X12_plan l G am M (xs (ii + 1)) (xs (ii + 2)) (r, M') e2) (WW' := fun _ => zq_W G am ao A K (vp_updL f 0 r) true X R Ld L2 F F2 P P2 Hi H Lg Q' Sn Ct Sc Tr o0 o1 M') (st := []) (st' := [.long r]) [16] rfl rfl (fun _ => Nat.le_of_ble_eq_true rfl) (fun _ => List.append_nil _) rfl rfl nm_X12_plan zw_8_17 zw_8_18 zw_8_19 zw_1_18 zw_8_20 rfl rfl rfl (Nat.le_of_ble_eq_true rfl) ⟨show k + 1 + 0 ≤ 601024 by omega, show n + 6 + 0 ≤ 7293034 by omega⟩ (by decide +kernel) (fun _ => ?_)
      refine zr_lstore (i := 6) rfl (by decide +kernel) ?_
      refine zr_aload_n (i := 2) rfl (by decide +kernel) ?_
      refine zr_callV (c_X12_thrown l G am M' 0 (congrArg some et)) (WW' := fun _ => zq_W G am ao A K (vp_updL f 0 r) true X R Ld L2 F F2 P P2 Hi H Lg Q' Sn Ct Sc Tr o0 o1 M') (st := []) (st' := [.int 0]) [16] rfl rfl (fun _ => Nat.le_of_ble_eq_true rfl) (fun _ => List.append_nil _) rfl rfl nm_X12_thrown zw_6_193 zw_6_194 zw_6_195 zw_1_18 zw_6_196 rfl rfl rfl (Nat.le_of_ble_eq_true rfl) ⟨show k + 1 + 0 + 0 ≤ 601024 by omega, show n + 6 + 0 + 0 ≤ 7293034 by omega⟩ (by decide +kernel) (fun _ => ?_)
      refine zr_iload (i := 5) rfl (by decide +kernel) ?_
      refine zr_icmp_eq (off := 5) (tgt := 889) (by decide +kernel) (by decide) (fun _ => ?_) (fun h => absurd rfl h)
      refine zr_iload (i := 5) rfl (by decide +kernel) ?_
      refine zr_if_ne (off := 14) (tgt := 905) (by decide +kernel) (by decide) (fun _ => ?_) (fun h => absurd rfl h)
      refine zr_aload_n (i := 3) rfl (by decide +kernel) ?_
      refine zr_iconst (i := 0) (v := 0) rfl (by decide +kernel) ?_
      refine zr_lald (b := 17) (c' := 0) rfl rfl rfl (by decide +kernel) (by decide +kernel) ?_
      refine zr_lload (i := 6) rfl (by decide +kernel) ?_
      refine zr_lcmp (by decide +kernel) ?_
      refine zr_if_eq (off := 5) (tgt := 905) (by decide +kernel) (by decide) (fun _ => ?_) (fun h => absurd ((lg_eq0 _ _).mpr rfl) h)
      refine zr_drop [5, 6, 7] ?_
      refine zr_goto (off := 571) (tgt := 1476) (by decide +kernel) (by decide) ?_
      exact zr_widen (k2 := k + 20) (n2 := n + 4000) (show k + 1 + 0 + 0 ≤ k + 20 by omega) (show n + 6 + 0 + 0 ≤ n + 4000 by omega) (hN A K (vp_updL f 0 r) true X R Ld L2 F F2 P P2 Hi H Lg Q' Sn Ct Sc Tr o0 o1 M' hI2 rfl h0 h1)
  | false =>
    rcases s_plan hI (pl0 Pl) (xs (ii + 1)) (xs (ii + 2)) with ⟨r, M', e1, e2, et, hI2⟩ | ⟨r, Q', M', e1, e2, et, hI2⟩
    · skip
      refine zr_aload_n (i := 1) rfl (by decide +kernel) ?_
      refine zq_arg (j := 1) (jz := 1) rfl (by decide) hii hL rfl rfl (by decide +kernel) (by decide +kernel) (by decide +kernel) (by decide +kernel) (by decide +kernel) ?_
      refine zq_arg (j := 2) (jz := 2) rfl (by decide) hii hL rfl rfl (by decide +kernel) (by decide +kernel) (by decide +kernel) (by decide +kernel) (by decide +kernel) ?_
      refine zr_aload_n (i := 3) rfl (by decide +kernel) ?_
      refine zr_callSW (MC := M_L_plaQ) (c_L_plaQ l G hl A K ao f X Ld F Pl (xs (ii + 1)) (xs (ii + 2)) none e1) (WW' := fun _ => zq_W G am ao A K f false X R Ld L2 F F2 P P2 Hi H Lg Pl Sn Ct Sc Tr o0 o1 M) (st := []) (st' := [.int 1]) [0, 2, 4, 11, 17] rfl rfl (fun _ => Nat.le_of_ble_eq_true rfl) (fun _ => List.append_nil _) rfl rfl nm_L_plan zw_5_208 zw_5_209 zw_1_0 zw_5_210 rfl (Nat.le_of_ble_eq_true rfl) ⟨show k + 2 ≤ 601024 by omega, show n + 3794 ≤ 7293034 by omega⟩ (by decide +kernel) (fun _ => ?_)
      refine zr_istore (i := 5) rfl (by decide +kernel) ?_
      refine zr_aload_n (i := 2) rfl (by decide +kernel) ?_
      refine zq_arg (j := 1) (jz := 1) rfl (by decide) hii hL rfl rfl (by decide +kernel) (by decide +kernel) (by decide +kernel) (by decide +kernel) (by decide +kernel) ?_
      refine zq_arg (j := 2) (jz := 2) rfl (by decide) hii hL rfl rfl (by decide +kernel) (by decide +kernel) (by decide +kernel) (by decide +kernel) (by decide +kernel) ?_
      refine zr_callV (c_X12_plan l G am M (xs (ii + 1)) (xs (ii + 2)) (r, M') e2) (WW' := fun _ => zq_W G am ao A K f false X R Ld L2 F F2 P P2 Hi H Lg Pl Sn Ct Sc Tr o0 o1 M') (st := []) (st' := [.long r]) [16] rfl rfl (fun _ => Nat.le_of_ble_eq_true rfl) (fun _ => List.append_nil _) rfl rfl nm_X12_plan zw_8_17 zw_8_18 zw_8_19 zw_1_18 zw_8_20 rfl rfl rfl (Nat.le_of_ble_eq_true rfl) ⟨show k + 2 + 0 ≤ 601024 by omega, show n + 3794 + 0 ≤ 7293034 by omega⟩ (by decide +kernel) (fun _ => ?_)
      refine zr_lstore (i := 6) rfl (by decide +kernel) ?_
      refine zr_aload_n (i := 2) rfl (by decide +kernel) ?_
      refine zr_callV (c_X12_thrown l G am M' 1 (congrArg some et)) (WW' := fun _ => zq_W G am ao A K f false X R Ld L2 F F2 P P2 Hi H Lg Pl Sn Ct Sc Tr o0 o1 M') (st := []) (st' := [.int 1]) [16] rfl rfl (fun _ => Nat.le_of_ble_eq_true rfl) (fun _ => List.append_nil _) rfl rfl nm_X12_thrown zw_6_193 zw_6_194 zw_6_195 zw_1_18 zw_6_196 rfl rfl rfl (Nat.le_of_ble_eq_true rfl) ⟨show k + 2 + 0 + 0 ≤ 601024 by omega, show n + 3794 + 0 + 0 ≤ 7293034 by omega⟩ (by decide +kernel) (fun _ => ?_)
      refine zr_iload (i := 5) rfl (by decide +kernel) ?_
      refine zr_icmp_eq (off := 5) (tgt := 889) (by decide +kernel) (by decide) (fun _ => ?_) (fun h => absurd rfl h)
      refine zr_iload (i := 5) rfl (by decide +kernel) ?_
      refine zr_if_ne (off := 14) (tgt := 905) (by decide +kernel) (by decide) (fun h => absurd h (by decide)) (fun _ => ?_)
      refine zr_drop [5, 6, 7] ?_
      refine zr_goto (off := 571) (tgt := 1476) (by decide +kernel) (by decide) ?_
      exact zr_widen (k2 := k + 20) (n2 := n + 4000) (show k + 2 + 0 + 0 ≤ k + 20 by omega) (show n + 3794 + 0 + 0 ≤ n + 4000 by omega) (hN A K f false X R Ld L2 F F2 P P2 Hi H Lg Pl Sn Ct Sc Tr o0 o1 M' hI2 rfl h0 h1)
    · skip
      refine zr_aload_n (i := 1) rfl (by decide +kernel) ?_
      refine zq_arg (j := 1) (jz := 1) rfl (by decide) hii hL rfl rfl (by decide +kernel) (by decide +kernel) (by decide +kernel) (by decide +kernel) (by decide +kernel) ?_
      refine zq_arg (j := 2) (jz := 2) rfl (by decide) hii hL rfl rfl (by decide +kernel) (by decide +kernel) (by decide +kernel) (by decide +kernel) (by decide +kernel) ?_
      refine zr_aload_n (i := 3) rfl (by decide +kernel) ?_
      refine zr_callSW (MC := M_L_plaQ) (c_L_plaQ l G hl A K ao f X Ld F Pl (xs (ii + 1)) (xs (ii + 2)) (some (r, Q')) e1) (WW' := fun bq => zq_B G am ao (zqA A bq) (fun i => A (9 + i)) K (vp_updL f 0 r) true X R Ld L2 F F2 P P2 Hi H Lg Q' Sn Ct Sc Tr M (zq_T G (zqA A bq) 0 o0 ++ zq_T G (zqA A bq) 1 o1)) (st := []) (st' := [.int 0]) [0, 2, 4, 11, 17] rfl rfl (fun _ => Nat.le_of_ble_eq_true rfl) (fun _ => List.append_nil _) rfl rfl nm_L_plan zw_5_208 zw_5_209 zw_1_0 zw_5_210 rfl (Nat.le_of_ble_eq_true rfl) ⟨show k + 2 ≤ 601024 by omega, show n + 3794 ≤ 7293034 by omega⟩ (by decide +kernel) (fun bq => ?_)
      refine zr_eq (WW2 := zq_W G am ao (zqA A bq) K (vp_updL f 0 r) true X R Ld L2 F F2 P P2 Hi H Lg Q' Sn Ct Sc Tr o0 o1 M) (zq_BB (zqA_hi A bq)) rfl rfl ?_
      refine zr_istore (i := 5) rfl (by decide +kernel) ?_
      refine zr_aload_n (i := 2) rfl (by decide +kernel) ?_
      refine zq_arg (j := 1) (jz := 1) rfl (by decide) hii hL rfl rfl (by decide +kernel) (by decide +kernel) (by decide +kernel) (by decide +kernel) (by decide +kernel) ?_
      refine zq_arg (j := 2) (jz := 2) rfl (by decide) hii hL rfl rfl (by decide +kernel) (by decide +kernel) (by decide +kernel) (by decide +kernel) (by decide +kernel) ?_
      refine zr_callV (c_X12_plan l G am M (xs (ii + 1)) (xs (ii + 2)) (r, M') e2) (WW' := fun _ => zq_W G am ao (zqA A bq) K (vp_updL f 0 r) true X R Ld L2 F F2 P P2 Hi H Lg Q' Sn Ct Sc Tr o0 o1 M') (st := []) (st' := [.long r]) [16] rfl rfl (fun _ => Nat.le_of_ble_eq_true rfl) (fun _ => List.append_nil _) rfl rfl nm_X12_plan zw_8_17 zw_8_18 zw_8_19 zw_1_18 zw_8_20 rfl rfl rfl (Nat.le_of_ble_eq_true rfl) ⟨show k + 2 + 0 ≤ 601024 by omega, show n + 3794 + 0 ≤ 7293034 by omega⟩ (by decide +kernel) (fun _ => ?_)
      refine zr_lstore (i := 6) rfl (by decide +kernel) ?_
      refine zr_aload_n (i := 2) rfl (by decide +kernel) ?_
      refine zr_callV (c_X12_thrown l G am M' 0 (congrArg some et)) (WW' := fun _ => zq_W G am ao (zqA A bq) K (vp_updL f 0 r) true X R Ld L2 F F2 P P2 Hi H Lg Q' Sn Ct Sc Tr o0 o1 M') (st := []) (st' := [.int 0]) [16] rfl rfl (fun _ => Nat.le_of_ble_eq_true rfl) (fun _ => List.append_nil _) rfl rfl nm_X12_thrown zw_6_193 zw_6_194 zw_6_195 zw_1_18 zw_6_196 rfl rfl rfl (Nat.le_of_ble_eq_true rfl) ⟨show k + 2 + 0 + 0 ≤ 601024 by omega, show n + 3794 + 0 + 0 ≤ 7293034 by omega⟩ (by decide +kernel) (fun _ => ?_)
      refine zr_iload (i := 5) rfl (by decide +kernel) ?_
      refine zr_icmp_eq (off := 5) (tgt := 889) (by decide +kernel) (by decide) (fun _ => ?_) (fun h => absurd rfl h)
      refine zr_iload (i := 5) rfl (by decide +kernel) ?_
      refine zr_if_ne (off := 14) (tgt := 905) (by decide +kernel) (by decide) (fun _ => ?_) (fun h => absurd rfl h)
      refine zr_aload_n (i := 3) rfl (by decide +kernel) ?_
      refine zr_iconst (i := 0) (v := 0) rfl (by decide +kernel) ?_
      refine zr_lald (b := 17) (c' := 0) rfl rfl rfl (by decide +kernel) (by decide +kernel) ?_
      refine zr_lload (i := 6) rfl (by decide +kernel) ?_
      refine zr_lcmp (by decide +kernel) ?_
      refine zr_if_eq (off := 5) (tgt := 905) (by decide +kernel) (by decide) (fun _ => ?_) (fun h => absurd ((lg_eq0 _ _).mpr rfl) h)
      refine zr_drop [5, 6, 7] ?_
      refine zr_goto (off := 571) (tgt := 1476) (by decide +kernel) (by decide) ?_
      exact zr_widen (k2 := k + 20) (n2 := n + 4000) (show k + 2 + 0 + 0 ≤ k + 20 by omega) (show n + 3794 + 0 + 0 ≤ n + 4000 by omega) (hN (zqA A bq) K (vp_updL f 0 r) true X R Ld L2 F F2 P P2 Hi H Lg Q' Sn Ct Sc Tr o0 o1 M' hI2 rfl (zq_kA.1 h0) (zq_kA.2 h1))
set_option maxRecDepth 100000 in
set_option maxHeartbeats 4000000 in
theorem e_ship {l : Launch} {G : zj_G} {b L : Nat} {xs : Nat → Int32} {a1 : Nat} {am : Nat → Nat} {ao ii k n : Nat} (hii : ii + 6 ≤ L) (hL : L ≤ 3072) (hk : k ≤ 600000) (hn : n ≤ 7289000) (hN : zq_N l G b L xs a1 am ao ii (k + 20) (n + 4000) 1476) (hl : l.stackTraces = false) : zq_N l G b L xs a1 am ao ii k n 1058 := by
  intro A K f pb X R Ld L2 F F2 P P2 Hi H Lg Pl Sn Ct Sc Tr o0 o1 M hI hA h0 h1
  subst hA
  rcases s_ship hI (xs (ii + 1)) (xs (ii + 2)) (xs (ii + 3)) with ⟨r, M', e1, e2, et, hI2⟩ | ⟨r, M', e1, e2, et, hI2⟩
  · skip
    refine zr_aload_n (i := 1) rfl (by decide +kernel) ?_
    refine zq_arg (j := 1) (jz := 1) rfl (by decide) hii hL rfl rfl (by decide +kernel) (by decide +kernel) (by decide +kernel) (by decide +kernel) (by decide +kernel) ?_
    refine zq_arg (j := 2) (jz := 2) rfl (by decide) hii hL rfl rfl (by decide +kernel) (by decide +kernel) (by decide +kernel) (by decide +kernel) (by decide +kernel) ?_
    refine zq_arg (j := 3) (jz := 3) rfl (by decide) hii hL rfl rfl (by decide +kernel) (by decide +kernel) (by decide +kernel) (by decide +kernel) (by decide +kernel) ?_
    refine zr_aload_n (i := 3) rfl (by decide +kernel) ?_
    refine zr_callSW (MC := M_L_ship) (c_L_ship l G hl A K ao f X Ld (xs (ii + 1)) (xs (ii + 2)) (xs (ii + 3)) none e1) (WW' := fun _ => zq_W G am ao A K f pb X R Ld L2 F F2 P P2 Hi H Lg Pl Sn Ct Sc Tr o0 o1 M) (st := []) (st' := [.int 1]) [0, 2, 17] rfl rfl (fun _ => Nat.le_of_ble_eq_true rfl) (fun _ => List.append_nil _) rfl rfl nm_L_ship zw_6_14 zw_6_15 zw_1_0 zw_6_16 rfl (Nat.le_of_ble_eq_true rfl) ⟨show k + 1 ≤ 601024 by omega, show n + 6 ≤ 7293034 by omega⟩ (by decide +kernel) (fun _ => ?_)
    refine zr_istore (i := 5) rfl (by decide +kernel) ?_
    refine zr_aload_n (i := 2) rfl (by decide +kernel) ?_
    refine zq_arg (j := 1) (jz := 1) rfl (by decide) hii hL rfl rfl (by decide +kernel) (by decide +kernel) (by decide +kernel) (by decide +kernel) (by decide +kernel) ?_
    refine zq_arg (j := 2) (jz := 2) rfl (by decide) hii hL rfl rfl (by decide +kernel) (by decide +kernel) (by decide +kernel) (by decide +kernel) (by decide +kernel) ?_
    refine zq_arg (j := 3) (jz := 3) rfl (by decide) hii hL rfl rfl (by decide +kernel) (by decide +kernel) (by decide +kernel) (by decide +kernel) (by decide +kernel) ?_
    refine zr_callV (c_X12_ship l G am M (xs (ii + 1)) (xs (ii + 2)) (xs (ii + 3)) (r, M') e2) (WW' := fun _ => zq_W G am ao A K f pb X R Ld L2 F F2 P P2 Hi H Lg Pl Sn Ct Sc Tr o0 o1 M') (st := []) (st' := [.int r]) [16] rfl rfl (fun _ => Nat.le_of_ble_eq_true rfl) (fun _ => List.append_nil _) rfl rfl nm_X12_ship zw_8_68 zw_8_69 zw_8_70 zw_1_18 zw_8_71 rfl rfl rfl (Nat.le_of_ble_eq_true rfl) ⟨show k + 1 + 0 ≤ 601024 by omega, show n + 6 + 0 ≤ 7293034 by omega⟩ (by decide +kernel) (fun _ => ?_)
    refine zr_istore (i := 6) rfl (by decide +kernel) ?_
    refine zr_aload_n (i := 2) rfl (by decide +kernel) ?_
    refine zr_callV (c_X12_thrown l G am M' 1 (congrArg some et)) (WW' := fun _ => zq_W G am ao A K f pb X R Ld L2 F F2 P P2 Hi H Lg Pl Sn Ct Sc Tr o0 o1 M') (st := []) (st' := [.int 1]) [16] rfl rfl (fun _ => Nat.le_of_ble_eq_true rfl) (fun _ => List.append_nil _) rfl rfl nm_X12_thrown zw_6_193 zw_6_194 zw_6_195 zw_1_18 zw_6_196 rfl rfl rfl (Nat.le_of_ble_eq_true rfl) ⟨show k + 1 + 0 + 0 ≤ 601024 by omega, show n + 6 + 0 + 0 ≤ 7293034 by omega⟩ (by decide +kernel) (fun _ => ?_)
    refine zr_iload (i := 5) rfl (by decide +kernel) ?_
    refine zr_icmp_eq (off := 5) (tgt := 1118) (by decide +kernel) (by decide) (fun _ => ?_) (fun h => absurd rfl h)
    refine zr_iload (i := 5) rfl (by decide +kernel) ?_
    refine zr_if_ne (off := 15) (tgt := 1135) (by decide +kernel) (by decide) (fun h => absurd h (by decide)) (fun _ => ?_)
    refine zr_drop [5, 6, 7] ?_
    refine zr_goto (off := 341) (tgt := 1476) (by decide +kernel) (by decide) ?_
    exact zr_widen (k2 := k + 20) (n2 := n + 4000) (show k + 1 + 0 + 0 ≤ k + 20 by omega) (show n + 6 + 0 + 0 ≤ n + 4000 by omega) (hN A K f pb X R Ld L2 F F2 P P2 Hi H Lg Pl Sn Ct Sc Tr o0 o1 M' hI2 rfl h0 h1)
  · skip
    refine zr_aload_n (i := 1) rfl (by decide +kernel) ?_
    refine zq_arg (j := 1) (jz := 1) rfl (by decide) hii hL rfl rfl (by decide +kernel) (by decide +kernel) (by decide +kernel) (by decide +kernel) (by decide +kernel) ?_
    refine zq_arg (j := 2) (jz := 2) rfl (by decide) hii hL rfl rfl (by decide +kernel) (by decide +kernel) (by decide +kernel) (by decide +kernel) (by decide +kernel) ?_
    refine zq_arg (j := 3) (jz := 3) rfl (by decide) hii hL rfl rfl (by decide +kernel) (by decide +kernel) (by decide +kernel) (by decide +kernel) (by decide +kernel) ?_
    refine zr_aload_n (i := 3) rfl (by decide +kernel) ?_
    refine zr_callSW (MC := M_L_ship) (c_L_ship l G hl A K ao f X Ld (xs (ii + 1)) (xs (ii + 2)) (xs (ii + 3)) (some r) e1) (WW' := fun _ => zq_W G am ao A K (vp_updL f 0 r.toInt64) pb X R Ld L2 F F2 P P2 Hi H Lg Pl Sn Ct Sc Tr o0 o1 M) (st := []) (st' := [.int 0]) [0, 2, 17] rfl rfl (fun _ => Nat.le_of_ble_eq_true rfl) (fun _ => List.append_nil _) rfl rfl nm_L_ship zw_6_14 zw_6_15 zw_1_0 zw_6_16 rfl (Nat.le_of_ble_eq_true rfl) ⟨show k + 1 ≤ 601024 by omega, show n + 6 ≤ 7293034 by omega⟩ (by decide +kernel) (fun _ => ?_)
    refine zr_istore (i := 5) rfl (by decide +kernel) ?_
    refine zr_aload_n (i := 2) rfl (by decide +kernel) ?_
    refine zq_arg (j := 1) (jz := 1) rfl (by decide) hii hL rfl rfl (by decide +kernel) (by decide +kernel) (by decide +kernel) (by decide +kernel) (by decide +kernel) ?_
    refine zq_arg (j := 2) (jz := 2) rfl (by decide) hii hL rfl rfl (by decide +kernel) (by decide +kernel) (by decide +kernel) (by decide +kernel) (by decide +kernel) ?_
    refine zq_arg (j := 3) (jz := 3) rfl (by decide) hii hL rfl rfl (by decide +kernel) (by decide +kernel) (by decide +kernel) (by decide +kernel) (by decide +kernel) ?_
    refine zr_callV (c_X12_ship l G am M (xs (ii + 1)) (xs (ii + 2)) (xs (ii + 3)) (r, M') e2) (WW' := fun _ => zq_W G am ao A K (vp_updL f 0 r.toInt64) pb X R Ld L2 F F2 P P2 Hi H Lg Pl Sn Ct Sc Tr o0 o1 M') (st := []) (st' := [.int r]) [16] rfl rfl (fun _ => Nat.le_of_ble_eq_true rfl) (fun _ => List.append_nil _) rfl rfl nm_X12_ship zw_8_68 zw_8_69 zw_8_70 zw_1_18 zw_8_71 rfl rfl rfl (Nat.le_of_ble_eq_true rfl) ⟨show k + 1 + 0 ≤ 601024 by omega, show n + 6 + 0 ≤ 7293034 by omega⟩ (by decide +kernel) (fun _ => ?_)
    refine zr_istore (i := 6) rfl (by decide +kernel) ?_
    refine zr_aload_n (i := 2) rfl (by decide +kernel) ?_
    refine zr_callV (c_X12_thrown l G am M' 0 (congrArg some et)) (WW' := fun _ => zq_W G am ao A K (vp_updL f 0 r.toInt64) pb X R Ld L2 F F2 P P2 Hi H Lg Pl Sn Ct Sc Tr o0 o1 M') (st := []) (st' := [.int 0]) [16] rfl rfl (fun _ => Nat.le_of_ble_eq_true rfl) (fun _ => List.append_nil _) rfl rfl nm_X12_thrown zw_6_193 zw_6_194 zw_6_195 zw_1_18 zw_6_196 rfl rfl rfl (Nat.le_of_ble_eq_true rfl) ⟨show k + 1 + 0 + 0 ≤ 601024 by omega, show n + 6 + 0 + 0 ≤ 7293034 by omega⟩ (by decide +kernel) (fun _ => ?_)
    refine zr_iload (i := 5) rfl (by decide +kernel) ?_
    refine zr_icmp_eq (off := 5) (tgt := 1118) (by decide +kernel) (by decide) (fun _ => ?_) (fun h => absurd rfl h)
    refine zr_iload (i := 5) rfl (by decide +kernel) ?_
    refine zr_if_ne (off := 15) (tgt := 1135) (by decide +kernel) (by decide) (fun _ => ?_) (fun h => absurd rfl h)
    refine zr_aload_n (i := 3) rfl (by decide +kernel) ?_
    refine zr_iconst (i := 0) (v := 0) rfl (by decide +kernel) ?_
    refine zr_lald (b := 17) (c' := 0) rfl rfl rfl (by decide +kernel) (by decide +kernel) ?_
    refine zr_iload (i := 6) rfl (by decide +kernel) ?_
    refine zr_i2l (by decide +kernel) ?_
    refine zr_lcmp (by decide +kernel) ?_
    refine zr_if_eq (off := 5) (tgt := 1135) (by decide +kernel) (by decide) (fun _ => ?_) (fun h => absurd ((lg_eq0 _ _).mpr rfl) h)
    refine zr_drop [5, 6, 7] ?_
    refine zr_goto (off := 341) (tgt := 1476) (by decide +kernel) (by decide) ?_
    exact zr_widen (k2 := k + 20) (n2 := n + 4000) (show k + 1 + 0 + 0 ≤ k + 20 by omega) (show n + 6 + 0 + 0 ≤ n + 4000 by omega) (hN A K (vp_updL f 0 r.toInt64) pb X R Ld L2 F F2 P P2 Hi H Lg Pl Sn Ct Sc Tr o0 o1 M' hI2 rfl h0 h1)
set_option maxRecDepth 100000 in
set_option maxHeartbeats 4000000 in
theorem e_land {l : Launch} {G : zj_G} {b L : Nat} {xs : Nat → Int32} {a1 : Nat} {am : Nat → Nat} {ao ii k n : Nat} (hii : ii + 6 ≤ L) (hL : L ≤ 3072) (hk : k ≤ 600000) (hn : n ≤ 7289000) (hN : zq_N l G b L xs a1 am ao ii (k + 20) (n + 4000) 1476) : zq_N l G b L xs a1 am ao ii k n 314 := by
  intro A K f pb X R Ld L2 F F2 P P2 Hi H Lg Pl Sn Ct Sc Tr o0 o1 M hI hA h0 h1
  subst hA
  rcases s_land hI L2 with ⟨r, L', R', M', e1, e2, hI2⟩ | ⟨r, L', R', F', P', Hi', M', e1, e2, hI2⟩
  · skip
    refine zr_aload_n (i := 1) rfl (by decide +kernel) ?_
    refine zr_callV (c_X11_land l G A K X L2 R Ld F P Hi (r, X, L', R', F, P, Hi, false) e1) (WW' := fun _ => zq_W G am ao A K f pb X R' Ld L' F F2 P P2 Hi H Lg Pl Sn Ct Sc Tr o0 o1 M) (st := []) (st' := [.int r]) [0, 3, 1, 2, 4, 6, 8] rfl rfl (fun _ => Nat.le_of_ble_eq_true rfl) (fun _ => List.append_nil _) rfl rfl nm_X11_land zw_2_223 zw_2_224 zw_2_225 zw_1_1 zw_2_226 rfl rfl rfl (Nat.le_of_ble_eq_true rfl) ⟨show k + 0 ≤ 601024 by omega, show n + 0 ≤ 7293034 by omega⟩ (by decide +kernel) (fun _ => ?_)
    refine zr_aload_n (i := 2) rfl (by decide +kernel) ?_
    refine zr_callV (c_X12_land l G am M  (r, M') e2) (WW' := fun _ => zq_W G am ao A K f pb X R' Ld L' F F2 P P2 Hi H Lg Pl Sn Ct Sc Tr o0 o1 M') (st := [.int r]) (st' := [.int r, .int r]) [16] rfl rfl (fun _ => Nat.le_of_ble_eq_true rfl) (fun _ => List.append_nil _) rfl rfl nm_X12_land zw_6_209 zw_6_210 zw_6_211 zw_1_18 zw_6_212 rfl rfl rfl (Nat.le_of_ble_eq_true rfl) ⟨show k + 0 + 0 ≤ 601024 by omega, show n + 0 + 0 ≤ 7293034 by omega⟩ (by decide +kernel) (fun _ => ?_)
    refine zr_icmp_eq (off := 1154) (tgt := 1476) (by decide +kernel) (by decide) (fun _ => ?_) (fun h => absurd rfl h)
    exact zr_widen (k2 := k + 20) (n2 := n + 4000) (show k + 0 + 0 ≤ k + 20 by omega) (show n + 0 + 0 ≤ n + 4000 by omega) (hN A K f pb X R' Ld L' F F2 P P2 Hi H Lg Pl Sn Ct Sc Tr o0 o1 M' hI2 rfl h0 h1)
  · skip
    refine zr_aload_n (i := 1) rfl (by decide +kernel) ?_
    refine zr_callV (c_X11_land l G A K X L2 R Ld F P Hi (r, X, L', R', F', P', Hi', true) e1) (WW' := fun _ => (w_Xx G (zsw A 2 3) K X :: w_Rd G (A 1) R' :: w_Ld G (A 2) Ld :: w_Ld G (A 3) L' :: w_Fk G (A 4) F' :: w_Fk G (A 5) F2 :: w_Ph G (A 6) P' :: w_Ph G (A 7) P2 :: w_Hi G (A 8) (fun i => A (9 + i)) Hi' :: w_H8 G (fun i => A (9 + i)) H :: w_Lg G (A 17) Lg :: zq_P G pb (A 18) Pl :: w_Sn G (A 19) Sn :: w_Ct G (A 20) Ct :: w_Sc G (A 21) Sc :: w_Tr G (A 22) Tr :: w_Mo G am M :: w_Ou G ao f :: (zq_T G A 0 o0 ++ zq_T G A 1 o1))) (st := []) (st' := [.int r]) [0, 3, 1, 2, 4, 6, 8] rfl rfl (fun _ => Nat.le_of_ble_eq_true rfl) (fun _ => List.append_nil _) rfl rfl nm_X11_land zw_2_223 zw_2_224 zw_2_225 zw_1_1 zw_2_226 rfl rfl rfl (Nat.le_of_ble_eq_true rfl) ⟨show k + 0 ≤ 601024 by omega, show n + 0 ≤ 7293034 by omega⟩ (by decide +kernel) (fun _ => ?_)
    refine zr_perm (WW2 := zq_B G am ao (zsw A 2 3) (fun i => A (9 + i)) K f pb X R' L' Ld F' F2 P' P2 Hi' H Lg Pl Sn Ct Sc Tr M (zq_T G A 0 o0 ++ zq_T G A 1 o1)) (.cons _ (.cons _ (.swap _ _ _))) ?_
    refine zr_eq (WW2 := zq_W G am ao (zsw A 2 3) K f pb X R' L' Ld F' F2 P' P2 Hi' H Lg Pl Sn Ct Sc Tr o0 o1 M) ((zq_BB (zsw_hi A (p := 2) (q := 3) (by decide) (by decide))).trans (by cases o0 <;> cases o1 <;> rfl)) rfl rfl ?_
    refine zr_aload_n (i := 2) rfl (by decide +kernel) ?_
    refine zr_callV (c_X12_land l G am M  (r, M') e2) (WW' := fun _ => zq_W G am ao (zsw A 2 3) K f pb X R' L' Ld F' F2 P' P2 Hi' H Lg Pl Sn Ct Sc Tr o0 o1 M') (st := [.int r]) (st' := [.int r, .int r]) [16] rfl rfl (fun _ => Nat.le_of_ble_eq_true rfl) (fun _ => List.append_nil _) rfl rfl nm_X12_land zw_6_209 zw_6_210 zw_6_211 zw_1_18 zw_6_212 rfl rfl rfl (Nat.le_of_ble_eq_true rfl) ⟨show k + 0 + 0 ≤ 601024 by omega, show n + 0 + 0 ≤ 7293034 by omega⟩ (by decide +kernel) (fun _ => ?_)
    refine zr_icmp_eq (off := 1154) (tgt := 1476) (by decide +kernel) (by decide) (fun _ => ?_) (fun h => absurd rfl h)
    exact zr_widen (k2 := k + 20) (n2 := n + 4000) (show k + 0 + 0 ≤ k + 20 by omega) (show n + 0 + 0 ≤ n + 4000 by omega) (hN (zsw A 2 3) K f pb X R' L' Ld F' F2 P' P2 Hi' H Lg Pl Sn Ct Sc Tr o0 o1 M' hI2 rfl (zq_ks.1.1 h0) (zq_ks.1.2 h1))
set_option maxRecDepth 100000 in
set_option maxHeartbeats 4000000 in
theorem e_sentence {l : Launch} {G : zj_G} {b L : Nat} {xs : Nat → Int32} {a1 : Nat} {am : Nat → Nat} {ao ii k n : Nat} (hii : ii + 6 ≤ L) (hL : L ≤ 3072) (hk : k ≤ 600000) (hn : n ≤ 7289000) (hN : zq_N l G b L xs a1 am ao ii (k + 20) (n + 4000) 1476) : zq_N l G b L xs a1 am ao ii k n 1363 := by
  intro A K f pb X R Ld L2 F F2 P P2 Hi H Lg Pl Sn Ct Sc Tr o0 o1 M hI hA h0 h1
  subst hA
  rcases s_sentence hI P2 with ⟨r, P2', R', M', e1, e2, hI2⟩ | ⟨r, P2', R', M', e1, e2, hI2⟩
  · skip
    refine zr_aload_n (i := 1) rfl (by decide +kernel) ?_
    refine zr_callV (c_X11_sentence l G A K X P2 R Ld P (r, X, P2', R', false) e1) (WW' := fun _ => zq_W G am ao A K f pb X R' Ld L2 F F2 P P2' Hi H Lg Pl Sn Ct Sc Tr o0 o1 M) (st := []) (st' := [.int r]) [0, 7, 1, 2, 6] rfl rfl (fun _ => Nat.le_of_ble_eq_true rfl) (fun _ => List.append_nil _) rfl rfl nm_X11_sentence zw_5_69 zw_5_70 zw_5_71 zw_1_1 zw_5_72 rfl rfl rfl (Nat.le_of_ble_eq_true rfl) ⟨show k + 0 ≤ 601024 by omega, show n + 0 ≤ 7293034 by omega⟩ (by decide +kernel) (fun _ => ?_)
    refine zr_aload_n (i := 2) rfl (by decide +kernel) ?_
    refine zr_callV (c_X12_sentence l G am M  (r, M') e2) (WW' := fun _ => zq_W G am ao A K f pb X R' Ld L2 F F2 P P2' Hi H Lg Pl Sn Ct Sc Tr o0 o1 M') (st := [.int r]) (st' := [.int r, .int r]) [16] rfl rfl (fun _ => Nat.le_of_ble_eq_true rfl) (fun _ => List.append_nil _) rfl rfl nm_X12_sentence zw_8_163 zw_8_164 zw_8_165 zw_1_18 zw_8_166 rfl rfl rfl (Nat.le_of_ble_eq_true rfl) ⟨show k + 0 + 0 ≤ 601024 by omega, show n + 0 + 0 ≤ 7293034 by omega⟩ (by decide +kernel) (fun _ => ?_)
    refine zr_icmp_eq (off := 105) (tgt := 1476) (by decide +kernel) (by decide) (fun _ => ?_) (fun h => absurd rfl h)
    exact zr_widen (k2 := k + 20) (n2 := n + 4000) (show k + 0 + 0 ≤ k + 20 by omega) (show n + 0 + 0 ≤ n + 4000 by omega) (hN A K f pb X R' Ld L2 F F2 P P2' Hi H Lg Pl Sn Ct Sc Tr o0 o1 M' hI2 rfl h0 h1)
  · skip
    refine zr_aload_n (i := 1) rfl (by decide +kernel) ?_
    refine zr_callV (c_X11_sentence l G A K X P2 R Ld P (r, X, P2', R', true) e1) (WW' := fun _ => (w_Xx G (zsw A 6 7) K X :: w_Rd G (A 1) R' :: w_Ld G (A 2) Ld :: w_Ld G (A 3) L2 :: w_Fk G (A 4) F :: w_Fk G (A 5) F2 :: w_Ph G (A 6) P :: w_Ph G (A 7) P2' :: w_Hi G (A 8) (fun i => A (9 + i)) Hi :: w_H8 G (fun i => A (9 + i)) H :: w_Lg G (A 17) Lg :: zq_P G pb (A 18) Pl :: w_Sn G (A 19) Sn :: w_Ct G (A 20) Ct :: w_Sc G (A 21) Sc :: w_Tr G (A 22) Tr :: w_Mo G am M :: w_Ou G ao f :: (zq_T G A 0 o0 ++ zq_T G A 1 o1))) (st := []) (st' := [.int r]) [0, 7, 1, 2, 6] rfl rfl (fun _ => Nat.le_of_ble_eq_true rfl) (fun _ => List.append_nil _) rfl rfl nm_X11_sentence zw_5_69 zw_5_70 zw_5_71 zw_1_1 zw_5_72 rfl rfl rfl (Nat.le_of_ble_eq_true rfl) ⟨show k + 0 ≤ 601024 by omega, show n + 0 ≤ 7293034 by omega⟩ (by decide +kernel) (fun _ => ?_)
    refine zr_perm (WW2 := zq_B G am ao (zsw A 6 7) (fun i => A (9 + i)) K f pb X R' Ld L2 F F2 P2' P Hi H Lg Pl Sn Ct Sc Tr M (zq_T G A 0 o0 ++ zq_T G A 1 o1)) (.cons _ (.cons _ (.cons _ (.cons _ (.cons _ (.cons _ (.swap _ _ _))))))) ?_
    refine zr_eq (WW2 := zq_W G am ao (zsw A 6 7) K f pb X R' Ld L2 F F2 P2' P Hi H Lg Pl Sn Ct Sc Tr o0 o1 M) ((zq_BB (zsw_hi A (p := 6) (q := 7) (by decide) (by decide))).trans (by cases o0 <;> cases o1 <;> rfl)) rfl rfl ?_
    refine zr_aload_n (i := 2) rfl (by decide +kernel) ?_
    refine zr_callV (c_X12_sentence l G am M  (r, M') e2) (WW' := fun _ => zq_W G am ao (zsw A 6 7) K f pb X R' Ld L2 F F2 P2' P Hi H Lg Pl Sn Ct Sc Tr o0 o1 M') (st := [.int r]) (st' := [.int r, .int r]) [16] rfl rfl (fun _ => Nat.le_of_ble_eq_true rfl) (fun _ => List.append_nil _) rfl rfl nm_X12_sentence zw_8_163 zw_8_164 zw_8_165 zw_1_18 zw_8_166 rfl rfl rfl (Nat.le_of_ble_eq_true rfl) ⟨show k + 0 + 0 ≤ 601024 by omega, show n + 0 + 0 ≤ 7293034 by omega⟩ (by decide +kernel) (fun _ => ?_)
    refine zr_icmp_eq (off := 105) (tgt := 1476) (by decide +kernel) (by decide) (fun _ => ?_) (fun h => absurd rfl h)
    exact zr_widen (k2 := k + 20) (n2 := n + 4000) (show k + 0 + 0 ≤ k + 20 by omega) (show n + 0 + 0 ≤ n + 4000 by omega) (hN (zsw A 6 7) K f pb X R' Ld L2 F F2 P2' P Hi H Lg Pl Sn Ct Sc Tr o0 o1 M' hI2 rfl (zq_ks.2.1 h0) (zq_ks.2.2 h1))
