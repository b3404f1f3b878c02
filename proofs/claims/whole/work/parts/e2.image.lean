/-! the law's calls: image, restore -/
set_option maxRecDepth 100000 in
set_option maxHeartbeats 4000000 in
theorem e_image {l : Launch} {G : zj_G} {b L : Nat} {xs : Nat → Int32} {a1 : Nat} {am : Nat → Nat} {ao ii k n : Nat} (hii : ii + 6 ≤ L) (hL : L ≤ 3072) (hk : k ≤ 600000) (hn : n ≤ 7289000) (hN : zq_N l G b L xs a1 am ao ii (k + 20) (n + 4000) 1476) : zq_N l G b L xs a1 am ao ii k n 1401 := by
  intro A K f pb X R Ld L2 F F2 P P2 Hi H Lg Pl Sn Ct Sc Tr o0 o1 M hI hA h0 h1
  subst hA
  by_cases hx : xs (ii + 1) < 0 ∨ ¬ xs (ii + 1) < (2 : Int32)
  · obtain ⟨M', e2, -, hI2⟩ := s_imageN hI hx
    refine zr_aload_n (i := 1) rfl (by decide +kernel) ?_
    refine zq_arg (j := 1) (jz := 1) rfl (by decide) hii hL rfl rfl (by decide +kernel) (by decide +kernel) (by decide +kernel) (by decide +kernel) (by decide +kernel) ?_
    refine zr_callV (c_X11_image_no l G A K X (xs (ii + 1)) hx) (WW' := fun _ => zq_W G am ao A K f pb X R Ld L2 F F2 P P2 Hi H Lg Pl Sn Ct Sc Tr o0 o1 M) (st := []) (st' := [.int 0]) [0] rfl rfl (fun _ => Nat.le_of_ble_eq_true rfl) (fun _ => List.append_nil _) rfl rfl nm_X11_image zw_5_121 zw_5_122 zw_5_123 zw_1_1 zw_5_124 rfl rfl rfl (Nat.le_of_ble_eq_true rfl) ⟨show k + 16 ≤ 601024 by omega, show n + 780 ≤ 7293034 by omega⟩ (by decide +kernel) (fun _ => ?_)
    refine zr_aload_n (i := 2) rfl (by decide +kernel) ?_
    refine zq_arg (j := 1) (jz := 1) rfl (by decide) hii hL rfl rfl (by decide +kernel) (by decide +kernel) (by decide +kernel) (by decide +kernel) (by decide +kernel) ?_
    refine zr_callV (c_X12_image l G am M (xs (ii + 1)) (0, M') e2) (WW' := fun _ => zq_W G am ao A K f pb X R Ld L2 F F2 P P2 Hi H Lg Pl Sn Ct Sc Tr o0 o1 M') (st := [.int 0]) (st' := [.int 0, .int 0]) [16] rfl rfl (fun _ => Nat.le_of_ble_eq_true rfl) (fun _ => List.append_nil _) rfl rfl nm_X12_image zw_8_211 zw_8_212 zw_8_213 zw_1_18 zw_8_214 rfl rfl rfl (Nat.le_of_ble_eq_true rfl) ⟨show k + 16 + 0 ≤ 601024 by omega, show n + 780 + 0 ≤ 7293034 by omega⟩ (by decide +kernel) (fun _ => ?_)
    refine zr_icmp_eq (off := 55) (tgt := 1476) (by decide +kernel) (by decide) (fun _ => ?_) (fun h => absurd rfl h)
    exact zr_widen (k2 := k + 20) (n2 := n + 4000) (show k + 16 + 0 ≤ k + 20 by omega) (show n + 780 + 0 ≤ n + 4000 by omega) (hN A K f pb X R Ld L2 F F2 P P2 Hi H Lg Pl Sn Ct Sc Tr o0 o1 M' hI2 rfl h0 h1)
  · rcases zq_x01 hx with hx | hx
    · cases o0 with
      | none =>
        obtain ⟨L', c1, -⟩ := pc_copyL i_Ld Ld
        obtain ⟨F', c2⟩ := pc_copyF i_Fk F
        obtain ⟨P', c3, -⟩ := pc_copyP i_Ph P
        obtain ⟨M', e2, hI2⟩ := s_image0 hI c1 c2 c3
        refine zr_aload_n (i := 1) rfl (by decide +kernel) ?_
        refine zq_arg (j := 1) (jz := 1) rfl (by decide) hii hL rfl rfl (by decide +kernel) (by decide +kernel) (by decide +kernel) (by decide +kernel) (by decide +kernel) ?_
        refine zr_callV (c_X11_image_new0 l G A K X Ld L' F F' P P' h0 c1 c2 c3) (WW' := fun bq => (zq_W G am ao A (zk3 K 0 bq) f pb X R Ld L2 F F2 P P2 Hi H Lg Pl Sn Ct Sc Tr none o1 M ++ [w_Ld G (fun i => bq i) L', w_Fk G (fun i => bq (16 + i)) F', w_Ph G (fun i => bq (32 + i)) P'])) (st := []) (st' := [.int 1]) [0, 2, 4, 6] rfl rfl (fun _ => Nat.le_of_ble_eq_true rfl) (fun _ => rfl) (by rw [hx]; rfl) rfl nm_X11_image zw_5_121 zw_5_122 zw_5_123 zw_1_1 zw_5_124 rfl rfl rfl (Nat.le_of_ble_eq_true rfl) ⟨show k + 16 ≤ 601024 by omega, show n + 780 ≤ 7293034 by omega⟩ (by decide +kernel) (fun bq => ?_)
        refine zr_aload_n (i := 2) rfl (by decide +kernel) ?_
        refine zq_arg (j := 1) (jz := 1) rfl (by decide) hii hL rfl rfl (by decide +kernel) (by decide +kernel) (by decide +kernel) (by decide +kernel) (by decide +kernel) ?_
        refine zr_callV (c_X12_image l G am M 0 (1, M') e2) (WW' := fun _ => (zq_W G am ao A (zk3 K 0 bq) f pb X R Ld L2 F F2 P P2 Hi H Lg Pl Sn Ct Sc Tr none o1 M' ++ [w_Ld G (fun i => bq i) L', w_Fk G (fun i => bq (16 + i)) F', w_Ph G (fun i => bq (32 + i)) P'])) (st := [.int 1]) (st' := [.int 1, .int 1]) [16] rfl rfl (fun _ => Nat.le_of_ble_eq_true rfl) (fun _ => List.append_nil _) (by rw [hx]; rfl) rfl nm_X12_image zw_8_211 zw_8_212 zw_8_213 zw_1_18 zw_8_214 rfl rfl rfl (Nat.le_of_ble_eq_true rfl) ⟨show k + 16 + 0 ≤ 601024 by omega, show n + 780 + 0 ≤ 7293034 by omega⟩ (by decide +kernel) (fun _ => ?_)
        refine zr_icmp_eq (off := 55) (tgt := 1476) (by decide +kernel) (by decide) (fun _ => ?_) (fun h => absurd rfl h)
        refine zr_perm (WW2 := zq_B G am ao A (fun i => A (9 + i)) (zk3 K 0 bq) f pb X R Ld L2 F F2 P P2 Hi H Lg Pl Sn Ct Sc Tr M' (zq_T G (zqI A 0 bq) 0 (some (L', F', P')) ++ zq_T G (zqI A 0 bq) 1 o1)) (zq_BT (T := ((zq_T G A 0 none ++ zq_T G A 1 o1) ++ [w_Ld G (fun i => bq i) L', w_Fk G (fun i => bq (16 + i)) F', w_Ph G (fun i => bq (32 + i)) P'])) (T' := (zq_T G (zqI A 0 bq) 0 (some (L', F', P')) ++ zq_T G (zqI A 0 bq) 1 o1)) (by cases o1 <;> exact List.perm_append_comm)) ?_
        refine zr_eq (WW2 := zq_W G am ao (zqI A 0 bq) (zk3 K 0 bq) f pb X R Ld L2 F F2 P P2 Hi H Lg Pl Sn Ct Sc Tr (some (L', F', P')) o1 M') ((zq_BB (zqI_hi A 0 bq)).trans rfl) rfl rfl ?_
        exact zr_widen (k2 := k + 20) (n2 := n + 4000) (show k + 16 + 0 ≤ k + 20 by omega) (show n + 780 + 0 ≤ n + 4000 by omega) (hN (zqI A 0 bq) (zk3 K 0 bq) f pb X R Ld L2 F F2 P P2 Hi H Lg Pl Sn Ct Sc Tr (some (L', F', P')) o1 M' hI2 rfl (zq_kI0 (q := (L', F', P')) h1).1 (zq_kI0 (q := (L', F', P')) h1).2)
      | some q =>
        obtain ⟨L1, F1, P1⟩ := q
        obtain ⟨L', c1, -⟩ := pc_copyL L1 Ld
        obtain ⟨F', c2⟩ := pc_copyF F1 F
        obtain ⟨P', c3, -⟩ := pc_copyP P1 P
        obtain ⟨M', e2, hI2⟩ := s_image0 hI c1 c2 c3
        refine zr_aload_n (i := 1) rfl (by decide +kernel) ?_
        refine zq_arg (j := 1) (jz := 1) rfl (by decide) hii hL rfl rfl (by decide +kernel) (by decide +kernel) (by decide +kernel) (by decide +kernel) (by decide +kernel) ?_
        refine zr_callV (c_X11_image_old0 l G A K X Ld L1 L' F F1 F' P P1 P' h0.1 h0.2.1 h0.2.2 c1 c2 c3) (WW' := fun _ => zq_W G am ao A K f pb X R Ld L2 F F2 P P2 Hi H Lg Pl Sn Ct Sc Tr (some (L', F', P')) o1 M) (st := []) (st' := [.int 1]) [0, 2, 4, 6, 18, 19, 20] rfl rfl (fun _ => Nat.le_of_ble_eq_true rfl) (fun _ => List.append_nil _) (by rw [hx]; rfl) rfl nm_X11_image zw_5_121 zw_5_122 zw_5_123 zw_1_1 zw_5_124 rfl rfl rfl (Nat.le_of_ble_eq_true rfl) ⟨show k + 16 ≤ 601024 by omega, show n + 780 ≤ 7293034 by omega⟩ (by decide +kernel) (fun _ => ?_)
        refine zr_aload_n (i := 2) rfl (by decide +kernel) ?_
        refine zq_arg (j := 1) (jz := 1) rfl (by decide) hii hL rfl rfl (by decide +kernel) (by decide +kernel) (by decide +kernel) (by decide +kernel) (by decide +kernel) ?_
        refine zr_callV (c_X12_image l G am M 0 (1, M') e2) (WW' := fun _ => zq_W G am ao A K f pb X R Ld L2 F F2 P P2 Hi H Lg Pl Sn Ct Sc Tr (some (L', F', P')) o1 M') (st := [.int 1]) (st' := [.int 1, .int 1]) [16] rfl rfl (fun _ => Nat.le_of_ble_eq_true rfl) (fun _ => List.append_nil _) (by rw [hx]; rfl) rfl nm_X12_image zw_8_211 zw_8_212 zw_8_213 zw_1_18 zw_8_214 rfl rfl rfl (Nat.le_of_ble_eq_true rfl) ⟨show k + 16 + 0 ≤ 601024 by omega, show n + 780 + 0 ≤ 7293034 by omega⟩ (by decide +kernel) (fun _ => ?_)
        refine zr_icmp_eq (off := 55) (tgt := 1476) (by decide +kernel) (by decide) (fun _ => ?_) (fun h => absurd rfl h)
        exact zr_widen (k2 := k + 20) (n2 := n + 4000) (show k + 16 + 0 ≤ k + 20 by omega) (show n + 780 + 0 ≤ n + 4000 by omega) (hN A K f pb X R Ld L2 F F2 P P2 Hi H Lg Pl Sn Ct Sc Tr (some (L', F', P')) o1 M' hI2 rfl h0 h1)
    · cases o1 with
      | none =>
        obtain ⟨L', c1, -⟩ := pc_copyL i_Ld Ld
        obtain ⟨F', c2⟩ := pc_copyF i_Fk F
        obtain ⟨P', c3, -⟩ := pc_copyP i_Ph P
        obtain ⟨M', e2, hI2⟩ := s_image1 hI c1 c2 c3
        refine zr_aload_n (i := 1) rfl (by decide +kernel) ?_
        refine zq_arg (j := 1) (jz := 1) rfl (by decide) hii hL rfl rfl (by decide +kernel) (by decide +kernel) (by decide +kernel) (by decide +kernel) (by decide +kernel) ?_
        refine zr_callV (c_X11_image_new1 l G A K X Ld L' F F' P P' h1 c1 c2 c3) (WW' := fun bq => (zq_W G am ao A (zk3 K 1 bq) f pb X R Ld L2 F F2 P P2 Hi H Lg Pl Sn Ct Sc Tr o0 none M ++ [w_Ld G (fun i => bq i) L', w_Fk G (fun i => bq (16 + i)) F', w_Ph G (fun i => bq (32 + i)) P'])) (st := []) (st' := [.int 1]) [0, 2, 4, 6] rfl rfl (fun _ => Nat.le_of_ble_eq_true rfl) (fun _ => rfl) (by rw [hx]; rfl) rfl nm_X11_image zw_5_121 zw_5_122 zw_5_123 zw_1_1 zw_5_124 rfl rfl rfl (Nat.le_of_ble_eq_true rfl) ⟨show k + 16 ≤ 601024 by omega, show n + 780 ≤ 7293034 by omega⟩ (by decide +kernel) (fun bq => ?_)
        refine zr_aload_n (i := 2) rfl (by decide +kernel) ?_
        refine zq_arg (j := 1) (jz := 1) rfl (by decide) hii hL rfl rfl (by decide +kernel) (by decide +kernel) (by decide +kernel) (by decide +kernel) (by decide +kernel) ?_
        refine zr_callV (c_X12_image l G am M 1 (1, M') e2) (WW' := fun _ => (zq_W G am ao A (zk3 K 1 bq) f pb X R Ld L2 F F2 P P2 Hi H Lg Pl Sn Ct Sc Tr o0 none M' ++ [w_Ld G (fun i => bq i) L', w_Fk G (fun i => bq (16 + i)) F', w_Ph G (fun i => bq (32 + i)) P'])) (st := [.int 1]) (st' := [.int 1, .int 1]) [16] rfl rfl (fun _ => Nat.le_of_ble_eq_true rfl) (fun _ => List.append_nil _) (by rw [hx]; rfl) rfl nm_X12_image zw_8_211 zw_8_212 zw_8_213 zw_1_18 zw_8_214 rfl rfl rfl (Nat.le_of_ble_eq_true rfl) ⟨show k + 16 + 0 ≤ 601024 by omega, show n + 780 + 0 ≤ 7293034 by omega⟩ (by decide +kernel) (fun _ => ?_)
        refine zr_icmp_eq (off := 55) (tgt := 1476) (by decide +kernel) (by decide) (fun _ => ?_) (fun h => absurd rfl h)
        refine zr_perm (WW2 := zq_B G am ao A (fun i => A (9 + i)) (zk3 K 1 bq) f pb X R Ld L2 F F2 P P2 Hi H Lg Pl Sn Ct Sc Tr M' (zq_T G (zqI A 1 bq) 0 o0 ++ zq_T G (zqI A 1 bq) 1 (some (L', F', P')))) (zq_BT (T := ((zq_T G A 0 o0 ++ zq_T G A 1 none) ++ [w_Ld G (fun i => bq i) L', w_Fk G (fun i => bq (16 + i)) F', w_Ph G (fun i => bq (32 + i)) P'])) (T' := (zq_T G (zqI A 1 bq) 0 o0 ++ zq_T G (zqI A 1 bq) 1 (some (L', F', P')))) (by cases o0 <;> exact List.Perm.refl _)) ?_
        refine zr_eq (WW2 := zq_W G am ao (zqI A 1 bq) (zk3 K 1 bq) f pb X R Ld L2 F F2 P P2 Hi H Lg Pl Sn Ct Sc Tr o0 (some (L', F', P')) M') ((zq_BB (zqI_hi A 1 bq)).trans rfl) rfl rfl ?_
        exact zr_widen (k2 := k + 20) (n2 := n + 4000) (show k + 16 + 0 ≤ k + 20 by omega) (show n + 780 + 0 ≤ n + 4000 by omega) (hN (zqI A 1 bq) (zk3 K 1 bq) f pb X R Ld L2 F F2 P P2 Hi H Lg Pl Sn Ct Sc Tr o0 (some (L', F', P')) M' hI2 rfl (zq_kI1 (q := (L', F', P')) h0).1 (zq_kI1 (q := (L', F', P')) h0).2)
      | some q =>
        obtain ⟨L1, F1, P1⟩ := q
        obtain ⟨L', c1, -⟩ := pc_copyL L1 Ld
        obtain ⟨F', c2⟩ := pc_copyF F1 F
        obtain ⟨P', c3, -⟩ := pc_copyP P1 P
        obtain ⟨M', e2, hI2⟩ := s_image1 hI c1 c2 c3
        refine zr_aload_n (i := 1) rfl (by decide +kernel) ?_
        refine zq_arg (j := 1) (jz := 1) rfl (by decide) hii hL rfl rfl (by decide +kernel) (by decide +kernel) (by decide +kernel) (by decide +kernel) (by decide +kernel) ?_
        cases o0 with
        | none =>
          refine zr_callV (c_X11_image_old1 l G A K X Ld L1 L' F F1 F' P P1 P' h1.1 h1.2.1 h1.2.2 c1 c2 c3) (WW' := fun _ => zq_W G am ao A K f pb X R Ld L2 F F2 P P2 Hi H Lg Pl Sn Ct Sc Tr none (some (L', F', P')) M) (st := []) (st' := [.int 1]) [0, 2, 4, 6, 18, 19, 20] rfl rfl (fun _ => Nat.le_of_ble_eq_true rfl) (fun _ => List.append_nil _) (by rw [hx]; rfl) rfl nm_X11_image zw_5_121 zw_5_122 zw_5_123 zw_1_1 zw_5_124 rfl rfl rfl (Nat.le_of_ble_eq_true rfl) ⟨show k + 16 ≤ 601024 by omega, show n + 780 ≤ 7293034 by omega⟩ (by decide +kernel) (fun _ => ?_)
          refine zr_aload_n (i := 2) rfl (by decide +kernel) ?_
          refine zq_arg (j := 1) (jz := 1) rfl (by decide) hii hL rfl rfl (by decide +kernel) (by decide +kernel) (by decide +kernel) (by decide +kernel) (by decide +kernel) ?_
          refine zr_callV (c_X12_image l G am M 1 (1, M') e2) (WW' := fun _ => zq_W G am ao A K f pb X R Ld L2 F F2 P P2 Hi H Lg Pl Sn Ct Sc Tr none (some (L', F', P')) M') (st := [.int 1]) (st' := [.int 1, .int 1]) [16] rfl rfl (fun _ => Nat.le_of_ble_eq_true rfl) (fun _ => List.append_nil _) (by rw [hx]; rfl) rfl nm_X12_image zw_8_211 zw_8_212 zw_8_213 zw_1_18 zw_8_214 rfl rfl rfl (Nat.le_of_ble_eq_true rfl) ⟨show k + 16 + 0 ≤ 601024 by omega, show n + 780 + 0 ≤ 7293034 by omega⟩ (by decide +kernel) (fun _ => ?_)
          refine zr_icmp_eq (off := 55) (tgt := 1476) (by decide +kernel) (by decide) (fun _ => ?_) (fun h => absurd rfl h)
          exact zr_widen (k2 := k + 20) (n2 := n + 4000) (show k + 16 + 0 ≤ k + 20 by omega) (show n + 780 + 0 ≤ n + 4000 by omega) (hN A K f pb X R Ld L2 F F2 P P2 Hi H Lg Pl Sn Ct Sc Tr none (some (L', F', P')) M' hI2 rfl h0 h1)
        | some q0 =>
          refine zr_callV (c_X11_image_old1 l G A K X Ld L1 L' F F1 F' P P1 P' h1.1 h1.2.1 h1.2.2 c1 c2 c3) (WW' := fun _ => zq_W G am ao A K f pb X R Ld L2 F F2 P P2 Hi H Lg Pl Sn Ct Sc Tr (some q0) (some (L', F', P')) M) (st := []) (st' := [.int 1]) [0, 2, 4, 6, 21, 22, 23] rfl rfl (fun _ => Nat.le_of_ble_eq_true rfl) (fun _ => List.append_nil _) (by rw [hx]; rfl) rfl nm_X11_image zw_5_121 zw_5_122 zw_5_123 zw_1_1 zw_5_124 rfl rfl rfl (Nat.le_of_ble_eq_true rfl) ⟨show k + 16 ≤ 601024 by omega, show n + 780 ≤ 7293034 by omega⟩ (by decide +kernel) (fun _ => ?_)
          refine zr_aload_n (i := 2) rfl (by decide +kernel) ?_
          refine zq_arg (j := 1) (jz := 1) rfl (by decide) hii hL rfl rfl (by decide +kernel) (by decide +kernel) (by decide +kernel) (by decide +kernel) (by decide +kernel) ?_
          refine zr_callV (c_X12_image l G am M 1 (1, M') e2) (WW' := fun _ => zq_W G am ao A K f pb X R Ld L2 F F2 P P2 Hi H Lg Pl Sn Ct Sc Tr (some q0) (some (L', F', P')) M') (st := [.int 1]) (st' := [.int 1, .int 1]) [16] rfl rfl (fun _ => Nat.le_of_ble_eq_true rfl) (fun _ => List.append_nil _) (by rw [hx]; rfl) rfl nm_X12_image zw_8_211 zw_8_212 zw_8_213 zw_1_18 zw_8_214 rfl rfl rfl (Nat.le_of_ble_eq_true rfl) ⟨show k + 16 + 0 ≤ 601024 by omega, show n + 780 + 0 ≤ 7293034 by omega⟩ (by decide +kernel) (fun _ => ?_)
          refine zr_icmp_eq (off := 55) (tgt := 1476) (by decide +kernel) (by decide) (fun _ => ?_) (fun h => absurd rfl h)
          exact zr_widen (k2 := k + 20) (n2 := n + 4000) (show k + 16 + 0 ≤ k + 20 by omega) (show n + 780 + 0 ≤ n + 4000 by omega) (hN A K f pb X R Ld L2 F F2 P P2 Hi H Lg Pl Sn Ct Sc Tr (some q0) (some (L', F', P')) M' hI2 rfl h0 h1)
set_option maxRecDepth 100000 in
set_option maxHeartbeats 4000000 in
theorem e_restore {l : Launch} {G : zj_G} {b L : Nat} {xs : Nat → Int32} {a1 : Nat} {am : Nat → Nat} {ao ii k n : Nat} (hii : ii + 6 ≤ L) (hL : L ≤ 3072) (hk : k ≤ 600000) (hn : n ≤ 7289000) (hN : zq_N l G b L xs a1 am ao ii (k + 20) (n + 4000) 1476) : zq_N l G b L xs a1 am ao ii k n 1426 := by
  intro A K f pb X R Ld L2 F F2 P P2 Hi H Lg Pl Sn Ct Sc Tr o0 o1 M hI hA h0 h1
  subst hA
  by_cases hx : xs (ii + 1) < 0 ∨ ¬ xs (ii + 1) < (2 : Int32)
  · obtain ⟨M', -, e2, hI2⟩ := s_imageN hI hx
    refine zr_aload_n (i := 1) rfl (by decide +kernel) ?_
    refine zq_arg (j := 1) (jz := 1) rfl (by decide) hii hL rfl rfl (by decide +kernel) (by decide +kernel) (by decide +kernel) (by decide +kernel) (by decide +kernel) ?_
    refine zr_callV (c_X11_restore_no l G A K X (xs (ii + 1)) hx) (WW' := fun _ => zq_W G am ao A K f pb X R Ld L2 F F2 P P2 Hi H Lg Pl Sn Ct Sc Tr o0 o1 M) (st := []) (st' := [.int 0]) [0] rfl rfl (fun _ => Nat.le_of_ble_eq_true rfl) (fun _ => List.append_nil _) rfl rfl nm_X11_restore zw_5_135 zw_5_136 zw_5_137 zw_1_1 zw_5_138 rfl rfl rfl (Nat.le_of_ble_eq_true rfl) ⟨show k + 0 ≤ 601024 by omega, show n + 0 ≤ 7293034 by omega⟩ (by decide +kernel) (fun _ => ?_)
    refine zr_aload_n (i := 2) rfl (by decide +kernel) ?_
    refine zq_arg (j := 1) (jz := 1) rfl (by decide) hii hL rfl rfl (by decide +kernel) (by decide +kernel) (by decide +kernel) (by decide +kernel) (by decide +kernel) ?_
    refine zr_callV (c_X12_restore l G am M (xs (ii + 1)) (0, M') e2) (WW' := fun _ => zq_W G am ao A K f pb X R Ld L2 F F2 P P2 Hi H Lg Pl Sn Ct Sc Tr o0 o1 M') (st := [.int 0]) (st' := [.int 0, .int 0]) [16] rfl rfl (fun _ => Nat.le_of_ble_eq_true rfl) (fun _ => List.append_nil _) rfl rfl nm_X12_restore zw_8_215 zw_8_216 zw_8_217 zw_1_18 zw_8_218 rfl rfl rfl (Nat.le_of_ble_eq_true rfl) ⟨show k + 0 + 0 ≤ 601024 by omega, show n + 0 + 0 ≤ 7293034 by omega⟩ (by decide +kernel) (fun _ => ?_)
    refine zr_icmp_eq (off := 30) (tgt := 1476) (by decide +kernel) (by decide) (fun _ => ?_) (fun h => absurd rfl h)
    exact zr_widen (k2 := k + 20) (n2 := n + 4000) (show k + 0 + 0 ≤ k + 20 by omega) (show n + 0 + 0 ≤ n + 4000 by omega) (hN A K f pb X R Ld L2 F F2 P P2 Hi H Lg Pl Sn Ct Sc Tr o0 o1 M' hI2 rfl h0 h1)
  · rcases zq_x01 hx with hx | hx
    · cases o0 with
      | none =>
        obtain ⟨M', e2, hI2⟩ := s_restoreN0 hI
        refine zr_aload_n (i := 1) rfl (by decide +kernel) ?_
        refine zq_arg (j := 1) (jz := 1) rfl (by decide) hii hL rfl rfl (by decide +kernel) (by decide +kernel) (by decide +kernel) (by decide +kernel) (by decide +kernel) ?_
        refine zr_callV (c_X11_restore_none0 l G A K X h0) (WW' := fun _ => zq_W G am ao A K f pb X R Ld L2 F F2 P P2 Hi H Lg Pl Sn Ct Sc Tr none o1 M) (st := []) (st' := [.int 0]) [0] rfl rfl (fun _ => Nat.le_of_ble_eq_true rfl) (fun _ => List.append_nil _) (by rw [hx]; rfl) rfl nm_X11_restore zw_5_135 zw_5_136 zw_5_137 zw_1_1 zw_5_138 rfl rfl rfl (Nat.le_of_ble_eq_true rfl) ⟨show k + 0 ≤ 601024 by omega, show n + 0 ≤ 7293034 by omega⟩ (by decide +kernel) (fun _ => ?_)
        refine zr_aload_n (i := 2) rfl (by decide +kernel) ?_
        refine zq_arg (j := 1) (jz := 1) rfl (by decide) hii hL rfl rfl (by decide +kernel) (by decide +kernel) (by decide +kernel) (by decide +kernel) (by decide +kernel) ?_
        refine zr_callV (c_X12_restore l G am M 0 (0, M') e2) (WW' := fun _ => zq_W G am ao A K f pb X R Ld L2 F F2 P P2 Hi H Lg Pl Sn Ct Sc Tr none o1 M') (st := [.int 0]) (st' := [.int 0, .int 0]) [16] rfl rfl (fun _ => Nat.le_of_ble_eq_true rfl) (fun _ => List.append_nil _) (by rw [hx]; rfl) rfl nm_X12_restore zw_8_215 zw_8_216 zw_8_217 zw_1_18 zw_8_218 rfl rfl rfl (Nat.le_of_ble_eq_true rfl) ⟨show k + 0 + 0 ≤ 601024 by omega, show n + 0 + 0 ≤ 7293034 by omega⟩ (by decide +kernel) (fun _ => ?_)
        refine zr_icmp_eq (off := 30) (tgt := 1476) (by decide +kernel) (by decide) (fun _ => ?_) (fun h => absurd rfl h)
        exact zr_widen (k2 := k + 20) (n2 := n + 4000) (show k + 0 + 0 ≤ k + 20 by omega) (show n + 0 + 0 ≤ n + 4000 by omega) (hN A K f pb X R Ld L2 F F2 P P2 Hi H Lg Pl Sn Ct Sc Tr none o1 M' hI2 rfl h0 h1)
      | some q =>
        obtain ⟨L1, F1, P1⟩ := q
        obtain ⟨L', c1, -⟩ := pc_copyL Ld L1
        obtain ⟨F', c2⟩ := pc_copyF F F1
        obtain ⟨P', c3, -⟩ := pc_copyP P P1
        obtain ⟨M', e2, hI2⟩ := s_restoreY hI (j := 0) (by omega) hI.i0 c1 c2 c3
        refine zr_aload_n (i := 1) rfl (by decide +kernel) ?_
        refine zq_arg (j := 1) (jz := 1) rfl (by decide) hii hL rfl rfl (by decide +kernel) (by decide +kernel) (by decide +kernel) (by decide +kernel) (by decide +kernel) ?_
        refine zr_callV (c_X11_restore_of0 l G A K X L1 Ld L' F1 F F' P1 P P' Hi h0.1 h0.2.1 h0.2.2 c1 c2 c3) (WW' := fun _ => zq_W G am ao A K f pb X R L' L2 F' F2 P' P2 (Hi_s_size Hi 0) H Lg Pl Sn Ct Sc Tr (some (L1, F1, P1)) o1 M) (st := []) (st' := [.int 1]) [0, 2, 4, 6, 18, 19, 20, 8] rfl rfl (fun _ => Nat.le_of_ble_eq_true rfl) (fun _ => List.append_nil _) (by rw [hx]; rfl) rfl nm_X11_restore zw_5_135 zw_5_136 zw_5_137 zw_1_1 zw_5_138 rfl rfl rfl (Nat.le_of_ble_eq_true rfl) ⟨show k + 0 ≤ 601024 by omega, show n + 0 ≤ 7293034 by omega⟩ (by decide +kernel) (fun _ => ?_)
        refine zr_aload_n (i := 2) rfl (by decide +kernel) ?_
        refine zq_arg (j := 1) (jz := 1) rfl (by decide) hii hL rfl rfl (by decide +kernel) (by decide +kernel) (by decide +kernel) (by decide +kernel) (by decide +kernel) ?_
        refine zr_callV (c_X12_restore l G am M (zn 0) (1, M') e2) (WW' := fun _ => zq_W G am ao A K f pb X R L' L2 F' F2 P' P2 (Hi_s_size Hi 0) H Lg Pl Sn Ct Sc Tr (some (L1, F1, P1)) o1 M') (st := [.int 1]) (st' := [.int 1, .int 1]) [16] rfl rfl (fun _ => Nat.le_of_ble_eq_true rfl) (fun _ => List.append_nil _) (by rw [hx]; rfl) rfl nm_X12_restore zw_8_215 zw_8_216 zw_8_217 zw_1_18 zw_8_218 rfl rfl rfl (Nat.le_of_ble_eq_true rfl) ⟨show k + 0 + 0 ≤ 601024 by omega, show n + 0 + 0 ≤ 7293034 by omega⟩ (by decide +kernel) (fun _ => ?_)
        refine zr_icmp_eq (off := 30) (tgt := 1476) (by decide +kernel) (by decide) (fun _ => ?_) (fun h => absurd rfl h)
        exact zr_widen (k2 := k + 20) (n2 := n + 4000) (show k + 0 + 0 ≤ k + 20 by omega) (show n + 0 + 0 ≤ n + 4000 by omega) (hN A K f pb X R L' L2 F' F2 P' P2 (Hi_s_size Hi 0) H Lg Pl Sn Ct Sc Tr (some (L1, F1, P1)) o1 M' hI2 rfl h0 h1)
    · cases o1 with
      | none =>
        obtain ⟨M', e2, hI2⟩ := s_restoreN1 hI
        refine zr_aload_n (i := 1) rfl (by decide +kernel) ?_
        refine zq_arg (j := 1) (jz := 1) rfl (by decide) hii hL rfl rfl (by decide +kernel) (by decide +kernel) (by decide +kernel) (by decide +kernel) (by decide +kernel) ?_
        refine zr_callV (c_X11_restore_none1 l G A K X h1) (WW' := fun _ => zq_W G am ao A K f pb X R Ld L2 F F2 P P2 Hi H Lg Pl Sn Ct Sc Tr o0 none M) (st := []) (st' := [.int 0]) [0] rfl rfl (fun _ => Nat.le_of_ble_eq_true rfl) (fun _ => List.append_nil _) (by rw [hx]; rfl) rfl nm_X11_restore zw_5_135 zw_5_136 zw_5_137 zw_1_1 zw_5_138 rfl rfl rfl (Nat.le_of_ble_eq_true rfl) ⟨show k + 0 ≤ 601024 by omega, show n + 0 ≤ 7293034 by omega⟩ (by decide +kernel) (fun _ => ?_)
        refine zr_aload_n (i := 2) rfl (by decide +kernel) ?_
        refine zq_arg (j := 1) (jz := 1) rfl (by decide) hii hL rfl rfl (by decide +kernel) (by decide +kernel) (by decide +kernel) (by decide +kernel) (by decide +kernel) ?_
        refine zr_callV (c_X12_restore l G am M 1 (0, M') e2) (WW' := fun _ => zq_W G am ao A K f pb X R Ld L2 F F2 P P2 Hi H Lg Pl Sn Ct Sc Tr o0 none M') (st := [.int 0]) (st' := [.int 0, .int 0]) [16] rfl rfl (fun _ => Nat.le_of_ble_eq_true rfl) (fun _ => List.append_nil _) (by rw [hx]; rfl) rfl nm_X12_restore zw_8_215 zw_8_216 zw_8_217 zw_1_18 zw_8_218 rfl rfl rfl (Nat.le_of_ble_eq_true rfl) ⟨show k + 0 + 0 ≤ 601024 by omega, show n + 0 + 0 ≤ 7293034 by omega⟩ (by decide +kernel) (fun _ => ?_)
        refine zr_icmp_eq (off := 30) (tgt := 1476) (by decide +kernel) (by decide) (fun _ => ?_) (fun h => absurd rfl h)
        exact zr_widen (k2 := k + 20) (n2 := n + 4000) (show k + 0 + 0 ≤ k + 20 by omega) (show n + 0 + 0 ≤ n + 4000 by omega) (hN A K f pb X R Ld L2 F F2 P P2 Hi H Lg Pl Sn Ct Sc Tr o0 none M' hI2 rfl h0 h1)
      | some q =>
        obtain ⟨L1, F1, P1⟩ := q
        obtain ⟨L', c1, -⟩ := pc_copyL Ld L1
        obtain ⟨F', c2⟩ := pc_copyF F F1
        obtain ⟨P', c3, -⟩ := pc_copyP P P1
        obtain ⟨M', e2, hI2⟩ := s_restoreY hI (j := 1) (by omega) hI.i1 c1 c2 c3
        refine zr_aload_n (i := 1) rfl (by decide +kernel) ?_
        refine zq_arg (j := 1) (jz := 1) rfl (by decide) hii hL rfl rfl (by decide +kernel) (by decide +kernel) (by decide +kernel) (by decide +kernel) (by decide +kernel) ?_
        cases o0 with
        | none =>
          refine zr_callV (c_X11_restore_of1 l G A K X L1 Ld L' F1 F F' P1 P P' Hi h1.1 h1.2.1 h1.2.2 c1 c2 c3) (WW' := fun _ => zq_W G am ao A K f pb X R L' L2 F' F2 P' P2 (Hi_s_size Hi 0) H Lg Pl Sn Ct Sc Tr none (some (L1, F1, P1)) M) (st := []) (st' := [.int 1]) [0, 2, 4, 6, 18, 19, 20, 8] rfl rfl (fun _ => Nat.le_of_ble_eq_true rfl) (fun _ => List.append_nil _) (by rw [hx]; rfl) rfl nm_X11_restore zw_5_135 zw_5_136 zw_5_137 zw_1_1 zw_5_138 rfl rfl rfl (Nat.le_of_ble_eq_true rfl) ⟨show k + 0 ≤ 601024 by omega, show n + 0 ≤ 7293034 by omega⟩ (by decide +kernel) (fun _ => ?_)
          refine zr_aload_n (i := 2) rfl (by decide +kernel) ?_
          refine zq_arg (j := 1) (jz := 1) rfl (by decide) hii hL rfl rfl (by decide +kernel) (by decide +kernel) (by decide +kernel) (by decide +kernel) (by decide +kernel) ?_
          refine zr_callV (c_X12_restore l G am M (zn 1) (1, M') e2) (WW' := fun _ => zq_W G am ao A K f pb X R L' L2 F' F2 P' P2 (Hi_s_size Hi 0) H Lg Pl Sn Ct Sc Tr none (some (L1, F1, P1)) M') (st := [.int 1]) (st' := [.int 1, .int 1]) [16] rfl rfl (fun _ => Nat.le_of_ble_eq_true rfl) (fun _ => List.append_nil _) (by rw [hx]; rfl) rfl nm_X12_restore zw_8_215 zw_8_216 zw_8_217 zw_1_18 zw_8_218 rfl rfl rfl (Nat.le_of_ble_eq_true rfl) ⟨show k + 0 + 0 ≤ 601024 by omega, show n + 0 + 0 ≤ 7293034 by omega⟩ (by decide +kernel) (fun _ => ?_)
          refine zr_icmp_eq (off := 30) (tgt := 1476) (by decide +kernel) (by decide) (fun _ => ?_) (fun h => absurd rfl h)
          exact zr_widen (k2 := k + 20) (n2 := n + 4000) (show k + 0 + 0 ≤ k + 20 by omega) (show n + 0 + 0 ≤ n + 4000 by omega) (hN A K f pb X R L' L2 F' F2 P' P2 (Hi_s_size Hi 0) H Lg Pl Sn Ct Sc Tr none (some (L1, F1, P1)) M' hI2 rfl h0 h1)
        | some q0 =>
          refine zr_callV (c_X11_restore_of1 l G A K X L1 Ld L' F1 F F' P1 P P' Hi h1.1 h1.2.1 h1.2.2 c1 c2 c3) (WW' := fun _ => zq_W G am ao A K f pb X R L' L2 F' F2 P' P2 (Hi_s_size Hi 0) H Lg Pl Sn Ct Sc Tr (some q0) (some (L1, F1, P1)) M) (st := []) (st' := [.int 1]) [0, 2, 4, 6, 21, 22, 23, 8] rfl rfl (fun _ => Nat.le_of_ble_eq_true rfl) (fun _ => List.append_nil _) (by rw [hx]; rfl) rfl nm_X11_restore zw_5_135 zw_5_136 zw_5_137 zw_1_1 zw_5_138 rfl rfl rfl (Nat.le_of_ble_eq_true rfl) ⟨show k + 0 ≤ 601024 by omega, show n + 0 ≤ 7293034 by omega⟩ (by decide +kernel) (fun _ => ?_)
          refine zr_aload_n (i := 2) rfl (by decide +kernel) ?_
          refine zq_arg (j := 1) (jz := 1) rfl (by decide) hii hL rfl rfl (by decide +kernel) (by decide +kernel) (by decide +kernel) (by decide +kernel) (by decide +kernel) ?_
          refine zr_callV (c_X12_restore l G am M (zn 1) (1, M') e2) (WW' := fun _ => zq_W G am ao A K f pb X R L' L2 F' F2 P' P2 (Hi_s_size Hi 0) H Lg Pl Sn Ct Sc Tr (some q0) (some (L1, F1, P1)) M') (st := [.int 1]) (st' := [.int 1, .int 1]) [16] rfl rfl (fun _ => Nat.le_of_ble_eq_true rfl) (fun _ => List.append_nil _) (by rw [hx]; rfl) rfl nm_X12_restore zw_8_215 zw_8_216 zw_8_217 zw_1_18 zw_8_218 rfl rfl rfl (Nat.le_of_ble_eq_true rfl) ⟨show k + 0 + 0 ≤ 601024 by omega, show n + 0 + 0 ≤ 7293034 by omega⟩ (by decide +kernel) (fun _ => ?_)
          refine zr_icmp_eq (off := 30) (tgt := 1476) (by decide +kernel) (by decide) (fun _ => ?_) (fun h => absurd rfl h)
          exact zr_widen (k2 := k + 20) (n2 := n + 4000) (show k + 0 + 0 ≤ k + 20 by omega) (show n + 0 + 0 ≤ n + 4000 by omega) (hN A K f pb X R L' L2 F' F2 P' P2 (Hi_s_size Hi 0) H Lg Pl Sn Ct Sc Tr (some q0) (some (L1, F1, P1)) M' hI2 rfl h0 h1)
