/-! the law's calls, one by one -/
set_option maxRecDepth 100000 in
set_option maxHeartbeats 4000000 in
theorem e_feed {l : Launch} {G : zj_G} {b L : Nat} {xs : Nat → Int32} {a1 : Nat} {am : Nat → Nat} {ao ii k n : Nat} (hii : ii + 6 ≤ L) (hL : L ≤ 3072) (hk : k ≤ 600000) (hn : n ≤ 7289000) (hN : zq_N l G b L xs a1 am ao ii (k + 20) (n + 4000) 1476) : zq_N l G b L xs a1 am ao ii k n 216 := by
  intro A K f pb X R Ld L2 F F2 P P2 Hi H Lg Pl Sn Ct Sc Tr o0 o1 M hI hA h0 h1
  subst hA
  obtain ⟨r, R', M', e1, e2, hI2⟩ := s_feed hI  (xs (ii + 1)) (xs (ii + 2)) (xs (ii + 3)) (xs (ii + 4)) (xs (ii + 5))
  refine zr_aload_n (i := 1) rfl (by decide +kernel) ?_
  refine zq_arg (j := 1) (jz := 1) rfl (by decide) hii hL rfl rfl (by decide +kernel) (by decide +kernel) (by decide +kernel) (by decide +kernel) (by decide +kernel) ?_
  refine zq_arg (j := 2) (jz := 2) rfl (by decide) hii hL rfl rfl (by decide +kernel) (by decide +kernel) (by decide +kernel) (by decide +kernel) (by decide +kernel) ?_
  refine zq_arg (j := 3) (jz := 3) rfl (by decide) hii hL rfl rfl (by decide +kernel) (by decide +kernel) (by decide +kernel) (by decide +kernel) (by decide +kernel) ?_
  refine zq_arg (j := 4) (jz := 4) rfl (by decide) hii hL rfl rfl (by decide +kernel) (by decide +kernel) (by decide +kernel) (by decide +kernel) (by decide +kernel) ?_
  refine zq_arg (j := 5) (jz := 5) rfl (by decide) hii hL rfl rfl (by decide +kernel) (by decide +kernel) (by decide +kernel) (by decide +kernel) (by decide +kernel) ?_
  refine zr_callV (c_X11_feed l G A K X R (xs (ii + 1)) (xs (ii + 2)) (xs (ii + 3)) (xs (ii + 4)) (xs (ii + 5)) (r, R') e1) (WW' := fun _ => zq_W G am ao A K f pb X R' Ld L2 F F2 P P2 Hi H Lg Pl Sn Ct Sc Tr o0 o1 M) (st := []) (st' := [.int r]) [0, 1] rfl rfl (fun _ => Nat.le_of_ble_eq_true rfl) (fun _ => List.append_nil _) rfl rfl nm_X11_feed zw_2_207 zw_2_208 zw_2_209 zw_1_1 zw_2_210 rfl rfl rfl (Nat.le_of_ble_eq_true rfl) ⟨show k + 0 ≤ 601024 by omega, show n + 0 ≤ 7293034 by omega⟩ (by decide +kernel) (fun _ => ?_)
  refine zr_aload_n (i := 2) rfl (by decide +kernel) ?_
  refine zq_arg (j := 1) (jz := 1) rfl (by decide) hii hL rfl rfl (by decide +kernel) (by decide +kernel) (by decide +kernel) (by decide +kernel) (by decide +kernel) ?_
  refine zq_arg (j := 2) (jz := 2) rfl (by decide) hii hL rfl rfl (by decide +kernel) (by decide +kernel) (by decide +kernel) (by decide +kernel) (by decide +kernel) ?_
  refine zq_arg (j := 3) (jz := 3) rfl (by decide) hii hL rfl rfl (by decide +kernel) (by decide +kernel) (by decide +kernel) (by decide +kernel) (by decide +kernel) ?_
  refine zq_arg (j := 4) (jz := 4) rfl (by decide) hii hL rfl rfl (by decide +kernel) (by decide +kernel) (by decide +kernel) (by decide +kernel) (by decide +kernel) ?_
  refine zq_arg (j := 5) (jz := 5) rfl (by decide) hii hL rfl rfl (by decide +kernel) (by decide +kernel) (by decide +kernel) (by decide +kernel) (by decide +kernel) ?_
  refine zr_callV (c_X12_feed l G am M (xs (ii + 1)) (xs (ii + 2)) (xs (ii + 3)) (xs (ii + 4)) (xs (ii + 5)) (r, M') e2) (WW' := fun _ => zq_W G am ao A K f pb X R' Ld L2 F F2 P P2 Hi H Lg Pl Sn Ct Sc Tr o0 o1 M') (st := [.int r]) (st' := [.int r, .int r]) [16] rfl rfl (fun _ => Nat.le_of_ble_eq_true rfl) (fun _ => List.append_nil _) rfl rfl nm_X12_feed zw_6_197 zw_6_198 zw_6_199 zw_1_18 zw_6_200 rfl rfl rfl (Nat.le_of_ble_eq_true rfl) ⟨show k + 0 + 0 ≤ 601024 by omega, show n + 0 + 0 ≤ 7293034 by omega⟩ (by decide +kernel) (fun _ => ?_)
  refine zr_icmp_eq (off := 1192) (tgt := 1476) (by decide +kernel) (by decide) (fun _ => ?_) (fun h => absurd rfl h)
  exact zr_widen (k2 := k + 20) (n2 := n + 4000) (show k + 0 + 0 ≤ k + 20 by omega) (show n + 0 + 0 ≤ n + 4000 by omega) (hN A K f pb X R' Ld L2 F F2 P P2 Hi H Lg Pl Sn Ct Sc Tr o0 o1 M' hI2 rfl h0 h1)
set_option maxRecDepth 100000 in
set_option maxHeartbeats 4000000 in
theorem e_end {l : Launch} {G : zj_G} {b L : Nat} {xs : Nat → Int32} {a1 : Nat} {am : Nat → Nat} {ao ii k n : Nat} (hii : ii + 6 ≤ L) (hL : L ≤ 3072) (hk : k ≤ 600000) (hn : n ≤ 7289000) (hN : zq_N l G b L xs a1 am ao ii (k + 20) (n + 4000) 1476) : zq_N l G b L xs a1 am ao ii k n 289 := by
  intro A K f pb X R Ld L2 F F2 P P2 Hi H Lg Pl Sn Ct Sc Tr o0 o1 M hI hA h0 h1
  subst hA
  obtain ⟨r, R', M', e1, e2, hI2⟩ := s_end hI  (xs (ii + 1))
  refine zr_aload_n (i := 1) rfl (by decide +kernel) ?_
  refine zq_arg (j := 1) (jz := 1) rfl (by decide) hii hL rfl rfl (by decide +kernel) (by decide +kernel) (by decide +kernel) (by decide +kernel) (by decide +kernel) ?_
  refine zr_callV (c_X11_end l G A K X R (xs (ii + 1)) (r, R') e1) (WW' := fun _ => zq_W G am ao A K f pb X R' Ld L2 F F2 P P2 Hi H Lg Pl Sn Ct Sc Tr o0 o1 M) (st := []) (st' := [.int r]) [0, 1] rfl rfl (fun _ => Nat.le_of_ble_eq_true rfl) (fun _ => List.append_nil _) rfl rfl nm_X11_end zw_2_219 zw_2_220 zw_2_221 zw_1_1 zw_2_222 rfl rfl rfl (Nat.le_of_ble_eq_true rfl) ⟨show k + 0 ≤ 601024 by omega, show n + 0 ≤ 7293034 by omega⟩ (by decide +kernel) (fun _ => ?_)
  refine zr_aload_n (i := 2) rfl (by decide +kernel) ?_
  refine zq_arg (j := 1) (jz := 1) rfl (by decide) hii hL rfl rfl (by decide +kernel) (by decide +kernel) (by decide +kernel) (by decide +kernel) (by decide +kernel) ?_
  refine zr_callV (c_X12_end l G am M (xs (ii + 1)) (r, M') e2) (WW' := fun _ => zq_W G am ao A K f pb X R' Ld L2 F F2 P P2 Hi H Lg Pl Sn Ct Sc Tr o0 o1 M') (st := [.int r]) (st' := [.int r, .int r]) [16] rfl rfl (fun _ => Nat.le_of_ble_eq_true rfl) (fun _ => List.append_nil _) rfl rfl nm_X12_end zw_6_205 zw_6_206 zw_6_207 zw_1_18 zw_6_208 rfl rfl rfl (Nat.le_of_ble_eq_true rfl) ⟨show k + 0 + 0 ≤ 601024 by omega, show n + 0 + 0 ≤ 7293034 by omega⟩ (by decide +kernel) (fun _ => ?_)
  refine zr_icmp_eq (off := 1167) (tgt := 1476) (by decide +kernel) (by decide) (fun _ => ?_) (fun h => absurd rfl h)
  exact zr_widen (k2 := k + 20) (n2 := n + 4000) (show k + 0 + 0 ≤ k + 20 by omega) (show n + 0 + 0 ≤ n + 4000 by omega) (hN A K f pb X R' Ld L2 F F2 P P2 Hi H Lg Pl Sn Ct Sc Tr o0 o1 M' hI2 rfl h0 h1)
set_option maxRecDepth 100000 in
set_option maxHeartbeats 4000000 in
theorem e_fault {l : Launch} {G : zj_G} {b L : Nat} {xs : Nat → Int32} {a1 : Nat} {am : Nat → Nat} {ao ii k n : Nat} (hii : ii + 6 ≤ L) (hL : L ≤ 3072) (hk : k ≤ 600000) (hn : n ≤ 7289000) (hN : zq_N l G b L xs a1 am ao ii (k + 20) (n + 4000) 1476) : zq_N l G b L xs a1 am ao ii k n 327 := by
  intro A K f pb X R Ld L2 F F2 P P2 Hi H Lg Pl Sn Ct Sc Tr o0 o1 M hI hA h0 h1
  subst hA
  obtain ⟨r, M', e1, e2, hI2⟩ := s_fault hI  
  refine zr_aload_n (i := 1) rfl (by decide +kernel) ?_
  refine zr_callV (c_X11_fault l G A K X R  r e1) (WW' := fun _ => zq_W G am ao A K f pb X R Ld L2 F F2 P P2 Hi H Lg Pl Sn Ct Sc Tr o0 o1 M) (st := []) (st' := [.int r]) [0, 1] rfl rfl (fun _ => Nat.le_of_ble_eq_true rfl) (fun _ => List.append_nil _) rfl rfl nm_X11_fault zw_3_117 zw_3_118 zw_3_119 zw_1_1 zw_3_120 rfl rfl rfl (Nat.le_of_ble_eq_true rfl) ⟨show k + 0 ≤ 601024 by omega, show n + 0 ≤ 7293034 by omega⟩ (by decide +kernel) (fun _ => ?_)
  refine zr_aload_n (i := 2) rfl (by decide +kernel) ?_
  refine zr_callV (c_X12_fault l G am M  (r, M') e2) (WW' := fun _ => zq_W G am ao A K f pb X R Ld L2 F F2 P P2 Hi H Lg Pl Sn Ct Sc Tr o0 o1 M') (st := [.int r]) (st' := [.int r, .int r]) [16] rfl rfl (fun _ => Nat.le_of_ble_eq_true rfl) (fun _ => List.append_nil _) rfl rfl nm_X12_fault zw_7_88 zw_7_89 zw_7_90 zw_1_18 zw_7_91 rfl rfl rfl (Nat.le_of_ble_eq_true rfl) ⟨show k + 0 + 0 ≤ 601024 by omega, show n + 0 + 0 ≤ 7293034 by omega⟩ (by decide +kernel) (fun _ => ?_)
  refine zr_icmp_eq (off := 1141) (tgt := 1476) (by decide +kernel) (by decide) (fun _ => ?_) (fun h => absurd rfl h)
  exact zr_widen (k2 := k + 20) (n2 := n + 4000) (show k + 0 + 0 ≤ k + 20 by omega) (show n + 0 + 0 ≤ n + 4000 by omega) (hN A K f pb X R Ld L2 F F2 P P2 Hi H Lg Pl Sn Ct Sc Tr o0 o1 M' hI2 rfl h0 h1)
set_option maxRecDepth 100000 in
set_option maxHeartbeats 4000000 in
theorem e_place {l : Launch} {G : zj_G} {b L : Nat} {xs : Nat → Int32} {a1 : Nat} {am : Nat → Nat} {ao ii k n : Nat} (hii : ii + 6 ≤ L) (hL : L ≤ 3072) (hk : k ≤ 600000) (hn : n ≤ 7289000) (hN : zq_N l G b L xs a1 am ao ii (k + 20) (n + 4000) 1476) : zq_N l G b L xs a1 am ao ii k n 340 := by
  intro A K f pb X R Ld L2 F F2 P P2 Hi H Lg Pl Sn Ct Sc Tr o0 o1 M hI hA h0 h1
  subst hA
  obtain ⟨r, M', e1, e2, hI2⟩ := s_place hI  (xs (ii + 1)) (xs (ii + 2))
  refine zr_aload_n (i := 1) rfl (by decide +kernel) ?_
  refine zq_arg (j := 1) (jz := 1) rfl (by decide) hii hL rfl rfl (by decide +kernel) (by decide +kernel) (by decide +kernel) (by decide +kernel) (by decide +kernel) ?_
  refine zq_arg (j := 2) (jz := 2) rfl (by decide) hii hL rfl rfl (by decide +kernel) (by decide +kernel) (by decide +kernel) (by decide +kernel) (by decide +kernel) ?_
  refine zr_callV (c_X11_place l G A K X Ld F (xs (ii + 1)) (xs (ii + 2)) r e1) (WW' := fun _ => zq_W G am ao A K f pb X R Ld L2 F F2 P P2 Hi H Lg Pl Sn Ct Sc Tr o0 o1 M) (st := []) (st' := [.int r]) [0, 2, 4] rfl rfl (fun _ => Nat.le_of_ble_eq_true rfl) (fun _ => List.append_nil _) rfl rfl nm_X11_place zw_3_125 zw_3_126 zw_3_127 zw_1_1 zw_3_128 rfl rfl rfl (Nat.le_of_ble_eq_true rfl) ⟨show k + 0 ≤ 601024 by omega, show n + 0 ≤ 7293034 by omega⟩ (by decide +kernel) (fun _ => ?_)
  refine zr_aload_n (i := 2) rfl (by decide +kernel) ?_
  refine zq_arg (j := 1) (jz := 1) rfl (by decide) hii hL rfl rfl (by decide +kernel) (by decide +kernel) (by decide +kernel) (by decide +kernel) (by decide +kernel) ?_
  refine zq_arg (j := 2) (jz := 2) rfl (by decide) hii hL rfl rfl (by decide +kernel) (by decide +kernel) (by decide +kernel) (by decide +kernel) (by decide +kernel) ?_
  refine zr_callV (c_X12_place l G am M (xs (ii + 1)) (xs (ii + 2)) (r, M') e2) (WW' := fun _ => zq_W G am ao A K f pb X R Ld L2 F F2 P P2 Hi H Lg Pl Sn Ct Sc Tr o0 o1 M') (st := [.int r]) (st' := [.int r, .int r]) [16] rfl rfl (fun _ => Nat.le_of_ble_eq_true rfl) (fun _ => List.append_nil _) rfl rfl nm_X12_place zw_7_92 zw_7_93 zw_7_94 zw_1_18 zw_7_95 rfl rfl rfl (Nat.le_of_ble_eq_true rfl) ⟨show k + 0 + 0 ≤ 601024 by omega, show n + 0 + 0 ≤ 7293034 by omega⟩ (by decide +kernel) (fun _ => ?_)
  refine zr_icmp_eq (off := 1104) (tgt := 1476) (by decide +kernel) (by decide) (fun _ => ?_) (fun h => absurd rfl h)
  exact zr_widen (k2 := k + 20) (n2 := n + 4000) (show k + 0 + 0 ≤ k + 20 by omega) (show n + 0 + 0 ≤ n + 4000 by omega) (hN A K f pb X R Ld L2 F F2 P P2 Hi H Lg Pl Sn Ct Sc Tr o0 o1 M' hI2 rfl h0 h1)
set_option maxRecDepth 100000 in
set_option maxHeartbeats 4000000 in
theorem e_road {l : Launch} {G : zj_G} {b L : Nat} {xs : Nat → Int32} {a1 : Nat} {am : Nat → Nat} {ao ii k n : Nat} (hii : ii + 6 ≤ L) (hL : L ≤ 3072) (hk : k ≤ 600000) (hn : n ≤ 7289000) (hN : zq_N l G b L xs a1 am ao ii (k + 20) (n + 4000) 1476) : zq_N l G b L xs a1 am ao ii k n 377 := by
  intro A K f pb X R Ld L2 F F2 P P2 Hi H Lg Pl Sn Ct Sc Tr o0 o1 M hI hA h0 h1
  subst hA
  obtain ⟨r, M', e1, e2, hI2⟩ := s_road hI  (xs (ii + 1)) (xs (ii + 2)) (xs (ii + 3))
  refine zr_aload_n (i := 1) rfl (by decide +kernel) ?_
  refine zq_arg (j := 1) (jz := 1) rfl (by decide) hii hL rfl rfl (by decide +kernel) (by decide +kernel) (by decide +kernel) (by decide +kernel) (by decide +kernel) ?_
  refine zq_arg (j := 2) (jz := 2) rfl (by decide) hii hL rfl rfl (by decide +kernel) (by decide +kernel) (by decide +kernel) (by decide +kernel) (by decide +kernel) ?_
  refine zq_arg (j := 3) (jz := 3) rfl (by decide) hii hL rfl rfl (by decide +kernel) (by decide +kernel) (by decide +kernel) (by decide +kernel) (by decide +kernel) ?_
  refine zr_callV (c_X11_road l G A K X Ld (xs (ii + 1)) (xs (ii + 2)) (xs (ii + 3)) r e1) (WW' := fun _ => zq_W G am ao A K f pb X R Ld L2 F F2 P P2 Hi H Lg Pl Sn Ct Sc Tr o0 o1 M) (st := []) (st' := [.int r]) [0, 2] rfl rfl (fun _ => Nat.le_of_ble_eq_true rfl) (fun _ => List.append_nil _) rfl rfl nm_X11_road zw_3_146 zw_3_147 zw_3_148 zw_1_1 zw_3_149 rfl rfl rfl (Nat.le_of_ble_eq_true rfl) ⟨show k + 0 ≤ 601024 by omega, show n + 0 ≤ 7293034 by omega⟩ (by decide +kernel) (fun _ => ?_)
  refine zr_aload_n (i := 2) rfl (by decide +kernel) ?_
  refine zq_arg (j := 1) (jz := 1) rfl (by decide) hii hL rfl rfl (by decide +kernel) (by decide +kernel) (by decide +kernel) (by decide +kernel) (by decide +kernel) ?_
  refine zq_arg (j := 2) (jz := 2) rfl (by decide) hii hL rfl rfl (by decide +kernel) (by decide +kernel) (by decide +kernel) (by decide +kernel) (by decide +kernel) ?_
  refine zq_arg (j := 3) (jz := 3) rfl (by decide) hii hL rfl rfl (by decide +kernel) (by decide +kernel) (by decide +kernel) (by decide +kernel) (by decide +kernel) ?_
  refine zr_callV (c_X12_road l G am M (xs (ii + 1)) (xs (ii + 2)) (xs (ii + 3)) (r, M') e2) (WW' := fun _ => zq_W G am ao A K f pb X R Ld L2 F F2 P P2 Hi H Lg Pl Sn Ct Sc Tr o0 o1 M') (st := [.int r]) (st' := [.int r, .int r]) [16] rfl rfl (fun _ => Nat.le_of_ble_eq_true rfl) (fun _ => List.append_nil _) rfl rfl nm_X12_road zw_7_120 zw_7_121 zw_7_122 zw_1_18 zw_7_123 rfl rfl rfl (Nat.le_of_ble_eq_true rfl) ⟨show k + 0 + 0 ≤ 601024 by omega, show n + 0 + 0 ≤ 7293034 by omega⟩ (by decide +kernel) (fun _ => ?_)
  refine zr_icmp_eq (off := 1055) (tgt := 1476) (by decide +kernel) (by decide) (fun _ => ?_) (fun h => absurd rfl h)
  exact zr_widen (k2 := k + 20) (n2 := n + 4000) (show k + 0 + 0 ≤ k + 20 by omega) (show n + 0 + 0 ≤ n + 4000 by omega) (hN A K f pb X R Ld L2 F F2 P P2 Hi H Lg Pl Sn Ct Sc Tr o0 o1 M' hI2 rfl h0 h1)
set_option maxRecDepth 100000 in
set_option maxHeartbeats 4000000 in
theorem e_now {l : Launch} {G : zj_G} {b L : Nat} {xs : Nat → Int32} {a1 : Nat} {am : Nat → Nat} {ao ii k n : Nat} (hii : ii + 6 ≤ L) (hL : L ≤ 3072) (hk : k ≤ 600000) (hn : n ≤ 7289000) (hN : zq_N l G b L xs a1 am ao ii (k + 20) (n + 4000) 1476) : zq_N l G b L xs a1 am ao ii k n 494 := by
  intro A K f pb X R Ld L2 F F2 P P2 Hi H Lg Pl Sn Ct Sc Tr o0 o1 M hI hA h0 h1
  subst hA
  obtain ⟨r, M', e1, e2, hI2⟩ := s_now hI  (xs (ii + 1))
  refine zr_aload_n (i := 1) rfl (by decide +kernel) ?_
  refine zq_arg (j := 1) (jz := 1) rfl (by decide) hii hL rfl rfl (by decide +kernel) (by decide +kernel) (by decide +kernel) (by decide +kernel) (by decide +kernel) ?_
  refine zr_callV (c_X11_now l G A K X F Ld (xs (ii + 1)) r e1) (WW' := fun _ => zq_W G am ao A K f pb X R Ld L2 F F2 P P2 Hi H Lg Pl Sn Ct Sc Tr o0 o1 M) (st := []) (st' := [.int r]) [0, 4, 2] rfl rfl (fun _ => Nat.le_of_ble_eq_true rfl) (fun _ => List.append_nil _) rfl rfl nm_X11_now zw_3_152 zw_3_153 zw_3_154 zw_1_1 zw_3_155 rfl rfl rfl (Nat.le_of_ble_eq_true rfl) ⟨show k + 0 ≤ 601024 by omega, show n + 0 ≤ 7293034 by omega⟩ (by decide +kernel) (fun _ => ?_)
  refine zr_aload_n (i := 2) rfl (by decide +kernel) ?_
  refine zq_arg (j := 1) (jz := 1) rfl (by decide) hii hL rfl rfl (by decide +kernel) (by decide +kernel) (by decide +kernel) (by decide +kernel) (by decide +kernel) ?_
  refine zr_callV (c_X12_now l G am M (xs (ii + 1)) (r, M') e2) (WW' := fun _ => zq_W G am ao A K f pb X R Ld L2 F F2 P P2 Hi H Lg Pl Sn Ct Sc Tr o0 o1 M') (st := [.int r]) (st' := [.int r, .int r]) [16] rfl rfl (fun _ => Nat.le_of_ble_eq_true rfl) (fun _ => List.append_nil _) rfl rfl nm_X12_now zw_7_140 zw_7_141 zw_7_142 zw_1_18 zw_7_143 rfl rfl rfl (Nat.le_of_ble_eq_true rfl) ⟨show k + 0 + 0 ≤ 601024 by omega, show n + 0 + 0 ≤ 7293034 by omega⟩ (by decide +kernel) (fun _ => ?_)
  refine zr_icmp_eq (off := 962) (tgt := 1476) (by decide +kernel) (by decide) (fun _ => ?_) (fun h => absurd rfl h)
  exact zr_widen (k2 := k + 20) (n2 := n + 4000) (show k + 0 + 0 ≤ k + 20 by omega) (show n + 0 + 0 ≤ n + 4000 by omega) (hN A K f pb X R Ld L2 F F2 P P2 Hi H Lg Pl Sn Ct Sc Tr o0 o1 M' hI2 rfl h0 h1)
set_option maxRecDepth 100000 in
set_option maxHeartbeats 4000000 in
theorem e_swear {l : Launch} {G : zj_G} {b L : Nat} {xs : Nat → Int32} {a1 : Nat} {am : Nat → Nat} {ao ii k n : Nat} (hii : ii + 6 ≤ L) (hL : L ≤ 3072) (hk : k ≤ 600000) (hn : n ≤ 7289000) (hN : zq_N l G b L xs a1 am ao ii (k + 20) (n + 4000) 1476) : zq_N l G b L xs a1 am ao ii k n 519 := by
  intro A K f pb X R Ld L2 F F2 P P2 Hi H Lg Pl Sn Ct Sc Tr o0 o1 M hI hA h0 h1
  subst hA
  obtain ⟨r, K2', K', Hi', H', M', e1, e2, hI2⟩ := s_swear hI F2 (xs (ii + 1)) (xs (ii + 2)) (xs (ii + 3))
  refine zr_aload_n (i := 1) rfl (by decide +kernel) ?_
  refine zq_arg (j := 1) (jz := 1) rfl (by decide) hii hL rfl rfl (by decide +kernel) (by decide +kernel) (by decide +kernel) (by decide +kernel) (by decide +kernel) ?_
  refine zq_arg (j := 2) (jz := 2) rfl (by decide) hii hL rfl rfl (by decide +kernel) (by decide +kernel) (by decide +kernel) (by decide +kernel) (by decide +kernel) ?_
  refine zq_arg (j := 3) (jz := 3) rfl (by decide) hii hL rfl rfl (by decide +kernel) (by decide +kernel) (by decide +kernel) (by decide +kernel) (by decide +kernel) ?_
  refine zr_callV (c_X11_swear l G A K X Ld F2 F Hi H (xs (ii + 1)) (xs (ii + 2)) (xs (ii + 3)) (r, K2', K', Hi', H') e1) (WW' := fun _ => zq_W G am ao A K f pb X R Ld L2 K' K2' P P2 Hi' H' Lg Pl Sn Ct Sc Tr o0 o1 M) (st := []) (st' := [.int r]) [0, 2, 5, 4, 8, 9] rfl rfl (fun _ => Nat.le_of_ble_eq_true rfl) (fun _ => List.append_nil _) rfl rfl nm_X11_swear zw_3_164 zw_3_165 zw_3_166 zw_1_1 zw_3_167 rfl rfl rfl (Nat.le_of_ble_eq_true rfl) ⟨show k + 0 ≤ 601024 by omega, show n + 0 ≤ 7293034 by omega⟩ (by decide +kernel) (fun _ => ?_)
  refine zr_aload_n (i := 2) rfl (by decide +kernel) ?_
  refine zq_arg (j := 1) (jz := 1) rfl (by decide) hii hL rfl rfl (by decide +kernel) (by decide +kernel) (by decide +kernel) (by decide +kernel) (by decide +kernel) ?_
  refine zq_arg (j := 2) (jz := 2) rfl (by decide) hii hL rfl rfl (by decide +kernel) (by decide +kernel) (by decide +kernel) (by decide +kernel) (by decide +kernel) ?_
  refine zq_arg (j := 3) (jz := 3) rfl (by decide) hii hL rfl rfl (by decide +kernel) (by decide +kernel) (by decide +kernel) (by decide +kernel) (by decide +kernel) ?_
  refine zr_callV (c_X12_swear l G am M (xs (ii + 1)) (xs (ii + 2)) (xs (ii + 3)) (r, M') e2) (WW' := fun _ => zq_W G am ao A K f pb X R Ld L2 K' K2' P P2 Hi' H' Lg Pl Sn Ct Sc Tr o0 o1 M') (st := [.int r]) (st' := [.int r, .int r]) [16] rfl rfl (fun _ => Nat.le_of_ble_eq_true rfl) (fun _ => List.append_nil _) rfl rfl nm_X12_swear zw_7_148 zw_7_149 zw_7_150 zw_1_18 zw_7_151 rfl rfl rfl (Nat.le_of_ble_eq_true rfl) ⟨show k + 0 + 0 ≤ 601024 by omega, show n + 0 + 0 ≤ 7293034 by omega⟩ (by decide +kernel) (fun _ => ?_)
  refine zr_icmp_eq (off := 913) (tgt := 1476) (by decide +kernel) (by decide) (fun _ => ?_) (fun h => absurd rfl h)
  exact zr_widen (k2 := k + 20) (n2 := n + 4000) (show k + 0 + 0 ≤ k + 20 by omega) (show n + 0 + 0 ≤ n + 4000 by omega) (hN A K f pb X R Ld L2 K' K2' P P2 Hi' H' Lg Pl Sn Ct Sc Tr o0 o1 M' hI2 rfl h0 h1)
set_option maxRecDepth 100000 in
set_option maxHeartbeats 4000000 in
theorem e_order {l : Launch} {G : zj_G} {b L : Nat} {xs : Nat → Int32} {a1 : Nat} {am : Nat → Nat} {ao ii k n : Nat} (hii : ii + 6 ≤ L) (hL : L ≤ 3072) (hk : k ≤ 600000) (hn : n ≤ 7289000) (hN : zq_N l G b L xs a1 am ao ii (k + 20) (n + 4000) 1476) : zq_N l G b L xs a1 am ao ii k n 568 := by
  intro A K f pb X R Ld L2 F F2 P P2 Hi H Lg Pl Sn Ct Sc Tr o0 o1 M hI hA h0 h1
  subst hA
  obtain ⟨r, K2', K', Hi', H', M', e1, e2, hI2⟩ := s_order hI F2 (xs (ii + 1)) (xs (ii + 2))
  refine zr_aload_n (i := 1) rfl (by decide +kernel) ?_
  refine zq_arg (j := 1) (jz := 1) rfl (by decide) hii hL rfl rfl (by decide +kernel) (by decide +kernel) (by decide +kernel) (by decide +kernel) (by decide +kernel) ?_
  refine zq_arg (j := 2) (jz := 2) rfl (by decide) hii hL rfl rfl (by decide +kernel) (by decide +kernel) (by decide +kernel) (by decide +kernel) (by decide +kernel) ?_
  refine zr_callV (c_X11_order l G A K X Ld F2 F Hi H (xs (ii + 1)) (xs (ii + 2)) (r, K2', K', Hi', H') e1) (WW' := fun _ => zq_W G am ao A K f pb X R Ld L2 K' K2' P P2 Hi' H' Lg Pl Sn Ct Sc Tr o0 o1 M) (st := []) (st' := [.int r]) [0, 2, 5, 4, 8, 9] rfl rfl (fun _ => Nat.le_of_ble_eq_true rfl) (fun _ => List.append_nil _) rfl rfl nm_X11_order zw_3_202 zw_3_203 zw_3_204 zw_1_1 zw_3_205 rfl rfl rfl (Nat.le_of_ble_eq_true rfl) ⟨show k + 0 ≤ 601024 by omega, show n + 0 ≤ 7293034 by omega⟩ (by decide +kernel) (fun _ => ?_)
  refine zr_aload_n (i := 2) rfl (by decide +kernel) ?_
  refine zq_arg (j := 1) (jz := 1) rfl (by decide) hii hL rfl rfl (by decide +kernel) (by decide +kernel) (by decide +kernel) (by decide +kernel) (by decide +kernel) ?_
  refine zq_arg (j := 2) (jz := 2) rfl (by decide) hii hL rfl rfl (by decide +kernel) (by decide +kernel) (by decide +kernel) (by decide +kernel) (by decide +kernel) ?_
  refine zr_callV (c_X12_order l G am M (xs (ii + 1)) (xs (ii + 2)) (r, M') e2) (WW' := fun _ => zq_W G am ao A K f pb X R Ld L2 K' K2' P P2 Hi' H' Lg Pl Sn Ct Sc Tr o0 o1 M') (st := [.int r]) (st' := [.int r, .int r]) [16] rfl rfl (fun _ => Nat.le_of_ble_eq_true rfl) (fun _ => List.append_nil _) rfl rfl nm_X12_order zw_7_188 zw_7_189 zw_7_190 zw_1_18 zw_7_191 rfl rfl rfl (Nat.le_of_ble_eq_true rfl) ⟨show k + 0 + 0 ≤ 601024 by omega, show n + 0 + 0 ≤ 7293034 by omega⟩ (by decide +kernel) (fun _ => ?_)
  refine zr_icmp_eq (off := 876) (tgt := 1476) (by decide +kernel) (by decide) (fun _ => ?_) (fun h => absurd rfl h)
  exact zr_widen (k2 := k + 20) (n2 := n + 4000) (show k + 0 + 0 ≤ k + 20 by omega) (show n + 0 + 0 ≤ n + 4000 by omega) (hN A K f pb X R Ld L2 K' K2' P P2 Hi' H' Lg Pl Sn Ct Sc Tr o0 o1 M' hI2 rfl h0 h1)
set_option maxRecDepth 100000 in
set_option maxHeartbeats 4000000 in
theorem e_slip {l : Launch} {G : zj_G} {b L : Nat} {xs : Nat → Int32} {a1 : Nat} {am : Nat → Nat} {ao ii k n : Nat} (hii : ii + 6 ≤ L) (hL : L ≤ 3072) (hk : k ≤ 600000) (hn : n ≤ 7289000) (hN : zq_N l G b L xs a1 am ao ii (k + 20) (n + 4000) 1476) : zq_N l G b L xs a1 am ao ii k n 605 := by
  intro A K f pb X R Ld L2 F F2 P P2 Hi H Lg Pl Sn Ct Sc Tr o0 o1 M hI hA h0 h1
  subst hA
  obtain ⟨r, K2', K', Hi', H', M', e1, e2, hI2⟩ := s_slip hI F2 (xs (ii + 1))
  refine zr_aload_n (i := 1) rfl (by decide +kernel) ?_
  refine zq_arg (j := 1) (jz := 1) rfl (by decide) hii hL rfl rfl (by decide +kernel) (by decide +kernel) (by decide +kernel) (by decide +kernel) (by decide +kernel) ?_
  refine zr_callV (c_X11_slip l G A K X Ld F2 F Hi H (xs (ii + 1)) (r, K2', K', Hi', H') e1) (WW' := fun _ => zq_W G am ao A K f pb X R Ld L2 K' K2' P P2 Hi' H' Lg Pl Sn Ct Sc Tr o0 o1 M) (st := []) (st' := [.int r]) [0, 2, 5, 4, 8, 9] rfl rfl (fun _ => Nat.le_of_ble_eq_true rfl) (fun _ => List.append_nil _) rfl rfl nm_X11_slip zw_3_210 zw_3_211 zw_3_212 zw_1_1 zw_3_213 rfl rfl rfl (Nat.le_of_ble_eq_true rfl) ⟨show k + 0 ≤ 601024 by omega, show n + 0 ≤ 7293034 by omega⟩ (by decide +kernel) (fun _ => ?_)
  refine zr_aload_n (i := 2) rfl (by decide +kernel) ?_
  refine zq_arg (j := 1) (jz := 1) rfl (by decide) hii hL rfl rfl (by decide +kernel) (by decide +kernel) (by decide +kernel) (by decide +kernel) (by decide +kernel) ?_
  refine zr_callV (c_X12_slip l G am M (xs (ii + 1)) (r, M') e2) (WW' := fun _ => zq_W G am ao A K f pb X R Ld L2 K' K2' P P2 Hi' H' Lg Pl Sn Ct Sc Tr o0 o1 M') (st := [.int r]) (st' := [.int r, .int r]) [16] rfl rfl (fun _ => Nat.le_of_ble_eq_true rfl) (fun _ => List.append_nil _) rfl rfl nm_X12_slip zw_7_192 zw_7_193 zw_7_194 zw_1_18 zw_7_195 rfl rfl rfl (Nat.le_of_ble_eq_true rfl) ⟨show k + 0 + 0 ≤ 601024 by omega, show n + 0 + 0 ≤ 7293034 by omega⟩ (by decide +kernel) (fun _ => ?_)
  refine zr_icmp_eq (off := 851) (tgt := 1476) (by decide +kernel) (by decide) (fun _ => ?_) (fun h => absurd rfl h)
  exact zr_widen (k2 := k + 20) (n2 := n + 4000) (show k + 0 + 0 ≤ k + 20 by omega) (show n + 0 + 0 ≤ n + 4000 by omega) (hN A K f pb X R Ld L2 K' K2' P P2 Hi' H' Lg Pl Sn Ct Sc Tr o0 o1 M' hI2 rfl h0 h1)
set_option maxRecDepth 100000 in
set_option maxHeartbeats 4000000 in
theorem e_enter {l : Launch} {G : zj_G} {b L : Nat} {xs : Nat → Int32} {a1 : Nat} {am : Nat → Nat} {ao ii k n : Nat} (hii : ii + 6 ≤ L) (hL : L ≤ 3072) (hk : k ≤ 600000) (hn : n ≤ 7289000) (hN : zq_N l G b L xs a1 am ao ii (k + 20) (n + 4000) 1476) : zq_N l G b L xs a1 am ao ii k n 630 := by
  intro A K f pb X R Ld L2 F F2 P P2 Hi H Lg Pl Sn Ct Sc Tr o0 o1 M hI hA h0 h1
  subst hA
  obtain ⟨r, K2', K', Hi', H', M', e1, e2, hI2⟩ := s_enter hI F2 (xs (ii + 1))
  refine zr_aload_n (i := 1) rfl (by decide +kernel) ?_
  refine zq_arg (j := 1) (jz := 1) rfl (by decide) hii hL rfl rfl (by decide +kernel) (by decide +kernel) (by decide +kernel) (by decide +kernel) (by decide +kernel) ?_
  refine zr_callV (c_X11_enter l G A K X Ld F2 F Hi H (xs (ii + 1)) (r, K2', K', Hi', H') e1) (WW' := fun _ => zq_W G am ao A K f pb X R Ld L2 K' K2' P P2 Hi' H' Lg Pl Sn Ct Sc Tr o0 o1 M) (st := []) (st' := [.int r]) [0, 2, 5, 4, 8, 9] rfl rfl (fun _ => Nat.le_of_ble_eq_true rfl) (fun _ => List.append_nil _) rfl rfl nm_X11_enter zw_3_218 zw_3_219 zw_3_220 zw_1_1 zw_3_221 rfl rfl rfl (Nat.le_of_ble_eq_true rfl) ⟨show k + 0 ≤ 601024 by omega, show n + 0 ≤ 7293034 by omega⟩ (by decide +kernel) (fun _ => ?_)
  refine zr_aload_n (i := 2) rfl (by decide +kernel) ?_
  refine zq_arg (j := 1) (jz := 1) rfl (by decide) hii hL rfl rfl (by decide +kernel) (by decide +kernel) (by decide +kernel) (by decide +kernel) (by decide +kernel) ?_
  refine zr_callV (c_X12_enter l G am M (xs (ii + 1)) (r, M') e2) (WW' := fun _ => zq_W G am ao A K f pb X R Ld L2 K' K2' P P2 Hi' H' Lg Pl Sn Ct Sc Tr o0 o1 M') (st := [.int r]) (st' := [.int r, .int r]) [16] rfl rfl (fun _ => Nat.le_of_ble_eq_true rfl) (fun _ => List.append_nil _) rfl rfl nm_X12_enter zw_7_196 zw_7_197 zw_7_198 zw_1_18 zw_7_199 rfl rfl rfl (Nat.le_of_ble_eq_true rfl) ⟨show k + 0 + 0 ≤ 601024 by omega, show n + 0 + 0 ≤ 7293034 by omega⟩ (by decide +kernel) (fun _ => ?_)
  refine zr_icmp_eq (off := 826) (tgt := 1476) (by decide +kernel) (by decide) (fun _ => ?_) (fun h => absurd rfl h)
  exact zr_widen (k2 := k + 20) (n2 := n + 4000) (show k + 0 + 0 ≤ k + 20 by omega) (show n + 0 + 0 ≤ n + 4000 by omega) (hN A K f pb X R Ld L2 K' K2' P P2 Hi' H' Lg Pl Sn Ct Sc Tr o0 o1 M' hI2 rfl h0 h1)
set_option maxRecDepth 100000 in
set_option maxHeartbeats 4000000 in
theorem e_get {l : Launch} {G : zj_G} {b L : Nat} {xs : Nat → Int32} {a1 : Nat} {am : Nat → Nat} {ao ii k n : Nat} (hii : ii + 6 ≤ L) (hL : L ≤ 3072) (hk : k ≤ 600000) (hn : n ≤ 7289000) (hN : zq_N l G b L xs a1 am ao ii (k + 20) (n + 4000) 1476) : zq_N l G b L xs a1 am ao ii k n 655 := by
  intro A K f pb X R Ld L2 F F2 P P2 Hi H Lg Pl Sn Ct Sc Tr o0 o1 M hI hA h0 h1
  subst hA
  obtain ⟨r, K2', K', Hi', H', M', e1, e2, hI2⟩ := s_get hI F2 (xs (ii + 1)) (xs (ii + 2))
  refine zr_aload_n (i := 1) rfl (by decide +kernel) ?_
  refine zq_arg (j := 1) (jz := 1) rfl (by decide) hii hL rfl rfl (by decide +kernel) (by decide +kernel) (by decide +kernel) (by decide +kernel) (by decide +kernel) ?_
  refine zq_arg (j := 2) (jz := 2) rfl (by decide) hii hL rfl rfl (by decide +kernel) (by decide +kernel) (by decide +kernel) (by decide +kernel) (by decide +kernel) ?_
  refine zr_callV (c_X11_get l G A K X Ld F2 F Hi H (xs (ii + 1)) (xs (ii + 2)) (r, K2', K', Hi', H') e1) (WW' := fun _ => zq_W G am ao A K f pb X R Ld L2 K' K2' P P2 Hi' H' Lg Pl Sn Ct Sc Tr o0 o1 M) (st := []) (st' := [.int r]) [0, 2, 5, 4, 8, 9] rfl rfl (fun _ => Nat.le_of_ble_eq_true rfl) (fun _ => List.append_nil _) rfl rfl nm_X11_get zw_3_227 zw_3_228 zw_3_229 zw_1_1 zw_3_230 rfl rfl rfl (Nat.le_of_ble_eq_true rfl) ⟨show k + 0 ≤ 601024 by omega, show n + 0 ≤ 7293034 by omega⟩ (by decide +kernel) (fun _ => ?_)
  refine zr_aload_n (i := 2) rfl (by decide +kernel) ?_
  refine zq_arg (j := 1) (jz := 1) rfl (by decide) hii hL rfl rfl (by decide +kernel) (by decide +kernel) (by decide +kernel) (by decide +kernel) (by decide +kernel) ?_
  refine zq_arg (j := 2) (jz := 2) rfl (by decide) hii hL rfl rfl (by decide +kernel) (by decide +kernel) (by decide +kernel) (by decide +kernel) (by decide +kernel) ?_
  refine zr_callV (c_X12_get l G am M (xs (ii + 1)) (xs (ii + 2)) (r, M') e2) (WW' := fun _ => zq_W G am ao A K f pb X R Ld L2 K' K2' P P2 Hi' H' Lg Pl Sn Ct Sc Tr o0 o1 M') (st := [.int r]) (st' := [.int r, .int r]) [16] rfl rfl (fun _ => Nat.le_of_ble_eq_true rfl) (fun _ => List.append_nil _) rfl rfl nm_X12_get zw_7_200 zw_7_201 zw_7_202 zw_1_18 zw_7_203 rfl rfl rfl (Nat.le_of_ble_eq_true rfl) ⟨show k + 0 + 0 ≤ 601024 by omega, show n + 0 + 0 ≤ 7293034 by omega⟩ (by decide +kernel) (fun _ => ?_)
  refine zr_icmp_eq (off := 789) (tgt := 1476) (by decide +kernel) (by decide) (fun _ => ?_) (fun h => absurd rfl h)
  exact zr_widen (k2 := k + 20) (n2 := n + 4000) (show k + 0 + 0 ≤ k + 20 by omega) (show n + 0 + 0 ≤ n + 4000 by omega) (hN A K f pb X R Ld L2 K' K2' P P2 Hi' H' Lg Pl Sn Ct Sc Tr o0 o1 M' hI2 rfl h0 h1)
set_option maxRecDepth 100000 in
set_option maxHeartbeats 4000000 in
theorem e_days {l : Launch} {G : zj_G} {b L : Nat} {xs : Nat → Int32} {a1 : Nat} {am : Nat → Nat} {ao ii k n : Nat} (hii : ii + 6 ≤ L) (hL : L ≤ 3072) (hk : k ≤ 600000) (hn : n ≤ 7289000) (hN : zq_N l G b L xs a1 am ao ii (k + 20) (n + 4000) 1476) : zq_N l G b L xs a1 am ao ii k n 692 := by
  intro A K f pb X R Ld L2 F F2 P P2 Hi H Lg Pl Sn Ct Sc Tr o0 o1 M hI hA h0 h1
  subst hA
  obtain ⟨r, K2', K', Hi', H', M', e1, e2, hI2⟩ := s_days hI F2 (xs (ii + 1)) (xs (ii + 2))
  refine zr_aload_n (i := 1) rfl (by decide +kernel) ?_
  refine zq_arg (j := 1) (jz := 1) rfl (by decide) hii hL rfl rfl (by decide +kernel) (by decide +kernel) (by decide +kernel) (by decide +kernel) (by decide +kernel) ?_
  refine zq_arg (j := 2) (jz := 2) rfl (by decide) hii hL rfl rfl (by decide +kernel) (by decide +kernel) (by decide +kernel) (by decide +kernel) (by decide +kernel) ?_
  refine zr_callV (c_X11_days l G A K X F2 F Ld Hi H (xs (ii + 1)) (xs (ii + 2)) (r, K2', K', Hi', H') e1) (WW' := fun _ => zq_W G am ao A K f pb X R Ld L2 K' K2' P P2 Hi' H' Lg Pl Sn Ct Sc Tr o0 o1 M) (st := []) (st' := [.int r]) [0, 5, 4, 2, 8, 9] rfl rfl (fun _ => Nat.le_of_ble_eq_true rfl) (fun _ => List.append_nil _) rfl rfl nm_X11_days zw_3_238 zw_3_239 zw_4_0 zw_1_1 zw_4_1 rfl rfl rfl (Nat.le_of_ble_eq_true rfl) ⟨show k + 0 ≤ 601024 by omega, show n + 0 ≤ 7293034 by omega⟩ (by decide +kernel) (fun _ => ?_)
  refine zr_aload_n (i := 2) rfl (by decide +kernel) ?_
  refine zq_arg (j := 1) (jz := 1) rfl (by decide) hii hL rfl rfl (by decide +kernel) (by decide +kernel) (by decide +kernel) (by decide +kernel) (by decide +kernel) ?_
  refine zq_arg (j := 2) (jz := 2) rfl (by decide) hii hL rfl rfl (by decide +kernel) (by decide +kernel) (by decide +kernel) (by decide +kernel) (by decide +kernel) ?_
  refine zr_callV (c_X12_days l G am M (xs (ii + 1)) (xs (ii + 2)) (r, M') e2) (WW' := fun _ => zq_W G am ao A K f pb X R Ld L2 K' K2' P P2 Hi' H' Lg Pl Sn Ct Sc Tr o0 o1 M') (st := [.int r]) (st' := [.int r, .int r]) [16] rfl rfl (fun _ => Nat.le_of_ble_eq_true rfl) (fun _ => List.append_nil _) rfl rfl nm_X12_days zw_7_208 zw_7_209 zw_7_210 zw_1_18 zw_7_211 rfl rfl rfl (Nat.le_of_ble_eq_true rfl) ⟨show k + 0 + 0 ≤ 601024 by omega, show n + 0 + 0 ≤ 7293034 by omega⟩ (by decide +kernel) (fun _ => ?_)
  refine zr_icmp_eq (off := 752) (tgt := 1476) (by decide +kernel) (by decide) (fun _ => ?_) (fun h => absurd rfl h)
  exact zr_widen (k2 := k + 20) (n2 := n + 4000) (show k + 0 + 0 ≤ k + 20 by omega) (show n + 0 + 0 ≤ n + 4000 by omega) (hN A K f pb X R Ld L2 K' K2' P P2 Hi' H' Lg Pl Sn Ct Sc Tr o0 o1 M' hI2 rfl h0 h1)
set_option maxRecDepth 100000 in
set_option maxHeartbeats 4000000 in
theorem e_undo {l : Launch} {G : zj_G} {b L : Nat} {xs : Nat → Int32} {a1 : Nat} {am : Nat → Nat} {ao ii k n : Nat} (hii : ii + 6 ≤ L) (hL : L ≤ 3072) (hk : k ≤ 600000) (hn : n ≤ 7289000) (hN : zq_N l G b L xs a1 am ao ii (k + 20) (n + 4000) 1476) : zq_N l G b L xs a1 am ao ii k n 729 := by
  intro A K f pb X R Ld L2 F F2 P P2 Hi H Lg Pl Sn Ct Sc Tr o0 o1 M hI hA h0 h1
  subst hA
  obtain ⟨r, Hi', K', M', e1, e2, hI2⟩ := s_undo hI  
  refine zr_aload_n (i := 1) rfl (by decide +kernel) ?_
  refine zr_callV (c_X11_undo l G A K X Hi F H  (r, Hi', K') e1) (WW' := fun _ => zq_W G am ao A K f pb X R Ld L2 K' F2 P P2 Hi' H Lg Pl Sn Ct Sc Tr o0 o1 M) (st := []) (st' := [.int r]) [0, 8, 4, 9] rfl rfl (fun _ => Nat.le_of_ble_eq_true rfl) (fun _ => List.append_nil _) rfl rfl nm_X11_undo zw_4_53 zw_4_54 zw_4_55 zw_1_1 zw_4_56 rfl rfl rfl (Nat.le_of_ble_eq_true rfl) ⟨show k + 0 ≤ 601024 by omega, show n + 0 ≤ 7293034 by omega⟩ (by decide +kernel) (fun _ => ?_)
  refine zr_aload_n (i := 2) rfl (by decide +kernel) ?_
  refine zr_callV (c_X12_undo l G am M  (r, M') e2) (WW' := fun _ => zq_W G am ao A K f pb X R Ld L2 K' F2 P P2 Hi' H Lg Pl Sn Ct Sc Tr o0 o1 M') (st := [.int r]) (st' := [.int r, .int r]) [16] rfl rfl (fun _ => Nat.le_of_ble_eq_true rfl) (fun _ => List.append_nil _) rfl rfl nm_X12_undo zw_7_204 zw_7_205 zw_7_206 zw_1_18 zw_7_207 rfl rfl rfl (Nat.le_of_ble_eq_true rfl) ⟨show k + 0 + 0 ≤ 601024 by omega, show n + 0 + 0 ≤ 7293034 by omega⟩ (by decide +kernel) (fun _ => ?_)
  refine zr_icmp_eq (off := 739) (tgt := 1476) (by decide +kernel) (by decide) (fun _ => ?_) (fun h => absurd rfl h)
  exact zr_widen (k2 := k + 20) (n2 := n + 4000) (show k + 0 + 0 ≤ k + 20 by omega) (show n + 0 + 0 ≤ n + 4000 by omega) (hN A K f pb X R Ld L2 K' F2 P P2 Hi' H Lg Pl Sn Ct Sc Tr o0 o1 M' hI2 rfl h0 h1)
set_option maxRecDepth 100000 in
set_option maxHeartbeats 4000000 in
theorem e_far {l : Launch} {G : zj_G} {b L : Nat} {xs : Nat → Int32} {a1 : Nat} {am : Nat → Nat} {ao ii k n : Nat} (hii : ii + 6 ≤ L) (hL : L ≤ 3072) (hk : k ≤ 600000) (hn : n ≤ 7289000) (hN : zq_N l G b L xs a1 am ao ii (k + 20) (n + 4000) 1476) : zq_N l G b L xs a1 am ao ii k n 742 := by
  intro A K f pb X R Ld L2 F F2 P P2 Hi H Lg Pl Sn Ct Sc Tr o0 o1 M hI hA h0 h1
  subst hA
  obtain ⟨r, M', e1, e2, hI2⟩ := s_far hI  (xs (ii + 1)) (xs (ii + 2))
  refine zr_aload_n (i := 1) rfl (by decide +kernel) ?_
  refine zq_arg (j := 1) (jz := 1) rfl (by decide) hii hL rfl rfl (by decide +kernel) (by decide +kernel) (by decide +kernel) (by decide +kernel) (by decide +kernel) ?_
  refine zq_arg (j := 2) (jz := 2) rfl (by decide) hii hL rfl rfl (by decide +kernel) (by decide +kernel) (by decide +kernel) (by decide +kernel) (by decide +kernel) ?_
  refine zr_callV (c_X11_far l G A K X Ld (xs (ii + 1)) (xs (ii + 2)) r e1) (WW' := fun _ => zq_W G am ao A K f pb X R Ld L2 F F2 P P2 Hi H Lg Pl Sn Ct Sc Tr o0 o1 M) (st := []) (st' := [.int r]) [0, 2] rfl rfl (fun _ => Nat.le_of_ble_eq_true rfl) (fun _ => List.append_nil _) rfl rfl nm_X11_far zw_4_61 zw_4_62 zw_4_63 zw_1_1 zw_4_64 rfl rfl rfl (Nat.le_of_ble_eq_true rfl) ⟨show k + 0 ≤ 601024 by omega, show n + 0 ≤ 7293034 by omega⟩ (by decide +kernel) (fun _ => ?_)
  refine zr_aload_n (i := 2) rfl (by decide +kernel) ?_
  refine zq_arg (j := 1) (jz := 1) rfl (by decide) hii hL rfl rfl (by decide +kernel) (by decide +kernel) (by decide +kernel) (by decide +kernel) (by decide +kernel) ?_
  refine zq_arg (j := 2) (jz := 2) rfl (by decide) hii hL rfl rfl (by decide +kernel) (by decide +kernel) (by decide +kernel) (by decide +kernel) (by decide +kernel) ?_
  refine zr_callV (c_X12_far l G am M (xs (ii + 1)) (xs (ii + 2)) (r, M') e2) (WW' := fun _ => zq_W G am ao A K f pb X R Ld L2 F F2 P P2 Hi H Lg Pl Sn Ct Sc Tr o0 o1 M') (st := [.int r]) (st' := [.int r, .int r]) [16] rfl rfl (fun _ => Nat.le_of_ble_eq_true rfl) (fun _ => List.append_nil _) rfl rfl nm_X12_far zw_8_1 zw_8_2 zw_8_3 zw_1_18 zw_8_4 rfl rfl rfl (Nat.le_of_ble_eq_true rfl) ⟨show k + 0 + 0 ≤ 601024 by omega, show n + 0 + 0 ≤ 7293034 by omega⟩ (by decide +kernel) (fun _ => ?_)
  refine zr_icmp_eq (off := 702) (tgt := 1476) (by decide +kernel) (by decide) (fun _ => ?_) (fun h => absurd rfl h)
  exact zr_widen (k2 := k + 20) (n2 := n + 4000) (show k + 0 + 0 ≤ k + 20 by omega) (show n + 0 + 0 ≤ n + 4000 by omega) (hN A K f pb X R Ld L2 F F2 P P2 Hi H Lg Pl Sn Ct Sc Tr o0 o1 M' hI2 rfl h0 h1)
set_option maxRecDepth 100000 in
set_option maxHeartbeats 4000000 in
theorem e_way {l : Launch} {G : zj_G} {b L : Nat} {xs : Nat → Int32} {a1 : Nat} {am : Nat → Nat} {ao ii k n : Nat} (hii : ii + 6 ≤ L) (hL : L ≤ 3072) (hk : k ≤ 600000) (hn : n ≤ 7289000) (hN : zq_N l G b L xs a1 am ao ii (k + 20) (n + 4000) 1476) : zq_N l G b L xs a1 am ao ii k n 779 := by
  intro A K f pb X R Ld L2 F F2 P P2 Hi H Lg Pl Sn Ct Sc Tr o0 o1 M hI hA h0 h1
  subst hA
  obtain ⟨r, X', M', e1, e2, hI2⟩ := s_way hI  (xs (ii + 1)) (xs (ii + 2))
  refine zr_aload_n (i := 1) rfl (by decide +kernel) ?_
  refine zq_arg (j := 1) (jz := 1) rfl (by decide) hii hL rfl rfl (by decide +kernel) (by decide +kernel) (by decide +kernel) (by decide +kernel) (by decide +kernel) ?_
  refine zq_arg (j := 2) (jz := 2) rfl (by decide) hii hL rfl rfl (by decide +kernel) (by decide +kernel) (by decide +kernel) (by decide +kernel) (by decide +kernel) ?_
  refine zr_callV (c_X11_way l G A K X Ld (xs (ii + 1)) (xs (ii + 2)) (r, X') e1) (WW' := fun _ => zq_W G am ao A K f pb X' R Ld L2 F F2 P P2 Hi H Lg Pl Sn Ct Sc Tr o0 o1 M) (st := []) (st' := [.int r]) [0, 2] rfl rfl (fun _ => Nat.le_of_ble_eq_true rfl) (fun _ => List.append_nil _) rfl rfl nm_X11_way zw_4_67 zw_4_68 zw_4_69 zw_1_1 zw_4_70 rfl rfl rfl (Nat.le_of_ble_eq_true rfl) ⟨show k + 0 ≤ 601024 by omega, show n + 0 ≤ 7293034 by omega⟩ (by decide +kernel) (fun _ => ?_)
  refine zr_aload_n (i := 2) rfl (by decide +kernel) ?_
  refine zq_arg (j := 1) (jz := 1) rfl (by decide) hii hL rfl rfl (by decide +kernel) (by decide +kernel) (by decide +kernel) (by decide +kernel) (by decide +kernel) ?_
  refine zq_arg (j := 2) (jz := 2) rfl (by decide) hii hL rfl rfl (by decide +kernel) (by decide +kernel) (by decide +kernel) (by decide +kernel) (by decide +kernel) ?_
  refine zr_callV (c_X12_way l G am M (xs (ii + 1)) (xs (ii + 2)) (r, M') e2) (WW' := fun _ => zq_W G am ao A K f pb X' R Ld L2 F F2 P P2 Hi H Lg Pl Sn Ct Sc Tr o0 o1 M') (st := [.int r]) (st' := [.int r, .int r]) [16] rfl rfl (fun _ => Nat.le_of_ble_eq_true rfl) (fun _ => List.append_nil _) rfl rfl nm_X12_way zw_8_5 zw_8_6 zw_8_7 zw_1_18 zw_8_8 rfl rfl rfl (Nat.le_of_ble_eq_true rfl) ⟨show k + 0 + 0 ≤ 601024 by omega, show n + 0 + 0 ≤ 7293034 by omega⟩ (by decide +kernel) (fun _ => ?_)
  refine zr_icmp_eq (off := 665) (tgt := 1476) (by decide +kernel) (by decide) (fun _ => ?_) (fun h => absurd rfl h)
  exact zr_widen (k2 := k + 20) (n2 := n + 4000) (show k + 0 + 0 ≤ k + 20 by omega) (show n + 0 + 0 ≤ n + 4000 by omega) (hN A K f pb X' R Ld L2 F F2 P P2 Hi H Lg Pl Sn Ct Sc Tr o0 o1 M' hI2 rfl h0 h1)
set_option maxRecDepth 100000 in
set_option maxHeartbeats 4000000 in
theorem e_wayAt {l : Launch} {G : zj_G} {b L : Nat} {xs : Nat → Int32} {a1 : Nat} {am : Nat → Nat} {ao ii k n : Nat} (hii : ii + 6 ≤ L) (hL : L ≤ 3072) (hk : k ≤ 600000) (hn : n ≤ 7289000) (hN : zq_N l G b L xs a1 am ao ii (k + 20) (n + 4000) 1476) : zq_N l G b L xs a1 am ao ii k n 816 := by
  intro A K f pb X R Ld L2 F F2 P P2 Hi H Lg Pl Sn Ct Sc Tr o0 o1 M hI hA h0 h1
  subst hA
  obtain ⟨r, M', e1, e2, hI2⟩ := s_wayAt hI  (xs (ii + 1))
  refine zr_aload_n (i := 1) rfl (by decide +kernel) ?_
  refine zq_arg (j := 1) (jz := 1) rfl (by decide) hii hL rfl rfl (by decide +kernel) (by decide +kernel) (by decide +kernel) (by decide +kernel) (by decide +kernel) ?_
  refine zr_callV (c_X11_wayAt l G A K X (xs (ii + 1)) r e1) (WW' := fun _ => zq_W G am ao A K f pb X R Ld L2 F F2 P P2 Hi H Lg Pl Sn Ct Sc Tr o0 o1 M) (st := []) (st' := [.int r]) [0] rfl rfl (fun _ => Nat.le_of_ble_eq_true rfl) (fun _ => List.append_nil _) rfl rfl nm_X11_wayAt zw_4_72 zw_4_73 zw_4_74 zw_1_1 zw_4_75 rfl rfl rfl (Nat.le_of_ble_eq_true rfl) ⟨show k + 0 ≤ 601024 by omega, show n + 0 ≤ 7293034 by omega⟩ (by decide +kernel) (fun _ => ?_)
  refine zr_aload_n (i := 2) rfl (by decide +kernel) ?_
  refine zq_arg (j := 1) (jz := 1) rfl (by decide) hii hL rfl rfl (by decide +kernel) (by decide +kernel) (by decide +kernel) (by decide +kernel) (by decide +kernel) ?_
  refine zr_callV (c_X12_wayAt l G am M (xs (ii + 1)) (r, M') e2) (WW' := fun _ => zq_W G am ao A K f pb X R Ld L2 F F2 P P2 Hi H Lg Pl Sn Ct Sc Tr o0 o1 M') (st := [.int r]) (st' := [.int r, .int r]) [16] rfl rfl (fun _ => Nat.le_of_ble_eq_true rfl) (fun _ => List.append_nil _) rfl rfl nm_X12_wayAt zw_8_9 zw_8_10 zw_8_11 zw_1_18 zw_8_12 rfl rfl rfl (Nat.le_of_ble_eq_true rfl) ⟨show k + 0 + 0 ≤ 601024 by omega, show n + 0 + 0 ≤ 7293034 by omega⟩ (by decide +kernel) (fun _ => ?_)
  refine zr_icmp_eq (off := 640) (tgt := 1476) (by decide +kernel) (by decide) (fun _ => ?_) (fun h => absurd rfl h)
  exact zr_widen (k2 := k + 20) (n2 := n + 4000) (show k + 0 + 0 ≤ k + 20 by omega) (show n + 0 + 0 ≤ n + 4000 by omega) (hN A K f pb X R Ld L2 F F2 P P2 Hi H Lg Pl Sn Ct Sc Tr o0 o1 M' hI2 rfl h0 h1)
set_option maxRecDepth 100000 in
set_option maxHeartbeats 4000000 in
theorem e_sent {l : Launch} {G : zj_G} {b L : Nat} {xs : Nat → Int32} {a1 : Nat} {am : Nat → Nat} {ao ii k n : Nat} (hii : ii + 6 ≤ L) (hL : L ≤ 3072) (hk : k ≤ 600000) (hn : n ≤ 7289000) (hN : zq_N l G b L xs a1 am ao ii (k + 20) (n + 4000) 1476) : zq_N l G b L xs a1 am ao ii k n 933 := by
  intro A K f pb X R Ld L2 F F2 P P2 Hi H Lg Pl Sn Ct Sc Tr o0 o1 M hI hA h0 h1
  subst hA
  obtain ⟨r, S', M', e1, e2, hI2⟩ := s_sent hI  
  refine zr_aload_n (i := 1) rfl (by decide +kernel) ?_
  refine zr_callV (c_X11_sent l G A K X Sn Ld F  (r, S') e1) (WW' := fun _ => zq_W G am ao A K f pb X R Ld L2 F F2 P P2 Hi H Lg Pl S' Ct Sc Tr o0 o1 M) (st := []) (st' := [.int r]) [0, 12, 2, 4] rfl rfl (fun _ => Nat.le_of_ble_eq_true rfl) (fun _ => List.append_nil _) rfl rfl nm_X11_sent zw_4_84 zw_4_85 zw_4_86 zw_1_1 zw_4_87 rfl rfl rfl (Nat.le_of_ble_eq_true rfl) ⟨show k + 0 ≤ 601024 by omega, show n + 0 ≤ 7293034 by omega⟩ (by decide +kernel) (fun _ => ?_)
  refine zr_aload_n (i := 2) rfl (by decide +kernel) ?_
  refine zr_callV (c_X12_sent l G am M  (r, M') e2) (WW' := fun _ => zq_W G am ao A K f pb X R Ld L2 F F2 P P2 Hi H Lg Pl S' Ct Sc Tr o0 o1 M') (st := [.int r]) (st' := [.int r, .int r]) [16] rfl rfl (fun _ => Nat.le_of_ble_eq_true rfl) (fun _ => List.append_nil _) rfl rfl nm_X12_sent zw_8_41 zw_8_42 zw_8_43 zw_1_18 zw_8_44 rfl rfl rfl (Nat.le_of_ble_eq_true rfl) ⟨show k + 0 + 0 ≤ 601024 by omega, show n + 0 + 0 ≤ 7293034 by omega⟩ (by decide +kernel) (fun _ => ?_)
  refine zr_icmp_eq (off := 535) (tgt := 1476) (by decide +kernel) (by decide) (fun _ => ?_) (fun h => absurd rfl h)
  exact zr_widen (k2 := k + 20) (n2 := n + 4000) (show k + 0 + 0 ≤ k + 20 by omega) (show n + 0 + 0 ≤ n + 4000 by omega) (hN A K f pb X R Ld L2 F F2 P P2 Hi H Lg Pl S' Ct Sc Tr o0 o1 M' hI2 rfl h0 h1)
set_option maxRecDepth 100000 in
set_option maxHeartbeats 4000000 in
theorem e_sentTo {l : Launch} {G : zj_G} {b L : Nat} {xs : Nat → Int32} {a1 : Nat} {am : Nat → Nat} {ao ii k n : Nat} (hii : ii + 6 ≤ L) (hL : L ≤ 3072) (hk : k ≤ 600000) (hn : n ≤ 7289000) (hN : zq_N l G b L xs a1 am ao ii (k + 20) (n + 4000) 1476) : zq_N l G b L xs a1 am ao ii k n 946 := by
  intro A K f pb X R Ld L2 F F2 P P2 Hi H Lg Pl Sn Ct Sc Tr o0 o1 M hI hA h0 h1
  subst hA
  obtain ⟨r, M', e1, e2, hI2⟩ := s_sentTo hI  (xs (ii + 1))
  refine zr_aload_n (i := 1) rfl (by decide +kernel) ?_
  refine zq_arg (j := 1) (jz := 1) rfl (by decide) hii hL rfl rfl (by decide +kernel) (by decide +kernel) (by decide +kernel) (by decide +kernel) (by decide +kernel) ?_
  refine zr_callV (c_X11_sentTo l G A K X Sn (xs (ii + 1)) r e1) (WW' := fun _ => zq_W G am ao A K f pb X R Ld L2 F F2 P P2 Hi H Lg Pl Sn Ct Sc Tr o0 o1 M) (st := []) (st' := [.int r]) [0, 12] rfl rfl (fun _ => Nat.le_of_ble_eq_true rfl) (fun _ => List.append_nil _) rfl rfl nm_X11_sentTo zw_4_121 zw_4_122 zw_4_123 zw_1_1 zw_4_124 rfl rfl rfl (Nat.le_of_ble_eq_true rfl) ⟨show k + 0 ≤ 601024 by omega, show n + 0 ≤ 7293034 by omega⟩ (by decide +kernel) (fun _ => ?_)
  refine zr_aload_n (i := 2) rfl (by decide +kernel) ?_
  refine zq_arg (j := 1) (jz := 1) rfl (by decide) hii hL rfl rfl (by decide +kernel) (by decide +kernel) (by decide +kernel) (by decide +kernel) (by decide +kernel) ?_
  refine zr_callV (c_X12_sentTo l G am M (xs (ii + 1)) (r, M') e2) (WW' := fun _ => zq_W G am ao A K f pb X R Ld L2 F F2 P P2 Hi H Lg Pl Sn Ct Sc Tr o0 o1 M') (st := [.int r]) (st' := [.int r, .int r]) [16] rfl rfl (fun _ => Nat.le_of_ble_eq_true rfl) (fun _ => List.append_nil _) rfl rfl nm_X12_sentTo zw_8_49 zw_8_50 zw_8_51 zw_1_18 zw_8_52 rfl rfl rfl (Nat.le_of_ble_eq_true rfl) ⟨show k + 0 + 0 ≤ 601024 by omega, show n + 0 + 0 ≤ 7293034 by omega⟩ (by decide +kernel) (fun _ => ?_)
  refine zr_icmp_eq (off := 510) (tgt := 1476) (by decide +kernel) (by decide) (fun _ => ?_) (fun h => absurd rfl h)
  exact zr_widen (k2 := k + 20) (n2 := n + 4000) (show k + 0 + 0 ≤ k + 20 by omega) (show n + 0 + 0 ≤ n + 4000 by omega) (hN A K f pb X R Ld L2 F F2 P P2 Hi H Lg Pl Sn Ct Sc Tr o0 o1 M' hI2 rfl h0 h1)
set_option maxRecDepth 100000 in
set_option maxHeartbeats 4000000 in
theorem e_cut {l : Launch} {G : zj_G} {b L : Nat} {xs : Nat → Int32} {a1 : Nat} {am : Nat → Nat} {ao ii k n : Nat} (hii : ii + 6 ≤ L) (hL : L ≤ 3072) (hk : k ≤ 600000) (hn : n ≤ 7289000) (hN : zq_N l G b L xs a1 am ao ii (k + 20) (n + 4000) 1476) : zq_N l G b L xs a1 am ao ii k n 971 := by
  intro A K f pb X R Ld L2 F F2 P P2 Hi H Lg Pl Sn Ct Sc Tr o0 o1 M hI hA h0 h1
  subst hA
  obtain ⟨r, C', M', e1, e2, hI2⟩ := s_cut hI  (xs (ii + 1)) (xs (ii + 2))
  refine zr_aload_n (i := 1) rfl (by decide +kernel) ?_
  refine zq_arg (j := 1) (jz := 1) rfl (by decide) hii hL rfl rfl (by decide +kernel) (by decide +kernel) (by decide +kernel) (by decide +kernel) (by decide +kernel) ?_
  refine zq_arg (j := 2) (jz := 2) rfl (by decide) hii hL rfl rfl (by decide +kernel) (by decide +kernel) (by decide +kernel) (by decide +kernel) (by decide +kernel) ?_
  refine zr_callV (c_X11_cut l G A K X Ld Ct (xs (ii + 1)) (xs (ii + 2)) (r, C') e1) (WW' := fun _ => zq_W G am ao A K f pb X R Ld L2 F F2 P P2 Hi H Lg Pl Sn C' Sc Tr o0 o1 M) (st := []) (st' := [.int r]) [0, 2, 13] rfl rfl (fun _ => Nat.le_of_ble_eq_true rfl) (fun _ => List.append_nil _) rfl rfl nm_X11_cut zw_4_129 zw_4_130 zw_4_131 zw_1_1 zw_4_132 rfl rfl rfl (Nat.le_of_ble_eq_true rfl) ⟨show k + 0 ≤ 601024 by omega, show n + 0 ≤ 7293034 by omega⟩ (by decide +kernel) (fun _ => ?_)
  refine zr_aload_n (i := 2) rfl (by decide +kernel) ?_
  refine zq_arg (j := 1) (jz := 1) rfl (by decide) hii hL rfl rfl (by decide +kernel) (by decide +kernel) (by decide +kernel) (by decide +kernel) (by decide +kernel) ?_
  refine zq_arg (j := 2) (jz := 2) rfl (by decide) hii hL rfl rfl (by decide +kernel) (by decide +kernel) (by decide +kernel) (by decide +kernel) (by decide +kernel) ?_
  refine zr_callV (c_X12_cut l G am M (xs (ii + 1)) (xs (ii + 2)) (r, M') e2) (WW' := fun _ => zq_W G am ao A K f pb X R Ld L2 F F2 P P2 Hi H Lg Pl Sn C' Sc Tr o0 o1 M') (st := [.int r]) (st' := [.int r, .int r]) [16] rfl rfl (fun _ => Nat.le_of_ble_eq_true rfl) (fun _ => List.append_nil _) rfl rfl nm_X12_cut zw_8_53 zw_8_54 zw_8_55 zw_1_18 zw_8_56 rfl rfl rfl (Nat.le_of_ble_eq_true rfl) ⟨show k + 0 + 0 ≤ 601024 by omega, show n + 0 + 0 ≤ 7293034 by omega⟩ (by decide +kernel) (fun _ => ?_)
  refine zr_icmp_eq (off := 473) (tgt := 1476) (by decide +kernel) (by decide) (fun _ => ?_) (fun h => absurd rfl h)
  exact zr_widen (k2 := k + 20) (n2 := n + 4000) (show k + 0 + 0 ≤ k + 20 by omega) (show n + 0 + 0 ≤ n + 4000 by omega) (hN A K f pb X R Ld L2 F F2 P P2 Hi H Lg Pl Sn C' Sc Tr o0 o1 M' hI2 rfl h0 h1)
set_option maxRecDepth 100000 in
set_option maxHeartbeats 4000000 in
theorem e_cutting {l : Launch} {G : zj_G} {b L : Nat} {xs : Nat → Int32} {a1 : Nat} {am : Nat → Nat} {ao ii k n : Nat} (hii : ii + 6 ≤ L) (hL : L ≤ 3072) (hk : k ≤ 600000) (hn : n ≤ 7289000) (hN : zq_N l G b L xs a1 am ao ii (k + 20) (n + 4000) 1476) : zq_N l G b L xs a1 am ao ii k n 1008 := by
  intro A K f pb X R Ld L2 F F2 P P2 Hi H Lg Pl Sn Ct Sc Tr o0 o1 M hI hA h0 h1
  subst hA
  obtain ⟨r, M', e1, e2, hI2⟩ := s_cutting hI  
  refine zr_aload_n (i := 1) rfl (by decide +kernel) ?_
  refine zr_callV (c_X11_cutting l G A K X Ct  r e1) (WW' := fun _ => zq_W G am ao A K f pb X R Ld L2 F F2 P P2 Hi H Lg Pl Sn Ct Sc Tr o0 o1 M) (st := []) (st' := [.int r]) [0, 13] rfl rfl (fun _ => Nat.le_of_ble_eq_true rfl) (fun _ => List.append_nil _) rfl rfl nm_X11_cutting zw_4_155 zw_4_156 zw_4_157 zw_1_1 zw_4_158 rfl rfl rfl (Nat.le_of_ble_eq_true rfl) ⟨show k + 0 ≤ 601024 by omega, show n + 0 ≤ 7293034 by omega⟩ (by decide +kernel) (fun _ => ?_)
  refine zr_aload_n (i := 2) rfl (by decide +kernel) ?_
  refine zr_callV (c_X12_cutting l G am M  (r, M') e2) (WW' := fun _ => zq_W G am ao A K f pb X R Ld L2 F F2 P P2 Hi H Lg Pl Sn Ct Sc Tr o0 o1 M') (st := [.int r]) (st' := [.int r, .int r]) [16] rfl rfl (fun _ => Nat.le_of_ble_eq_true rfl) (fun _ => List.append_nil _) rfl rfl nm_X12_cutting zw_8_64 zw_8_65 zw_8_66 zw_1_18 zw_8_67 rfl rfl rfl (Nat.le_of_ble_eq_true rfl) ⟨show k + 0 + 0 ≤ 601024 by omega, show n + 0 + 0 ≤ 7293034 by omega⟩ (by decide +kernel) (fun _ => ?_)
  refine zr_icmp_eq (off := 460) (tgt := 1476) (by decide +kernel) (by decide) (fun _ => ?_) (fun h => absurd rfl h)
  exact zr_widen (k2 := k + 20) (n2 := n + 4000) (show k + 0 + 0 ≤ k + 20 by omega) (show n + 0 + 0 ≤ n + 4000 by omega) (hN A K f pb X R Ld L2 F F2 P P2 Hi H Lg Pl Sn Ct Sc Tr o0 o1 M' hI2 rfl h0 h1)
set_option maxRecDepth 100000 in
set_option maxHeartbeats 4000000 in
theorem e_worst {l : Launch} {G : zj_G} {b L : Nat} {xs : Nat → Int32} {a1 : Nat} {am : Nat → Nat} {ao ii k n : Nat} (hii : ii + 6 ≤ L) (hL : L ≤ 3072) (hk : k ≤ 600000) (hn : n ≤ 7289000) (hN : zq_N l G b L xs a1 am ao ii (k + 20) (n + 4000) 1476) : zq_N l G b L xs a1 am ao ii k n 1021 := by
  intro A K f pb X R Ld L2 F F2 P P2 Hi H Lg Pl Sn Ct Sc Tr o0 o1 M hI hA h0 h1
  subst hA
  obtain ⟨r, M', e1, e2, hI2⟩ := s_worst hI  (xs (ii + 1)) (xs (ii + 2))
  refine zr_aload_n (i := 1) rfl (by decide +kernel) ?_
  refine zq_arg (j := 1) (jz := 1) rfl (by decide) hii hL rfl rfl (by decide +kernel) (by decide +kernel) (by decide +kernel) (by decide +kernel) (by decide +kernel) ?_
  refine zq_arg (j := 2) (jz := 2) rfl (by decide) hii hL rfl rfl (by decide +kernel) (by decide +kernel) (by decide +kernel) (by decide +kernel) (by decide +kernel) ?_
  refine zr_callV (c_X11_worst l G A K X Ld (xs (ii + 1)) (xs (ii + 2)) r e1) (WW' := fun _ => zq_W G am ao A K f pb X R Ld L2 F F2 P P2 Hi H Lg Pl Sn Ct Sc Tr o0 o1 M) (st := []) (st' := [.int r]) [0, 2] rfl rfl (fun _ => Nat.le_of_ble_eq_true rfl) (fun _ => List.append_nil _) rfl rfl nm_X11_worst zw_4_159 zw_4_160 zw_4_161 zw_1_1 zw_4_162 rfl rfl rfl (Nat.le_of_ble_eq_true rfl) ⟨show k + 0 ≤ 601024 by omega, show n + 0 ≤ 7293034 by omega⟩ (by decide +kernel) (fun _ => ?_)
  refine zr_aload_n (i := 2) rfl (by decide +kernel) ?_
  refine zq_arg (j := 1) (jz := 1) rfl (by decide) hii hL rfl rfl (by decide +kernel) (by decide +kernel) (by decide +kernel) (by decide +kernel) (by decide +kernel) ?_
  refine zq_arg (j := 2) (jz := 2) rfl (by decide) hii hL rfl rfl (by decide +kernel) (by decide +kernel) (by decide +kernel) (by decide +kernel) (by decide +kernel) ?_
  refine zr_callV (c_X12_worst l G am M (xs (ii + 1)) (xs (ii + 2)) (r, M') e2) (WW' := fun _ => zq_W G am ao A K f pb X R Ld L2 F F2 P P2 Hi H Lg Pl Sn Ct Sc Tr o0 o1 M') (st := [.int r]) (st' := [.int r, .int r]) [16] rfl rfl (fun _ => Nat.le_of_ble_eq_true rfl) (fun _ => List.append_nil _) rfl rfl nm_X12_worst zw_8_13 zw_8_14 zw_8_15 zw_1_18 zw_8_16 rfl rfl rfl (Nat.le_of_ble_eq_true rfl) ⟨show k + 0 + 0 ≤ 601024 by omega, show n + 0 + 0 ≤ 7293034 by omega⟩ (by decide +kernel) (fun _ => ?_)
  refine zr_icmp_eq (off := 423) (tgt := 1476) (by decide +kernel) (by decide) (fun _ => ?_) (fun h => absurd rfl h)
  exact zr_widen (k2 := k + 20) (n2 := n + 4000) (show k + 0 + 0 ≤ k + 20 by omega) (show n + 0 + 0 ≤ n + 4000 by omega) (hN A K f pb X R Ld L2 F F2 P P2 Hi H Lg Pl Sn Ct Sc Tr o0 o1 M' hI2 rfl h0 h1)
set_option maxRecDepth 100000 in
set_option maxHeartbeats 4000000 in
theorem e_turned {l : Launch} {G : zj_G} {b L : Nat} {xs : Nat → Int32} {a1 : Nat} {am : Nat → Nat} {ao ii k n : Nat} (hii : ii + 6 ≤ L) (hL : L ≤ 3072) (hk : k ≤ 600000) (hn : n ≤ 7289000) (hN : zq_N l G b L xs a1 am ao ii (k + 20) (n + 4000) 1476) : zq_N l G b L xs a1 am ao ii k n 1138 := by
  intro A K f pb X R Ld L2 F F2 P P2 Hi H Lg Pl Sn Ct Sc Tr o0 o1 M hI hA h0 h1
  subst hA
  obtain ⟨r, R', T', M', e1, e2, hI2⟩ := s_turned hI  (xs (ii + 1))
  refine zr_aload_n (i := 1) rfl (by decide +kernel) ?_
  refine zq_arg (j := 1) (jz := 1) rfl (by decide) hii hL rfl rfl (by decide +kernel) (by decide +kernel) (by decide +kernel) (by decide +kernel) (by decide +kernel) ?_
  refine zr_callV (c_X11_turned l G A K X Ld R F Tr (xs (ii + 1)) (r, R', T') e1) (WW' := fun _ => zq_W G am ao A K f pb X R' Ld L2 F F2 P P2 Hi H Lg Pl Sn Ct Sc T' o0 o1 M) (st := []) (st' := [.int r]) [0, 2, 1, 4, 15] rfl rfl (fun _ => Nat.le_of_ble_eq_true rfl) (fun _ => List.append_nil _) rfl rfl nm_X11_turned zw_4_164 zw_4_165 zw_4_166 zw_1_1 zw_4_167 rfl rfl rfl (Nat.le_of_ble_eq_true rfl) ⟨show k + 0 ≤ 601024 by omega, show n + 0 ≤ 7293034 by omega⟩ (by decide +kernel) (fun _ => ?_)
  refine zr_aload_n (i := 2) rfl (by decide +kernel) ?_
  refine zq_arg (j := 1) (jz := 1) rfl (by decide) hii hL rfl rfl (by decide +kernel) (by decide +kernel) (by decide +kernel) (by decide +kernel) (by decide +kernel) ?_
  refine zr_callV (c_X12_turned l G am M (xs (ii + 1)) (r, M') e2) (WW' := fun _ => zq_W G am ao A K f pb X R' Ld L2 F F2 P P2 Hi H Lg Pl Sn Ct Sc T' o0 o1 M') (st := [.int r]) (st' := [.int r, .int r]) [16] rfl rfl (fun _ => Nat.le_of_ble_eq_true rfl) (fun _ => List.append_nil _) rfl rfl nm_X12_turned zw_8_75 zw_8_76 zw_8_77 zw_1_18 zw_8_78 rfl rfl rfl (Nat.le_of_ble_eq_true rfl) ⟨show k + 0 + 0 ≤ 601024 by omega, show n + 0 + 0 ≤ 7293034 by omega⟩ (by decide +kernel) (fun _ => ?_)
  refine zr_icmp_eq (off := 318) (tgt := 1476) (by decide +kernel) (by decide) (fun _ => ?_) (fun h => absurd rfl h)
  exact zr_widen (k2 := k + 20) (n2 := n + 4000) (show k + 0 + 0 ≤ k + 20 by omega) (show n + 0 + 0 ≤ n + 4000 by omega) (hN A K f pb X R' Ld L2 F F2 P P2 Hi H Lg Pl Sn Ct Sc T' o0 o1 M' hI2 rfl h0 h1)
set_option maxRecDepth 100000 in
set_option maxHeartbeats 4000000 in
theorem e_least {l : Launch} {G : zj_G} {b L : Nat} {xs : Nat → Int32} {a1 : Nat} {am : Nat → Nat} {ao ii k n : Nat} (hii : ii + 6 ≤ L) (hL : L ≤ 3072) (hk : k ≤ 600000) (hn : n ≤ 7289000) (hN : zq_N l G b L xs a1 am ao ii (k + 20) (n + 4000) 1476) : zq_N l G b L xs a1 am ao ii k n 1163 := by
  intro A K f pb X R Ld L2 F F2 P P2 Hi H Lg Pl Sn Ct Sc Tr o0 o1 M hI hA h0 h1
  subst hA
  obtain ⟨r, M', e1, e2, hI2⟩ := s_least hI  
  refine zr_aload_n (i := 1) rfl (by decide +kernel) ?_
  refine zr_callV (c_X11_least l G A K X Tr  r e1) (WW' := fun _ => zq_W G am ao A K f pb X R Ld L2 F F2 P P2 Hi H Lg Pl Sn Ct Sc Tr o0 o1 M) (st := []) (st' := [.int r]) [0, 15] rfl rfl (fun _ => Nat.le_of_ble_eq_true rfl) (fun _ => List.append_nil _) rfl rfl nm_X11_least zw_4_197 zw_4_198 zw_4_199 zw_1_1 zw_4_200 rfl rfl rfl (Nat.le_of_ble_eq_true rfl) ⟨show k + 0 ≤ 601024 by omega, show n + 0 ≤ 7293034 by omega⟩ (by decide +kernel) (fun _ => ?_)
  refine zr_aload_n (i := 2) rfl (by decide +kernel) ?_
  refine zr_callV (c_X12_least_ l G am M  (r, M') e2) (WW' := fun _ => zq_W G am ao A K f pb X R Ld L2 F F2 P P2 Hi H Lg Pl Sn Ct Sc Tr o0 o1 M') (st := [.int r]) (st' := [.int r, .int r]) [16] rfl rfl (fun _ => Nat.le_of_ble_eq_true rfl) (fun _ => List.append_nil _) rfl rfl nm_X12_least_ zw_8_83 zw_8_84 zw_8_85 zw_1_18 zw_8_86 rfl rfl rfl (Nat.le_of_ble_eq_true rfl) ⟨show k + 0 + 0 ≤ 601024 by omega, show n + 0 + 0 ≤ 7293034 by omega⟩ (by decide +kernel) (fun _ => ?_)
  refine zr_icmp_eq (off := 305) (tgt := 1476) (by decide +kernel) (by decide) (fun _ => ?_) (fun h => absurd rfl h)
  exact zr_widen (k2 := k + 20) (n2 := n + 4000) (show k + 0 + 0 ≤ k + 20 by omega) (show n + 0 + 0 ≤ n + 4000 by omega) (hN A K f pb X R Ld L2 F F2 P P2 Hi H Lg Pl Sn Ct Sc Tr o0 o1 M' hI2 rfl h0 h1)
set_option maxRecDepth 100000 in
set_option maxHeartbeats 4000000 in
theorem e_greatest {l : Launch} {G : zj_G} {b L : Nat} {xs : Nat → Int32} {a1 : Nat} {am : Nat → Nat} {ao ii k n : Nat} (hii : ii + 6 ≤ L) (hL : L ≤ 3072) (hk : k ≤ 600000) (hn : n ≤ 7289000) (hN : zq_N l G b L xs a1 am ao ii (k + 20) (n + 4000) 1476) : zq_N l G b L xs a1 am ao ii k n 1176 := by
  intro A K f pb X R Ld L2 F F2 P P2 Hi H Lg Pl Sn Ct Sc Tr o0 o1 M hI hA h0 h1
  subst hA
  obtain ⟨r, M', e1, e2, hI2⟩ := s_greatest hI  
  refine zr_aload_n (i := 1) rfl (by decide +kernel) ?_
  refine zr_callV (c_X11_greatest l G A K X Tr  r e1) (WW' := fun _ => zq_W G am ao A K f pb X R Ld L2 F F2 P P2 Hi H Lg Pl Sn Ct Sc Tr o0 o1 M) (st := []) (st' := [.int r]) [0, 15] rfl rfl (fun _ => Nat.le_of_ble_eq_true rfl) (fun _ => List.append_nil _) rfl rfl nm_X11_greatest zw_4_201 zw_4_202 zw_4_203 zw_1_1 zw_4_204 rfl rfl rfl (Nat.le_of_ble_eq_true rfl) ⟨show k + 0 ≤ 601024 by omega, show n + 0 ≤ 7293034 by omega⟩ (by decide +kernel) (fun _ => ?_)
  refine zr_aload_n (i := 2) rfl (by decide +kernel) ?_
  refine zr_callV (c_X12_greatest l G am M  (r, M') e2) (WW' := fun _ => zq_W G am ao A K f pb X R Ld L2 F F2 P P2 Hi H Lg Pl Sn Ct Sc Tr o0 o1 M') (st := [.int r]) (st' := [.int r, .int r]) [16] rfl rfl (fun _ => Nat.le_of_ble_eq_true rfl) (fun _ => List.append_nil _) rfl rfl nm_X12_greatest zw_8_87 zw_8_88 zw_8_89 zw_1_18 zw_8_90 rfl rfl rfl (Nat.le_of_ble_eq_true rfl) ⟨show k + 0 + 0 ≤ 601024 by omega, show n + 0 + 0 ≤ 7293034 by omega⟩ (by decide +kernel) (fun _ => ?_)
  refine zr_icmp_eq (off := 292) (tgt := 1476) (by decide +kernel) (by decide) (fun _ => ?_) (fun h => absurd rfl h)
  exact zr_widen (k2 := k + 20) (n2 := n + 4000) (show k + 0 + 0 ≤ k + 20 by omega) (show n + 0 + 0 ≤ n + 4000 by omega) (hN A K f pb X R Ld L2 F F2 P P2 Hi H Lg Pl Sn Ct Sc Tr o0 o1 M' hI2 rfl h0 h1)
set_option maxRecDepth 100000 in
set_option maxHeartbeats 4000000 in
theorem e_there {l : Launch} {G : zj_G} {b L : Nat} {xs : Nat → Int32} {a1 : Nat} {am : Nat → Nat} {ao ii k n : Nat} (hii : ii + 6 ≤ L) (hL : L ≤ 3072) (hk : k ≤ 600000) (hn : n ≤ 7289000) (hN : zq_N l G b L xs a1 am ao ii (k + 20) (n + 4000) 1476) : zq_N l G b L xs a1 am ao ii k n 1189 := by
  intro A K f pb X R Ld L2 F F2 P P2 Hi H Lg Pl Sn Ct Sc Tr o0 o1 M hI hA h0 h1
  subst hA
  obtain ⟨r, M', e1, e2, hI2⟩ := s_there hI  (xs (ii + 1))
  refine zr_aload_n (i := 1) rfl (by decide +kernel) ?_
  refine zq_arg (j := 1) (jz := 1) rfl (by decide) hii hL rfl rfl (by decide +kernel) (by decide +kernel) (by decide +kernel) (by decide +kernel) (by decide +kernel) ?_
  refine zr_callV (c_X11_there l G A K X Ld F (xs (ii + 1)) r e1) (WW' := fun _ => zq_W G am ao A K f pb X R Ld L2 F F2 P P2 Hi H Lg Pl Sn Ct Sc Tr o0 o1 M) (st := []) (st' := [.int r]) [0, 2, 4] rfl rfl (fun _ => Nat.le_of_ble_eq_true rfl) (fun _ => List.append_nil _) rfl rfl nm_X11_there zw_4_205 zw_4_206 zw_4_207 zw_1_1 zw_4_208 rfl rfl rfl (Nat.le_of_ble_eq_true rfl) ⟨show k + 0 ≤ 601024 by omega, show n + 0 ≤ 7293034 by omega⟩ (by decide +kernel) (fun _ => ?_)
  refine zr_aload_n (i := 2) rfl (by decide +kernel) ?_
  refine zq_arg (j := 1) (jz := 1) rfl (by decide) hii hL rfl rfl (by decide +kernel) (by decide +kernel) (by decide +kernel) (by decide +kernel) (by decide +kernel) ?_
  refine zr_callV (c_X12_there l G am M (xs (ii + 1)) (r, M') e2) (WW' := fun _ => zq_W G am ao A K f pb X R Ld L2 F F2 P P2 Hi H Lg Pl Sn Ct Sc Tr o0 o1 M') (st := [.int r]) (st' := [.int r, .int r]) [16] rfl rfl (fun _ => Nat.le_of_ble_eq_true rfl) (fun _ => List.append_nil _) rfl rfl nm_X12_there zw_8_91 zw_8_92 zw_8_93 zw_1_18 zw_8_94 rfl rfl rfl (Nat.le_of_ble_eq_true rfl) ⟨show k + 0 + 0 ≤ 601024 by omega, show n + 0 + 0 ≤ 7293034 by omega⟩ (by decide +kernel) (fun _ => ?_)
  refine zr_icmp_eq (off := 267) (tgt := 1476) (by decide +kernel) (by decide) (fun _ => ?_) (fun h => absurd rfl h)
  exact zr_widen (k2 := k + 20) (n2 := n + 4000) (show k + 0 + 0 ≤ k + 20 by omega) (show n + 0 + 0 ≤ n + 4000 by omega) (hN A K f pb X R Ld L2 F F2 P P2 Hi H Lg Pl Sn Ct Sc Tr o0 o1 M' hI2 rfl h0 h1)
set_option maxRecDepth 100000 in
set_option maxHeartbeats 4000000 in
theorem e_oath {l : Launch} {G : zj_G} {b L : Nat} {xs : Nat → Int32} {a1 : Nat} {am : Nat → Nat} {ao ii k n : Nat} (hii : ii + 6 ≤ L) (hL : L ≤ 3072) (hk : k ≤ 600000) (hn : n ≤ 7289000) (hN : zq_N l G b L xs a1 am ao ii (k + 20) (n + 4000) 1476) : zq_N l G b L xs a1 am ao ii k n 1214 := by
  intro A K f pb X R Ld L2 F F2 P P2 Hi H Lg Pl Sn Ct Sc Tr o0 o1 M hI hA h0 h1
  subst hA
  obtain ⟨r, S', M', e1, e2, hI2⟩ := s_oath hI  (xs (ii + 1))
  refine zr_aload_n (i := 1) rfl (by decide +kernel) ?_
  refine zq_arg (j := 1) (jz := 1) rfl (by decide) hii hL rfl rfl (by decide +kernel) (by decide +kernel) (by decide +kernel) (by decide +kernel) (by decide +kernel) ?_
  refine zr_callV (c_X11_oath l G A K X Ld Sc F (xs (ii + 1)) (r, S') e1) (WW' := fun _ => zq_W G am ao A K f pb X R Ld L2 F F2 P P2 Hi H Lg Pl Sn Ct S' Tr o0 o1 M) (st := []) (st' := [.int r]) [0, 2, 14, 4] rfl rfl (fun _ => Nat.le_of_ble_eq_true rfl) (fun _ => List.append_nil _) rfl rfl nm_X11_oath zw_4_213 zw_4_214 zw_4_215 zw_1_1 zw_4_216 rfl rfl rfl (Nat.le_of_ble_eq_true rfl) ⟨show k + 0 ≤ 601024 by omega, show n + 0 ≤ 7293034 by omega⟩ (by decide +kernel) (fun _ => ?_)
  refine zr_aload_n (i := 2) rfl (by decide +kernel) ?_
  refine zq_arg (j := 1) (jz := 1) rfl (by decide) hii hL rfl rfl (by decide +kernel) (by decide +kernel) (by decide +kernel) (by decide +kernel) (by decide +kernel) ?_
  refine zr_callV (c_X12_oath l G am M (xs (ii + 1)) (r, M') e2) (WW' := fun _ => zq_W G am ao A K f pb X R Ld L2 F F2 P P2 Hi H Lg Pl Sn Ct S' Tr o0 o1 M') (st := [.int r]) (st' := [.int r, .int r]) [16] rfl rfl (fun _ => Nat.le_of_ble_eq_true rfl) (fun _ => List.append_nil _) rfl rfl nm_X12_oath zw_8_95 zw_8_96 zw_8_97 zw_1_18 zw_8_98 rfl rfl rfl (Nat.le_of_ble_eq_true rfl) ⟨show k + 0 + 0 ≤ 601024 by omega, show n + 0 + 0 ≤ 7293034 by omega⟩ (by decide +kernel) (fun _ => ?_)
  refine zr_icmp_eq (off := 242) (tgt := 1476) (by decide +kernel) (by decide) (fun _ => ?_) (fun h => absurd rfl h)
  exact zr_widen (k2 := k + 20) (n2 := n + 4000) (show k + 0 + 0 ≤ k + 20 by omega) (show n + 0 + 0 ≤ n + 4000 by omega) (hN A K f pb X R Ld L2 F F2 P P2 Hi H Lg Pl Sn Ct S' Tr o0 o1 M' hI2 rfl h0 h1)
set_option maxRecDepth 100000 in
set_option maxHeartbeats 4000000 in
theorem e_byteAt {l : Launch} {G : zj_G} {b L : Nat} {xs : Nat → Int32} {a1 : Nat} {am : Nat → Nat} {ao ii k n : Nat} (hii : ii + 6 ≤ L) (hL : L ≤ 3072) (hk : k ≤ 600000) (hn : n ≤ 7289000) (hN : zq_N l G b L xs a1 am ao ii (k + 20) (n + 4000) 1476) : zq_N l G b L xs a1 am ao ii k n 1239 := by
  intro A K f pb X R Ld L2 F F2 P P2 Hi H Lg Pl Sn Ct Sc Tr o0 o1 M hI hA h0 h1
  subst hA
  obtain ⟨r, M', e1, e2, hI2⟩ := s_byteAt hI  (xs (ii + 1))
  refine zr_aload_n (i := 1) rfl (by decide +kernel) ?_
  refine zq_arg (j := 1) (jz := 1) rfl (by decide) hii hL rfl rfl (by decide +kernel) (by decide +kernel) (by decide +kernel) (by decide +kernel) (by decide +kernel) ?_
  refine zr_callV (c_X11_byteAt l G A K X Sc (xs (ii + 1)) r e1) (WW' := fun _ => zq_W G am ao A K f pb X R Ld L2 F F2 P P2 Hi H Lg Pl Sn Ct Sc Tr o0 o1 M) (st := []) (st' := [.int r]) [0, 14] rfl rfl (fun _ => Nat.le_of_ble_eq_true rfl) (fun _ => List.append_nil _) rfl rfl nm_X11_byteAt zw_5_8 zw_5_9 zw_5_10 zw_1_1 zw_5_11 rfl rfl rfl (Nat.le_of_ble_eq_true rfl) ⟨show k + 0 ≤ 601024 by omega, show n + 0 ≤ 7293034 by omega⟩ (by decide +kernel) (fun _ => ?_)
  refine zr_aload_n (i := 2) rfl (by decide +kernel) ?_
  refine zq_arg (j := 1) (jz := 1) rfl (by decide) hii hL rfl rfl (by decide +kernel) (by decide +kernel) (by decide +kernel) (by decide +kernel) (by decide +kernel) ?_
  refine zr_callV (c_X12_byteAt l G am M (xs (ii + 1)) (r, M') e2) (WW' := fun _ => zq_W G am ao A K f pb X R Ld L2 F F2 P P2 Hi H Lg Pl Sn Ct Sc Tr o0 o1 M') (st := [.int r]) (st' := [.int r, .int r]) [16] rfl rfl (fun _ => Nat.le_of_ble_eq_true rfl) (fun _ => List.append_nil _) rfl rfl nm_X12_byteAt zw_8_115 zw_8_116 zw_8_117 zw_1_18 zw_8_118 rfl rfl rfl (Nat.le_of_ble_eq_true rfl) ⟨show k + 0 + 0 ≤ 601024 by omega, show n + 0 + 0 ≤ 7293034 by omega⟩ (by decide +kernel) (fun _ => ?_)
  refine zr_icmp_eq (off := 217) (tgt := 1476) (by decide +kernel) (by decide) (fun _ => ?_) (fun h => absurd rfl h)
  exact zr_widen (k2 := k + 20) (n2 := n + 4000) (show k + 0 + 0 ≤ k + 20 by omega) (show n + 0 + 0 ≤ n + 4000 by omega) (hN A K f pb X R Ld L2 F F2 P P2 Hi H Lg Pl Sn Ct Sc Tr o0 o1 M' hI2 rfl h0 h1)
set_option maxRecDepth 100000 in
set_option maxHeartbeats 4000000 in
theorem e_odds {l : Launch} {G : zj_G} {b L : Nat} {xs : Nat → Int32} {a1 : Nat} {am : Nat → Nat} {ao ii k n : Nat} (hii : ii + 6 ≤ L) (hL : L ≤ 3072) (hk : k ≤ 600000) (hn : n ≤ 7289000) (hN : zq_N l G b L xs a1 am ao ii (k + 20) (n + 4000) 1476) : zq_N l G b L xs a1 am ao ii k n 1264 := by
  intro A K f pb X R Ld L2 F F2 P P2 Hi H Lg Pl Sn Ct Sc Tr o0 o1 M hI hA h0 h1
  subst hA
  obtain ⟨r, K2', M', e1, e2, hI2⟩ := s_odds hI F2 (xs (ii + 1)) (xs (ii + 2)) (xs (ii + 3))
  refine zr_aload_n (i := 1) rfl (by decide +kernel) ?_
  refine zq_arg (j := 1) (jz := 1) rfl (by decide) hii hL rfl rfl (by decide +kernel) (by decide +kernel) (by decide +kernel) (by decide +kernel) (by decide +kernel) ?_
  refine zq_arg (j := 2) (jz := 2) rfl (by decide) hii hL rfl rfl (by decide +kernel) (by decide +kernel) (by decide +kernel) (by decide +kernel) (by decide +kernel) ?_
  refine zq_arg (j := 3) (jz := 3) rfl (by decide) hii hL rfl rfl (by decide +kernel) (by decide +kernel) (by decide +kernel) (by decide +kernel) (by decide +kernel) ?_
  refine zr_callV (c_X11_odds l G A K X Ld F2 F (xs (ii + 1)) (xs (ii + 2)) (xs (ii + 3)) (r, K2') e1) (WW' := fun _ => zq_W G am ao A K f pb X R Ld L2 F K2' P P2 Hi H Lg Pl Sn Ct Sc Tr o0 o1 M) (st := []) (st' := [.int r]) [0, 2, 5, 4] rfl rfl (fun _ => Nat.le_of_ble_eq_true rfl) (fun _ => List.append_nil _) rfl rfl nm_X11_odds zw_5_12 zw_5_13 zw_5_14 zw_1_1 zw_5_15 rfl rfl rfl (Nat.le_of_ble_eq_true rfl) ⟨show k + 0 ≤ 601024 by omega, show n + 0 ≤ 7293034 by omega⟩ (by decide +kernel) (fun _ => ?_)
  refine zr_aload_n (i := 2) rfl (by decide +kernel) ?_
  refine zq_arg (j := 1) (jz := 1) rfl (by decide) hii hL rfl rfl (by decide +kernel) (by decide +kernel) (by decide +kernel) (by decide +kernel) (by decide +kernel) ?_
  refine zq_arg (j := 2) (jz := 2) rfl (by decide) hii hL rfl rfl (by decide +kernel) (by decide +kernel) (by decide +kernel) (by decide +kernel) (by decide +kernel) ?_
  refine zq_arg (j := 3) (jz := 3) rfl (by decide) hii hL rfl rfl (by decide +kernel) (by decide +kernel) (by decide +kernel) (by decide +kernel) (by decide +kernel) ?_
  refine zr_callV (c_X12_odds l G am M (xs (ii + 1)) (xs (ii + 2)) (xs (ii + 3)) (r, M') e2) (WW' := fun _ => zq_W G am ao A K f pb X R Ld L2 F K2' P P2 Hi H Lg Pl Sn Ct Sc Tr o0 o1 M') (st := [.int r]) (st' := [.int r, .int r]) [16] rfl rfl (fun _ => Nat.le_of_ble_eq_true rfl) (fun _ => List.append_nil _) rfl rfl nm_X12_odds zw_8_119 zw_8_120 zw_8_121 zw_1_18 zw_8_122 rfl rfl rfl (Nat.le_of_ble_eq_true rfl) ⟨show k + 0 + 0 ≤ 601024 by omega, show n + 0 + 0 ≤ 7293034 by omega⟩ (by decide +kernel) (fun _ => ?_)
  refine zr_icmp_eq (off := 168) (tgt := 1476) (by decide +kernel) (by decide) (fun _ => ?_) (fun h => absurd rfl h)
  exact zr_widen (k2 := k + 20) (n2 := n + 4000) (show k + 0 + 0 ≤ k + 20 by omega) (show n + 0 + 0 ≤ n + 4000 by omega) (hN A K f pb X R Ld L2 F K2' P P2 Hi H Lg Pl Sn Ct Sc Tr o0 o1 M' hI2 rfl h0 h1)
set_option maxRecDepth 100000 in
set_option maxHeartbeats 4000000 in
theorem e_book {l : Launch} {G : zj_G} {b L : Nat} {xs : Nat → Int32} {a1 : Nat} {am : Nat → Nat} {ao ii k n : Nat} (hii : ii + 6 ≤ L) (hL : L ≤ 3072) (hk : k ≤ 600000) (hn : n ≤ 7289000) (hN : zq_N l G b L xs a1 am ao ii (k + 20) (n + 4000) 1476) : zq_N l G b L xs a1 am ao ii k n 1313 := by
  intro A K f pb X R Ld L2 F F2 P P2 Hi H Lg Pl Sn Ct Sc Tr o0 o1 M hI hA h0 h1
  subst hA
  obtain ⟨r, G', R', K2', K', Hi', H', M', e1, e2, hI2⟩ := s_book hI F2 (xs (ii + 1))
  refine zr_aload_n (i := 1) rfl (by decide +kernel) ?_
  refine zq_arg (j := 1) (jz := 1) rfl (by decide) hii hL rfl rfl (by decide +kernel) (by decide +kernel) (by decide +kernel) (by decide +kernel) (by decide +kernel) ?_
  refine zr_callV (c_X11_book l G A K X Lg R Ld F2 F Hi H (xs (ii + 1)) (r, G', R', K2', K', Hi', H') e1) (WW' := fun _ => zq_W G am ao A K f pb X R' Ld L2 K' K2' P P2 Hi' H' G' Pl Sn Ct Sc Tr o0 o1 M) (st := []) (st' := [.int r]) [0, 10, 1, 2, 5, 4, 8, 9] rfl rfl (fun _ => Nat.le_of_ble_eq_true rfl) (fun _ => List.append_nil _) rfl rfl nm_X11_book zw_5_20 zw_5_21 zw_5_22 zw_1_1 zw_5_23 rfl rfl rfl (Nat.le_of_ble_eq_true rfl) ⟨show k + 0 ≤ 601024 by omega, show n + 0 ≤ 7293034 by omega⟩ (by decide +kernel) (fun _ => ?_)
  refine zr_aload_n (i := 2) rfl (by decide +kernel) ?_
  refine zq_arg (j := 1) (jz := 1) rfl (by decide) hii hL rfl rfl (by decide +kernel) (by decide +kernel) (by decide +kernel) (by decide +kernel) (by decide +kernel) ?_
  refine zr_callV (c_X12_book l G am M (xs (ii + 1)) (r, M') e2) (WW' := fun _ => zq_W G am ao A K f pb X R' Ld L2 K' K2' P P2 Hi' H' G' Pl Sn Ct Sc Tr o0 o1 M') (st := [.int r]) (st' := [.int r, .int r]) [16] rfl rfl (fun _ => Nat.le_of_ble_eq_true rfl) (fun _ => List.append_nil _) rfl rfl nm_X12_book zw_8_131 zw_8_132 zw_8_133 zw_1_18 zw_8_134 rfl rfl rfl (Nat.le_of_ble_eq_true rfl) ⟨show k + 0 + 0 ≤ 601024 by omega, show n + 0 + 0 ≤ 7293034 by omega⟩ (by decide +kernel) (fun _ => ?_)
  refine zr_icmp_eq (off := 143) (tgt := 1476) (by decide +kernel) (by decide) (fun _ => ?_) (fun h => absurd rfl h)
  exact zr_widen (k2 := k + 20) (n2 := n + 4000) (show k + 0 + 0 ≤ k + 20 by omega) (show n + 0 + 0 ≤ n + 4000 by omega) (hN A K f pb X R' Ld L2 K' K2' P P2 Hi' H' G' Pl Sn Ct Sc Tr o0 o1 M' hI2 rfl h0 h1)
set_option maxRecDepth 100000 in
set_option maxHeartbeats 4000000 in
theorem e_told {l : Launch} {G : zj_G} {b L : Nat} {xs : Nat → Int32} {a1 : Nat} {am : Nat → Nat} {ao ii k n : Nat} (hii : ii + 6 ≤ L) (hL : L ≤ 3072) (hk : k ≤ 600000) (hn : n ≤ 7289000) (hN : zq_N l G b L xs a1 am ao ii (k + 20) (n + 4000) 1476) : zq_N l G b L xs a1 am ao ii k n 1338 := by
  intro A K f pb X R Ld L2 F F2 P P2 Hi H Lg Pl Sn Ct Sc Tr o0 o1 M hI hA h0 h1
  subst hA
  obtain ⟨r, M', e1, e2, hI2⟩ := s_told hI  (xs (ii + 1))
  refine zr_aload_n (i := 1) rfl (by decide +kernel) ?_
  refine zq_arg (j := 1) (jz := 1) rfl (by decide) hii hL rfl rfl (by decide +kernel) (by decide +kernel) (by decide +kernel) (by decide +kernel) (by decide +kernel) ?_
  refine zr_callV (c_X11_told l G A K X Lg (xs (ii + 1)) r e1) (WW' := fun _ => zq_W G am ao A K f pb X R Ld L2 F F2 P P2 Hi H Lg Pl Sn Ct Sc Tr o0 o1 M) (st := []) (st' := [.int r]) [0, 10] rfl rfl (fun _ => Nat.le_of_ble_eq_true rfl) (fun _ => List.append_nil _) rfl rfl nm_X11_told zw_5_65 zw_5_66 zw_5_67 zw_1_1 zw_5_68 rfl rfl rfl (Nat.le_of_ble_eq_true rfl) ⟨show k + 0 ≤ 601024 by omega, show n + 0 ≤ 7293034 by omega⟩ (by decide +kernel) (fun _ => ?_)
  refine zr_aload_n (i := 2) rfl (by decide +kernel) ?_
  refine zq_arg (j := 1) (jz := 1) rfl (by decide) hii hL rfl rfl (by decide +kernel) (by decide +kernel) (by decide +kernel) (by decide +kernel) (by decide +kernel) ?_
  refine zr_callV (c_X12_told l G am M (xs (ii + 1)) (r, M') e2) (WW' := fun _ => zq_W G am ao A K f pb X R Ld L2 F F2 P P2 Hi H Lg Pl Sn Ct Sc Tr o0 o1 M') (st := [.int r]) (st' := [.int r, .int r]) [16] rfl rfl (fun _ => Nat.le_of_ble_eq_true rfl) (fun _ => List.append_nil _) rfl rfl nm_X12_told zw_8_159 zw_8_160 zw_8_161 zw_1_18 zw_8_162 rfl rfl rfl (Nat.le_of_ble_eq_true rfl) ⟨show k + 0 + 0 ≤ 601024 by omega, show n + 0 + 0 ≤ 7293034 by omega⟩ (by decide +kernel) (fun _ => ?_)
  refine zr_icmp_eq (off := 118) (tgt := 1476) (by decide +kernel) (by decide) (fun _ => ?_) (fun h => absurd rfl h)
  exact zr_widen (k2 := k + 20) (n2 := n + 4000) (show k + 0 + 0 ≤ k + 20 by omega) (show n + 0 + 0 ≤ n + 4000 by omega) (hN A K f pb X R Ld L2 F F2 P P2 Hi H Lg Pl Sn Ct Sc Tr o0 o1 M' hI2 rfl h0 h1)
set_option maxRecDepth 100000 in
set_option maxHeartbeats 4000000 in
theorem e_said {l : Launch} {G : zj_G} {b L : Nat} {xs : Nat → Int32} {a1 : Nat} {am : Nat → Nat} {ao ii k n : Nat} (hii : ii + 6 ≤ L) (hL : L ≤ 3072) (hk : k ≤ 600000) (hn : n ≤ 7289000) (hN : zq_N l G b L xs a1 am ao ii (k + 20) (n + 4000) 1476) : zq_N l G b L xs a1 am ao ii k n 1376 := by
  intro A K f pb X R Ld L2 F F2 P P2 Hi H Lg Pl Sn Ct Sc Tr o0 o1 M hI hA h0 h1
  subst hA
  obtain ⟨r, M', e1, e2, hI2⟩ := s_said hI  (xs (ii + 1))
  refine zr_aload_n (i := 1) rfl (by decide +kernel) ?_
  refine zq_arg (j := 1) (jz := 1) rfl (by decide) hii hL rfl rfl (by decide +kernel) (by decide +kernel) (by decide +kernel) (by decide +kernel) (by decide +kernel) ?_
  refine zr_callV (c_X11_said l G A K X P Ld F (xs (ii + 1)) r e1) (WW' := fun _ => zq_W G am ao A K f pb X R Ld L2 F F2 P P2 Hi H Lg Pl Sn Ct Sc Tr o0 o1 M) (st := []) (st' := [.int r]) [0, 6, 2, 4] rfl rfl (fun _ => Nat.le_of_ble_eq_true rfl) (fun _ => List.append_nil _) rfl rfl nm_X11_said zw_5_101 zw_5_102 zw_5_103 zw_1_1 zw_5_104 rfl rfl rfl (Nat.le_of_ble_eq_true rfl) ⟨show k + 0 ≤ 601024 by omega, show n + 0 ≤ 7293034 by omega⟩ (by decide +kernel) (fun _ => ?_)
  refine zr_aload_n (i := 2) rfl (by decide +kernel) ?_
  refine zq_arg (j := 1) (jz := 1) rfl (by decide) hii hL rfl rfl (by decide +kernel) (by decide +kernel) (by decide +kernel) (by decide +kernel) (by decide +kernel) ?_
  refine zr_callV (c_X12_said l G am M (xs (ii + 1)) (r, M') e2) (WW' := fun _ => zq_W G am ao A K f pb X R Ld L2 F F2 P P2 Hi H Lg Pl Sn Ct Sc Tr o0 o1 M') (st := [.int r]) (st' := [.int r, .int r]) [16] rfl rfl (fun _ => Nat.le_of_ble_eq_true rfl) (fun _ => List.append_nil _) rfl rfl nm_X12_said zw_8_203 zw_8_204 zw_8_205 zw_1_18 zw_8_206 rfl rfl rfl (Nat.le_of_ble_eq_true rfl) ⟨show k + 0 + 0 ≤ 601024 by omega, show n + 0 + 0 ≤ 7293034 by omega⟩ (by decide +kernel) (fun _ => ?_)
  refine zr_icmp_eq (off := 80) (tgt := 1476) (by decide +kernel) (by decide) (fun _ => ?_) (fun h => absurd rfl h)
  exact zr_widen (k2 := k + 20) (n2 := n + 4000) (show k + 0 + 0 ≤ k + 20 by omega) (show n + 0 + 0 ≤ n + 4000 by omega) (hN A K f pb X R Ld L2 F F2 P P2 Hi H Lg Pl Sn Ct Sc Tr o0 o1 M' hI2 rfl h0 h1)
set_option maxRecDepth 100000 in
set_option maxHeartbeats 4000000 in
theorem e_count {l : Launch} {G : zj_G} {b L : Nat} {xs : Nat → Int32} {a1 : Nat} {am : Nat → Nat} {ao ii k n : Nat} (hii : ii + 6 ≤ L) (hL : L ≤ 3072) (hk : k ≤ 600000) (hn : n ≤ 7289000) (hN : zq_N l G b L xs a1 am ao ii (k + 20) (n + 4000) 1476) : zq_N l G b L xs a1 am ao ii k n 1451 := by
  intro A K f pb X R Ld L2 F F2 P P2 Hi H Lg Pl Sn Ct Sc Tr o0 o1 M hI hA h0 h1
  subst hA
  obtain ⟨r, M', e1, e2, hI2⟩ := s_count hI  (xs (ii + 1))
  refine zr_aload_n (i := 1) rfl (by decide +kernel) ?_
  refine zq_arg (j := 1) (jz := 1) rfl (by decide) hii hL rfl rfl (by decide +kernel) (by decide +kernel) (by decide +kernel) (by decide +kernel) (by decide +kernel) ?_
  refine zr_callV (c_X11_count l G A K X Ld R (xs (ii + 1)) r e1) (WW' := fun _ => zq_W G am ao A K f pb X R Ld L2 F F2 P P2 Hi H Lg Pl Sn Ct Sc Tr o0 o1 M) (st := []) (st' := [.int r]) [0, 2, 1] rfl rfl (fun _ => Nat.le_of_ble_eq_true rfl) (fun _ => List.append_nil _) rfl rfl nm_X11_count zw_3_121 zw_3_122 zw_3_123 zw_1_1 zw_3_124 rfl rfl rfl (Nat.le_of_ble_eq_true rfl) ⟨show k + 0 ≤ 601024 by omega, show n + 0 ≤ 7293034 by omega⟩ (by decide +kernel) (fun _ => ?_)
  refine zr_aload_n (i := 2) rfl (by decide +kernel) ?_
  refine zq_arg (j := 1) (jz := 1) rfl (by decide) hii hL rfl rfl (by decide +kernel) (by decide +kernel) (by decide +kernel) (by decide +kernel) (by decide +kernel) ?_
  refine zr_callV (c_X12_count l G am M (xs (ii + 1)) (r, M') e2) (WW' := fun _ => zq_W G am ao A K f pb X R Ld L2 F F2 P P2 Hi H Lg Pl Sn Ct Sc Tr o0 o1 M') (st := [.int r]) (st' := [.int r, .int r]) [16] rfl rfl (fun _ => Nat.le_of_ble_eq_true rfl) (fun _ => List.append_nil _) rfl rfl nm_X12_count zw_8_219 zw_8_220 zw_8_221 zw_1_18 zw_8_222 rfl rfl rfl (Nat.le_of_ble_eq_true rfl) ⟨show k + 0 + 0 ≤ 601024 by omega, show n + 0 + 0 ≤ 7293034 by omega⟩ (by decide +kernel) (fun _ => ?_)
  refine zr_icmp_eq (off := 5) (tgt := 1476) (by decide +kernel) (by decide) (fun _ => ?_) (fun h => absurd rfl h)
  exact zr_widen (k2 := k + 20) (n2 := n + 4000) (show k + 0 + 0 ≤ k + 20 by omega) (show n + 0 + 0 ≤ n + 4000 by omega) (hN A K f pb X R Ld L2 F F2 P P2 Hi H Lg Pl Sn Ct Sc Tr o0 o1 M' hI2 rfl h0 h1)
