/-! the law's loop, its entry -/
theorem zn_63 (x : Int32) : ∃ m, m < 64 ∧ x &&& (63 : Int32) = zn m := by
  have e : x = zn x.toBitVec.toNat := by
    apply Int32.toBitVec_inj.mp
    show x.toBitVec = BitVec.ofNat 32 x.toBitVec.toNat
    exact (BitVec.ofNat_toNat (m := 32) x.toBitVec).symm ▸ (by simp)
  refine ⟨x.toBitVec.toNat % 64, Nat.mod_lt _ (by omega), ?_⟩
  rw [e, zn_l63, zn_and, ← e]
  congr 1
  exact Nat.and_two_pow_sub_one_eq_mod _ 6
theorem e_tab : decode code 40 = .ok (.tableswitch 1436 0 39 #[176, 249, 274, 287, 300, 337, 386, 454, 479, 528, 565, 590, 615, 652, 689, 702, 739, 776, 801, 868, 893, 906, 931, 968, 981, 1018, 1098, 1123, 1136, 1149, 1174, 1199, 1224, 1273, 1298, 1323, 1336, 1361, 1386, 1411], 176) := by decide +kernel
set_option maxRecDepth 100000 in
set_option maxHeartbeats 4000000 in
theorem e_next {l : Launch} {G : zj_G} {b L : Nat} {xs : Nat → Int32} {a1 : Nat} {am : Nat → Nat} {ao ii k n : Nat} (hN : zq_N l G b L xs a1 am ao (ii + 6) k n 23) : zq_N l G b L xs a1 am ao ii k n 1476 := by
  intro A K f pb X R Ld L2 F F2 P P2 Hi H Lg Pl Sn Ct Sc Tr o0 o1 M hI hA h0 h1
  refine zr_iinc (i := 4) (a := 6) (x := zn ii) (d := zn 6) rfl rfl (by decide +kernel) ?_
  refine zr_goto (off := -1456) (tgt := 23) (by decide +kernel) (by decide) ?_
  refine zr_eq (lv2 := zq_lv b a1 (am 0) ao (ii + 6)) rfl ?_ rfl (hN A K f pb X R Ld L2 F F2 P P2 Hi H Lg Pl Sn Ct Sc Tr o0 o1 M hI hA h0 h1)
  rw [zn_add]; rfl
theorem e_less {L ii : Nat} (hL : L ≤ 3072) (hi : ii ≤ 3072) : (Int32.ofNat L - zn 6 < zn ii) = (L < ii + 6) := by
  have e : Int32.ofNat L - zn 6 = zi ((L : Int) - 6) := by
    show zn L - zn 6 = _
    rw [← zi_zn, ← zi_zn, zi_sub]; rfl
  rw [e, ← zi_zn, zi_lt (by omega) (by omega) (by omega) (by omega)]
  apply propext
  omega
set_option maxRecDepth 100000 in
set_option maxHeartbeats 4000000 in
theorem e_call {l : Launch} (hl : l.stackTraces = false) {G : zj_G} {b L : Nat} {xs : Nat → Int32} {a1 : Nat} {am : Nat → Nat} {ao ii k n : Nat} (hii : ii + 6 ≤ L) (hL : L ≤ 3072) (hk : k ≤ 600000) (hn : n ≤ 7289000) (hN : zq_N l G b L xs a1 am ao ii (k + 20) (n + 4000) 1476) {A : Nat → Nat → Nat} {K : Nat → Nat → Option Nat} {f : Nat → Int64} {pb : Bool} {X : XxT} {R : RdT} {Ld L2 : LdT} {F F2 : FkT} {P P2 : PhT} {Hi : HiT} {H : H8T} {Lg : LgT} {Pl : PlT} {Sn : SnT} {Ct : CtT} {Sc : ScT} {Tr : TrT} {o0 o1 : Option (LdT × FkT × PhT)} {M : MoT}
    (hI : pInv X R Ld F P Hi H Lg Pl Sn Ct Sc Tr o0 o1 M) (hA : A 0 0 = a1) (h0 : zq_k A K 0 o0) (h1 : zq_k A K 1 o1) : zj_J l G M_law [] (zq_F b L xs) k n (zq_W G am ao A K f pb X R Ld L2 F F2 P P2 Hi H Lg Pl Sn Ct Sc Tr o0 o1 M) (zq_lv b a1 (am 0) ao ii) 40 [.int (xs ii &&& (63 : Int32))] := by
  obtain ⟨m, hm, em⟩ := zn_63 (xs ii)
  by_cases hm2 : m < 40
  · match m, hm2, em with
    | 0, _, em => exact zr_tabIn (v := zn 0) (tgt := 216) (off := 176) em e_tab (by decide +kernel) (by decide +kernel) (by decide) (e_feed hii hL hk hn hN A K f pb X R Ld L2 F F2 P P2 Hi H Lg Pl Sn Ct Sc Tr o0 o1 M hI hA h0 h1)
    | 1, _, em => exact zr_tabIn (v := zn 1) (tgt := 289) (off := 249) em e_tab (by decide +kernel) (by decide +kernel) (by decide) (e_end hii hL hk hn hN A K f pb X R Ld L2 F F2 P P2 Hi H Lg Pl Sn Ct Sc Tr o0 o1 M hI hA h0 h1)
    | 2, _, em => exact zr_tabIn (v := zn 2) (tgt := 314) (off := 274) em e_tab (by decide +kernel) (by decide +kernel) (by decide) (e_land hii hL hk hn hN A K f pb X R Ld L2 F F2 P P2 Hi H Lg Pl Sn Ct Sc Tr o0 o1 M hI hA h0 h1)
    | 3, _, em => exact zr_tabIn (v := zn 3) (tgt := 327) (off := 287) em e_tab (by decide +kernel) (by decide +kernel) (by decide) (e_fault hii hL hk hn hN A K f pb X R Ld L2 F F2 P P2 Hi H Lg Pl Sn Ct Sc Tr o0 o1 M hI hA h0 h1)
    | 4, _, em => exact zr_tabIn (v := zn 4) (tgt := 340) (off := 300) em e_tab (by decide +kernel) (by decide +kernel) (by decide) (e_place hii hL hk hn hN A K f pb X R Ld L2 F F2 P P2 Hi H Lg Pl Sn Ct Sc Tr o0 o1 M hI hA h0 h1)
    | 5, _, em => exact zr_tabIn (v := zn 5) (tgt := 377) (off := 337) em e_tab (by decide +kernel) (by decide +kernel) (by decide) (e_road hii hL hk hn hN A K f pb X R Ld L2 F F2 P P2 Hi H Lg Pl Sn Ct Sc Tr o0 o1 M hI hA h0 h1)
    | 6, _, em => exact zr_tabIn (v := zn 6) (tgt := 426) (off := 386) em e_tab (by decide +kernel) (by decide +kernel) (by decide) (e_man hii hL hk hn hN hl A K f pb X R Ld L2 F F2 P P2 Hi H Lg Pl Sn Ct Sc Tr o0 o1 M hI hA h0 h1)
    | 7, _, em => exact zr_tabIn (v := zn 7) (tgt := 494) (off := 454) em e_tab (by decide +kernel) (by decide +kernel) (by decide) (e_now hii hL hk hn hN A K f pb X R Ld L2 F F2 P P2 Hi H Lg Pl Sn Ct Sc Tr o0 o1 M hI hA h0 h1)
    | 8, _, em => exact zr_tabIn (v := zn 8) (tgt := 519) (off := 479) em e_tab (by decide +kernel) (by decide +kernel) (by decide) (e_swear hii hL hk hn hN A K f pb X R Ld L2 F F2 P P2 Hi H Lg Pl Sn Ct Sc Tr o0 o1 M hI hA h0 h1)
    | 9, _, em => exact zr_tabIn (v := zn 9) (tgt := 568) (off := 528) em e_tab (by decide +kernel) (by decide +kernel) (by decide) (e_order hii hL hk hn hN A K f pb X R Ld L2 F F2 P P2 Hi H Lg Pl Sn Ct Sc Tr o0 o1 M hI hA h0 h1)
    | 10, _, em => exact zr_tabIn (v := zn 10) (tgt := 605) (off := 565) em e_tab (by decide +kernel) (by decide +kernel) (by decide) (e_slip hii hL hk hn hN A K f pb X R Ld L2 F F2 P P2 Hi H Lg Pl Sn Ct Sc Tr o0 o1 M hI hA h0 h1)
    | 11, _, em => exact zr_tabIn (v := zn 11) (tgt := 630) (off := 590) em e_tab (by decide +kernel) (by decide +kernel) (by decide) (e_enter hii hL hk hn hN A K f pb X R Ld L2 F F2 P P2 Hi H Lg Pl Sn Ct Sc Tr o0 o1 M hI hA h0 h1)
    | 12, _, em => exact zr_tabIn (v := zn 12) (tgt := 655) (off := 615) em e_tab (by decide +kernel) (by decide +kernel) (by decide) (e_get hii hL hk hn hN A K f pb X R Ld L2 F F2 P P2 Hi H Lg Pl Sn Ct Sc Tr o0 o1 M hI hA h0 h1)
    | 13, _, em => exact zr_tabIn (v := zn 13) (tgt := 692) (off := 652) em e_tab (by decide +kernel) (by decide +kernel) (by decide) (e_days hii hL hk hn hN A K f pb X R Ld L2 F F2 P P2 Hi H Lg Pl Sn Ct Sc Tr o0 o1 M hI hA h0 h1)
    | 14, _, em => exact zr_tabIn (v := zn 14) (tgt := 729) (off := 689) em e_tab (by decide +kernel) (by decide +kernel) (by decide) (e_undo hii hL hk hn hN A K f pb X R Ld L2 F F2 P P2 Hi H Lg Pl Sn Ct Sc Tr o0 o1 M hI hA h0 h1)
    | 15, _, em => exact zr_tabIn (v := zn 15) (tgt := 742) (off := 702) em e_tab (by decide +kernel) (by decide +kernel) (by decide) (e_far hii hL hk hn hN A K f pb X R Ld L2 F F2 P P2 Hi H Lg Pl Sn Ct Sc Tr o0 o1 M hI hA h0 h1)
    | 16, _, em => exact zr_tabIn (v := zn 16) (tgt := 779) (off := 739) em e_tab (by decide +kernel) (by decide +kernel) (by decide) (e_way hii hL hk hn hN A K f pb X R Ld L2 F F2 P P2 Hi H Lg Pl Sn Ct Sc Tr o0 o1 M hI hA h0 h1)
    | 17, _, em => exact zr_tabIn (v := zn 17) (tgt := 816) (off := 776) em e_tab (by decide +kernel) (by decide +kernel) (by decide) (e_wayAt hii hL hk hn hN A K f pb X R Ld L2 F F2 P P2 Hi H Lg Pl Sn Ct Sc Tr o0 o1 M hI hA h0 h1)
    | 18, _, em => exact zr_tabIn (v := zn 18) (tgt := 841) (off := 801) em e_tab (by decide +kernel) (by decide +kernel) (by decide) (e_plan hii hL hk hn hN hl A K f pb X R Ld L2 F F2 P P2 Hi H Lg Pl Sn Ct Sc Tr o0 o1 M hI hA h0 h1)
    | 19, _, em => exact zr_tabIn (v := zn 19) (tgt := 908) (off := 868) em e_tab (by decide +kernel) (by decide +kernel) (by decide) (e_planAt hii hL hk hn hN A K f pb X R Ld L2 F F2 P P2 Hi H Lg Pl Sn Ct Sc Tr o0 o1 M hI hA h0 h1)
    | 20, _, em => exact zr_tabIn (v := zn 20) (tgt := 933) (off := 893) em e_tab (by decide +kernel) (by decide +kernel) (by decide) (e_sent hii hL hk hn hN A K f pb X R Ld L2 F F2 P P2 Hi H Lg Pl Sn Ct Sc Tr o0 o1 M hI hA h0 h1)
    | 21, _, em => exact zr_tabIn (v := zn 21) (tgt := 946) (off := 906) em e_tab (by decide +kernel) (by decide +kernel) (by decide) (e_sentTo hii hL hk hn hN A K f pb X R Ld L2 F F2 P P2 Hi H Lg Pl Sn Ct Sc Tr o0 o1 M hI hA h0 h1)
    | 22, _, em => exact zr_tabIn (v := zn 22) (tgt := 971) (off := 931) em e_tab (by decide +kernel) (by decide +kernel) (by decide) (e_cut hii hL hk hn hN A K f pb X R Ld L2 F F2 P P2 Hi H Lg Pl Sn Ct Sc Tr o0 o1 M hI hA h0 h1)
    | 23, _, em => exact zr_tabIn (v := zn 23) (tgt := 1008) (off := 968) em e_tab (by decide +kernel) (by decide +kernel) (by decide) (e_cutting hii hL hk hn hN A K f pb X R Ld L2 F F2 P P2 Hi H Lg Pl Sn Ct Sc Tr o0 o1 M hI hA h0 h1)
    | 24, _, em => exact zr_tabIn (v := zn 24) (tgt := 1021) (off := 981) em e_tab (by decide +kernel) (by decide +kernel) (by decide) (e_worst hii hL hk hn hN A K f pb X R Ld L2 F F2 P P2 Hi H Lg Pl Sn Ct Sc Tr o0 o1 M hI hA h0 h1)
    | 25, _, em => exact zr_tabIn (v := zn 25) (tgt := 1058) (off := 1018) em e_tab (by decide +kernel) (by decide +kernel) (by decide) (e_ship hii hL hk hn hN hl A K f pb X R Ld L2 F F2 P P2 Hi H Lg Pl Sn Ct Sc Tr o0 o1 M hI hA h0 h1)
    | 26, _, em => exact zr_tabIn (v := zn 26) (tgt := 1138) (off := 1098) em e_tab (by decide +kernel) (by decide +kernel) (by decide) (e_turned hii hL hk hn hN A K f pb X R Ld L2 F F2 P P2 Hi H Lg Pl Sn Ct Sc Tr o0 o1 M hI hA h0 h1)
    | 27, _, em => exact zr_tabIn (v := zn 27) (tgt := 1163) (off := 1123) em e_tab (by decide +kernel) (by decide +kernel) (by decide) (e_least hii hL hk hn hN A K f pb X R Ld L2 F F2 P P2 Hi H Lg Pl Sn Ct Sc Tr o0 o1 M hI hA h0 h1)
    | 28, _, em => exact zr_tabIn (v := zn 28) (tgt := 1176) (off := 1136) em e_tab (by decide +kernel) (by decide +kernel) (by decide) (e_greatest hii hL hk hn hN A K f pb X R Ld L2 F F2 P P2 Hi H Lg Pl Sn Ct Sc Tr o0 o1 M hI hA h0 h1)
    | 29, _, em => exact zr_tabIn (v := zn 29) (tgt := 1189) (off := 1149) em e_tab (by decide +kernel) (by decide +kernel) (by decide) (e_there hii hL hk hn hN A K f pb X R Ld L2 F F2 P P2 Hi H Lg Pl Sn Ct Sc Tr o0 o1 M hI hA h0 h1)
    | 30, _, em => exact zr_tabIn (v := zn 30) (tgt := 1214) (off := 1174) em e_tab (by decide +kernel) (by decide +kernel) (by decide) (e_oath hii hL hk hn hN A K f pb X R Ld L2 F F2 P P2 Hi H Lg Pl Sn Ct Sc Tr o0 o1 M hI hA h0 h1)
    | 31, _, em => exact zr_tabIn (v := zn 31) (tgt := 1239) (off := 1199) em e_tab (by decide +kernel) (by decide +kernel) (by decide) (e_byteAt hii hL hk hn hN A K f pb X R Ld L2 F F2 P P2 Hi H Lg Pl Sn Ct Sc Tr o0 o1 M hI hA h0 h1)
    | 32, _, em => exact zr_tabIn (v := zn 32) (tgt := 1264) (off := 1224) em e_tab (by decide +kernel) (by decide +kernel) (by decide) (e_odds hii hL hk hn hN A K f pb X R Ld L2 F F2 P P2 Hi H Lg Pl Sn Ct Sc Tr o0 o1 M hI hA h0 h1)
    | 33, _, em => exact zr_tabIn (v := zn 33) (tgt := 1313) (off := 1273) em e_tab (by decide +kernel) (by decide +kernel) (by decide) (e_book hii hL hk hn hN A K f pb X R Ld L2 F F2 P P2 Hi H Lg Pl Sn Ct Sc Tr o0 o1 M hI hA h0 h1)
    | 34, _, em => exact zr_tabIn (v := zn 34) (tgt := 1338) (off := 1298) em e_tab (by decide +kernel) (by decide +kernel) (by decide) (e_told hii hL hk hn hN A K f pb X R Ld L2 F F2 P P2 Hi H Lg Pl Sn Ct Sc Tr o0 o1 M hI hA h0 h1)
    | 35, _, em => exact zr_tabIn (v := zn 35) (tgt := 1363) (off := 1323) em e_tab (by decide +kernel) (by decide +kernel) (by decide) (e_sentence hii hL hk hn hN A K f pb X R Ld L2 F F2 P P2 Hi H Lg Pl Sn Ct Sc Tr o0 o1 M hI hA h0 h1)
    | 36, _, em => exact zr_tabIn (v := zn 36) (tgt := 1376) (off := 1336) em e_tab (by decide +kernel) (by decide +kernel) (by decide) (e_said hii hL hk hn hN A K f pb X R Ld L2 F F2 P P2 Hi H Lg Pl Sn Ct Sc Tr o0 o1 M hI hA h0 h1)
    | 37, _, em => exact zr_tabIn (v := zn 37) (tgt := 1401) (off := 1361) em e_tab (by decide +kernel) (by decide +kernel) (by decide) (e_image hii hL hk hn hN A K f pb X R Ld L2 F F2 P P2 Hi H Lg Pl Sn Ct Sc Tr o0 o1 M hI hA h0 h1)
    | 38, _, em => exact zr_tabIn (v := zn 38) (tgt := 1426) (off := 1386) em e_tab (by decide +kernel) (by decide +kernel) (by decide) (e_restore hii hL hk hn hN A K f pb X R Ld L2 F F2 P P2 Hi H Lg Pl Sn Ct Sc Tr o0 o1 M hI hA h0 h1)
    | 39, _, em => exact zr_tabIn (v := zn 39) (tgt := 1451) (off := 1411) em e_tab (by decide +kernel) (by decide +kernel) (by decide) (e_count hii hL hk hn hN A K f pb X R Ld L2 F F2 P P2 Hi H Lg Pl Sn Ct Sc Tr o0 o1 M hI hA h0 h1)
    | m + 40, h, _ => exact absurd h (by omega)
  · refine zr_tabOut (tgt := 1476) e_tab (Or.inr ?_) (by decide) ?_
    · rw [em, zn_toInt (by omega)]; omega
    · exact zr_widen (k2 := k + 20) (n2 := n + 4000) (by omega) (by omega) (hN A K f pb X R Ld L2 F F2 P P2 Hi H Lg Pl Sn Ct Sc Tr o0 o1 M hI hA h0 h1)
set_option maxRecDepth 100000 in
set_option maxHeartbeats 4000000 in
theorem e_loop {l : Launch} (hl : l.stackTraces = false) {G : zj_G} {b L : Nat} {xs : Nat → Int32} {a1 : Nat} {am : Nat → Nat} {ao : Nat} (hL : L ≤ 3072) : ∀ (d : Nat) {ii k n : Nat}, L ≤ ii + 6 * d + 5 → ii ≤ 3072 → k + 20 * d ≤ 600000 → n + 4000 * d ≤ 7289000 → zq_N l G b L xs a1 am ao ii k n 23 := by
  intro d
  induction d with
  | zero =>
    intro ii k n hd hi hk hn
    intro A K f pb X R Ld L2 F F2 P P2 Hi H Lg Pl Sn Ct Sc Tr o0 o1 M hI hA h0 h1
    refine zr_iload (i := 4) rfl (by decide +kernel) ?_
    refine zr_aload_n (i := 0) rfl (by decide +kernel) ?_
    refine zq_slen (by decide +kernel) ?_
    refine zr_bipush (i := 6) (v := zn 6) rfl (by decide +kernel) ?_
    refine zr_isub (by decide +kernel) ?_
    refine zr_icmp_gt (off := 1452) (tgt := 1482) (by decide +kernel) (by decide) (fun _ => ?_) (fun h => absurd (by rw [e_less hL hi]; omega) h)
    refine zr_iconst (i := 1) (v := 1) rfl (by decide +kernel) ?_
    exact zq_end (by omega) (by omega) (by decide +kernel)
  | succ d ih =>
    intro ii k n hd hi hk hn
    intro A K f pb X R Ld L2 F F2 P P2 Hi H Lg Pl Sn Ct Sc Tr o0 o1 M hI hA h0 h1
    refine zr_iload (i := 4) rfl (by decide +kernel) ?_
    refine zr_aload_n (i := 0) rfl (by decide +kernel) ?_
    refine zq_slen (by decide +kernel) ?_
    refine zr_bipush (i := 6) (v := zn 6) rfl (by decide +kernel) ?_
    refine zr_isub (by decide +kernel) ?_
    refine zr_icmp_gt (off := 1452) (tgt := 1482) (by decide +kernel) (by decide) (fun _ => ?_) (fun h => ?_)
    · refine zr_iconst (i := 1) (v := 1) rfl (by decide +kernel) ?_
      exact zq_end (by omega) (by omega) (by decide +kernel)
    · rw [e_less hL hi] at h
      have hii : ii + 6 ≤ L := by omega
      refine zr_aload_n (i := 0) rfl (by decide +kernel) ?_
      refine zr_iload (i := 4) rfl (by decide +kernel) ?_
      refine zq_sld ?_ (by decide +kernel) ?_
      · rintro (q | q)
        · exact zn_ge0 (by omega) q
        · rw [zn_nat (by omega)] at q; omega
      · rw [zn_nat (by omega)]
        refine zr_bipush (i := 63) (v := 63) rfl (by decide +kernel) ?_
        refine zr_iand (by decide +kernel) ?_
        exact e_call hl hii hL (by omega) (by omega) (e_next (ih (by omega) (by omega) (by omega) (by omega))) hI hA h0 h1
set_option maxRecDepth 100000 in
set_option maxHeartbeats 4000000 in
theorem e_entry {l : Launch} (hl : l.stackTraces = false) {G : zj_G} {b L : Nat} {xs : Nat → Int32} (hL : L ≤ 3072) : zj_J l G M_law [] (zq_F b L xs) 0 0 [] [some (.ref b), none, none, none, none, none, none, none] 0 [] := by
  obtain ⟨r7, e7, hI⟩ := s_start
  refine zr_new (ci := 11) (fs := [.null, .null, .null, .null, .null, .null, .null, .null, .null, .null, .null, .null, .null, .null, .null, .null, .null, .null, .int 0]) rfl rfl zw_1_26 zw_1_27 zw_1_1 (by decide +kernel) ⟨show 0 + 1 ≤ 601024 by omega, show 0 + 19 ≤ 7293034 by omega⟩ (by decide +kernel) (fun q1 => ?_)
  refine zr_dup rfl (by decide +kernel) ?_
  refine zr_callI (c_X11_init l G (fun _ => q1) r7 e7) (WW' := fun b1 => [w_Xx G (zj_A2 q1 b1) (fun _ _ => none) i_Xx, w_Rd G (zj_A2 q1 b1 1) r7, w_Ld G (zj_A2 q1 b1 2) i_Ld, w_Ld G (zj_A2 q1 b1 3) i_Ld, w_Fk G (zj_A2 q1 b1 4) i_Fk, w_Fk G (zj_A2 q1 b1 5) i_Fk, w_Ph G (zj_A2 q1 b1 6) i_Ph, w_Ph G (zj_A2 q1 b1 7) i_Ph, w_Hi G (zj_A2 q1 b1 8) (fun i => zj_A2 q1 b1 (9 + i)) i_Hi, w_H8 G (fun i => zj_A2 q1 b1 (9 + i)) i_H8, w_Lg G (zj_A2 q1 b1 17) i_Lg, w_P0 G (zj_A2 q1 b1 18) i_Pl, w_Sn G (zj_A2 q1 b1 19) i_Sn, w_Ct G (zj_A2 q1 b1 20) i_Ct, w_Sc G (zj_A2 q1 b1 21) i_Sc, w_Tr G (zj_A2 q1 b1 22) i_Tr]) (st := [.ref q1]) [0] rfl rfl (fun _ => Nat.le_of_ble_eq_true rfl) (fun _ => rfl) rfl nm_X11_init rfl rfl zw_1_28 zw_1_29 zw_1_1 zw_1_30 rfl (Nat.le_of_ble_eq_true rfl) ⟨show 0 + 1 + 75 ≤ 601024 by omega, show 0 + 19 + 3907 ≤ 7293034 by omega⟩ (by decide +kernel) (fun b1 => ?_)
  refine zr_astore_n (i := 1) rfl (by decide +kernel) ?_
  refine zr_new (ci := 12) (fs := [.int 0, .null, .int 0, .int 0, .int 0, .int 0, .int 0, .int 0, .int 0, .int 0, .int 0, .int 0, .long 0, .int 0, .null, .null, .null, .null, .null, .null, .null, .null, .null, .int 0, .int 0, .int 0, .int 0, .null, .int 0, .null, .null, .null, .null, .int 0, .null, .null, .null, .int 0, .int 0, .null, .int 0, .int 0, .int 0, .null, .int 0, .null, .null, .int 0, .int 0, .null, .int 0, .int 0, .int 0, .int 0]) rfl rfl zw_6_23 zw_6_24 zw_1_18 (by decide +kernel) ⟨show 0 + 1 + 75 + 1 ≤ 601024 by omega, show 0 + 19 + 3907 + 54 ≤ 7293034 by omega⟩ (by decide +kernel) (fun q2 => ?_)
  refine zr_dup rfl (by decide +kernel) ?_
  refine zr_callI (c_X12_init l G (fun _ => q2)) (WW' := fun b2 => [w_Xx G (zj_A2 q1 b1) (fun _ _ => none) i_Xx, w_Rd G (zj_A2 q1 b1 1) r7, w_Ld G (zj_A2 q1 b1 2) i_Ld, w_Ld G (zj_A2 q1 b1 3) i_Ld, w_Fk G (zj_A2 q1 b1 4) i_Fk, w_Fk G (zj_A2 q1 b1 5) i_Fk, w_Ph G (zj_A2 q1 b1 6) i_Ph, w_Ph G (zj_A2 q1 b1 7) i_Ph, w_Hi G (zj_A2 q1 b1 8) (fun i => zj_A2 q1 b1 (9 + i)) i_Hi, w_H8 G (fun i => zj_A2 q1 b1 (9 + i)) i_H8, w_Lg G (zj_A2 q1 b1 17) i_Lg, w_P0 G (zj_A2 q1 b1 18) i_Pl, w_Sn G (zj_A2 q1 b1 19) i_Sn, w_Ct G (zj_A2 q1 b1 20) i_Ct, w_Sc G (zj_A2 q1 b1 21) i_Sc, w_Tr G (zj_A2 q1 b1 22) i_Tr, w_Mo G (zj_ad q2 b2) i_Mo]) (st := [.ref q2]) [16] rfl rfl (fun _ => Nat.le_of_ble_eq_true rfl) (fun _ => rfl) rfl nm_X12_init rfl rfl zw_6_25 zw_6_26 zw_1_18 zw_6_27 rfl (Nat.le_of_ble_eq_true rfl) ⟨show 0 + 1 + 75 + 1 + 23 ≤ 601024 by omega, show 0 + 19 + 3907 + 54 + 12228 ≤ 7293034 by omega⟩ (by decide +kernel) (fun b2 => ?_)
  refine zr_astore_n (i := 2) rfl (by decide +kernel) ?_
  refine zr_iconst (i := 1) (v := 1) rfl (by decide +kernel) ?_
  refine zr_newl (N := 1) zw_1_145 (by decide) (by decide) rfl ⟨show 0 + 1 + 75 + 1 + 23 + 1 ≤ 601024 by omega, show 0 + 19 + 3907 + 54 + 12228 + 1 ≤ 7293034 by omega⟩ (by decide +kernel) (fun ao => ?_)
  refine zr_astore_n (i := 3) rfl (by decide +kernel) ?_
  refine zr_iconst (i := 0) (v := zn 0) rfl (by decide +kernel) ?_
  refine zr_istore (i := 4) rfl (by decide +kernel) ?_
  exact zr_widen (k2 := 101) (n2 := 16209) (show 0 + 1 + 75 + 1 + 23 + 1 ≤ 101 by omega) (show 0 + 19 + 3907 + 54 + 12228 + 1 ≤ 16209 by omega) (e_loop hl hL 512 (ii := 0) (by omega) (by omega) (by omega) (by omega) (zj_A2 q1 b1) (fun _ _ => none) (fun _ => 0) false i_Xx r7 i_Ld i_Ld i_Fk i_Fk i_Ph i_Ph i_Hi i_H8 i_Lg i_Pl i_Sn i_Ct i_Sc i_Tr none none i_Mo hI rfl rfl rfl)
