def M_X0_openEnd : zj_M := (RX0, cX0_openEnd, 6, (some .int), { frames := 1, cells := 0, slots := 0, locals := 23 }, false)
theorem nm_X0_openEnd : zj_nm yX0_openEnd 4 := ⟨by decide +kernel, by decide +kernel, by decide +kernel⟩
def f_X0_openEnd_b15  (s0 : CtT) (s1 : LdT)  (x2 : Int32) (x3 : Int32) (z0 : Int32) : Option (Int32) := ((f_X3_ofRoad s1 x2 (0 : Int32)).bind fun q1 => (if q1 = x3 then (if zb_in x2 16 = true then (if ((Ct_flows s0) x2.toNatClampNeg) < z0 then ((f_X3_ofRoad s1 x2 (1 : Int32)).bind fun q3 => some q3) else some (-1 : Int32)) else none) else ((f_X3_ofRoad s1 x2 (1 : Int32)).bind fun q4 => (if q4 = x3 then (if zb_in x2 16 = true then (if (-((Ct_flows s0) x2.toNatClampNeg)) < z0 then ((f_X3_ofRoad s1 x2 (0 : Int32)).bind fun q6 => some q6) else some (-1 : Int32)) else none) else some (-1 : Int32)))))
def f_X0_openEnd  (s0 : CtT) (s1 : LdT) (x2 : Int32) (x3 : Int32) (x4 : Int32) : Option (Int32) := (if ((zr_shr x4 x2) &&& (1 : Int32)) = (1 : Int32) then f_X0_openEnd_b15 s0 s1 x2 x3 (5 : Int32) else f_X0_openEnd_b15 s0 s1 x2 x3 (1 : Int32))
set_option maxRecDepth 100000 in
set_option maxHeartbeats 4000000 in
theorem t_X0_openEnd_b15 (l : Launch) (G : zj_G) (a0 : Nat → Nat) (a1 : Nat → Nat) (W0 : List va_W) (r : Int32) (s0 : CtT) (s1 : LdT)   (x2 : Int32) (x3 : Int32) (z0 : Int32) (hf : f_X0_openEnd_b15 s0 s1 x2 x3 z0 = some r) : zj_J l G M_X0_openEnd W0 (zj_ret G M_X0_openEnd W0 (some (.int r)) (fun _ => [w_Ct G a0 s0, w_Ld G a1 s1])) 0 0 [w_Ct G a0 s0, w_Ld G a1 s1] [some (.ref (a0 0)), some (.ref (a1 0)), some (.int x2), some (.int x3), none, none] 15 [.int z0] := by
  unfold f_X0_openEnd_b15 at hf
  obtain ⟨q1, e1, hf⟩ := zbi_of hf
  refine zr_run [(.istore 5, 0, 0, 0, .null), (.aload_n 1, 0, 0, 0, .null), (.iload_n 2, 0, 0, 0, .null), (.iconst 0, 0, 0, 0, .int (0 : Int32))] [] (WW' := [w_Ct G a0 s0, w_Ld G a1 s1]) (lv' := [some (.ref (a0 0)), some (.ref (a1 0)), some (.int x2), some (.int x3), none, some (.int z0)]) (pc' := 20) (st' := [.int (0 : Int32), .int x2, .ref (a1 0)]) (by decide +kernel) rfl rfl ⟨trivial, trivial, trivial, trivial, trivial⟩ ?_
  refine zr_callV (c_X3_ofRoad l G a1 s1 x2 (0 : Int32) q1 e1) (WW' := fun _ => [w_Ct G a0 s0, w_Ld G a1 s1]) (st := []) (st' := [.int q1]) [1] rfl rfl (fun _ => Nat.le_of_ble_eq_true rfl) (fun _ => rfl) rfl rfl nm_X3_ofRoad zw_4_150 zw_3_80 zw_3_81 zw_1_7 zw_3_80n rfl rfl rfl (Nat.le_of_ble_eq_true rfl) ⟨Nat.le_of_ble_eq_true rfl, Nat.le_of_ble_eq_true rfl⟩ (by decide +kernel) (fun _ => ?_)
  refine zr_run [(.iload_n 3, 0, 0, 0, .null)] [] (WW' := [w_Ct G a0 s0, w_Ld G a1 s1]) (lv' := [some (.ref (a0 0)), some (.ref (a1 0)), some (.int x2), some (.int x3), none, some (.int z0)]) (pc' := 24) (st' := [.int x3, .int q1]) (by decide +kernel) rfl rfl ⟨trivial, trivial⟩ ?_
  refine zr_icmp_ne (off := 25) (tgt := 49) (by decide +kernel) (by decide) (fun hc => ?_) (fun hc => ?_)
  · have hf := zift hf hc
    obtain ⟨h2, hf⟩ := zck_of hf
    refine zr_run [(.aload_n 0, 0, 0, 0, .null), (.getfield 15, 0, 0, 1, .null), (.iload_n 2, 0, 0, 0, .null), (.iaload, 0, 1, 0, .null), (.iload 5, 0, 0, 0, .null)] [] (WW' := [w_Ct G a0 s0, w_Ld G a1 s1]) (lv' := [some (.ref (a0 0)), some (.ref (a1 0)), some (.int x2), some (.int x3), none, some (.int z0)]) (pc' := 35) (st' := [.int z0, .int ((Ct_flows s0) x2.toNatClampNeg)]) (by decide +kernel) rfl rfl ⟨trivial, ⟨rfl, rfl, zw_2_101⟩, trivial, ⟨rfl, rfl, h2⟩, trivial, trivial⟩ ?_
    refine zr_icmp_ge (off := 12) (tgt := 47) (by decide +kernel) (by decide) (fun hc => ?_) (fun hc => ?_)
    · have hf := zift hf hc
      obtain ⟨q3, e3, hf⟩ := zbi_of hf
      refine zr_run [(.aload_n 1, 0, 0, 0, .null), (.iload_n 2, 0, 0, 0, .null), (.iconst 1, 0, 0, 0, .int (1 : Int32))] [] (WW' := [w_Ct G a0 s0, w_Ld G a1 s1]) (lv' := [some (.ref (a0 0)), some (.ref (a1 0)), some (.int x2), some (.int x3), none, some (.int z0)]) (pc' := 41) (st' := [.int (1 : Int32), .int x2, .ref (a1 0)]) (by decide +kernel) rfl rfl ⟨trivial, trivial, trivial, trivial⟩ ?_
      refine zr_callV (c_X3_ofRoad l G a1 s1 x2 (1 : Int32) q3 e3) (WW' := fun _ => [w_Ct G a0 s0, w_Ld G a1 s1]) (st := []) (st' := [.int q3]) [1] rfl rfl (fun _ => Nat.le_of_ble_eq_true rfl) (fun _ => rfl) rfl rfl nm_X3_ofRoad zw_4_150 zw_3_80 zw_3_81 zw_1_7 zw_3_80n rfl rfl rfl (Nat.le_of_ble_eq_true rfl) ⟨Nat.le_of_ble_eq_true rfl, Nat.le_of_ble_eq_true rfl⟩ (by decide +kernel) (fun _ => ?_)
      refine zr_goto (off := 4) (tgt := 48) (by decide +kernel) (by decide) ?_
      obtain rfl := Option.some.inj hf
      exact zr_iret (b0 := fun _ => 0) (by decide +kernel) rfl rfl rfl rfl rfl
    · have hf := ziff hf hc
      refine zr_run [(.iconst (-1), 0, 0, 0, .int (-1 : Int32))] [] (WW' := [w_Ct G a0 s0, w_Ld G a1 s1]) (lv' := [some (.ref (a0 0)), some (.ref (a1 0)), some (.int x2), some (.int x3), none, some (.int z0)]) (pc' := 48) (st' := [.int (-1 : Int32)]) (by decide +kernel) rfl rfl ⟨trivial, trivial⟩ ?_
      obtain rfl := Option.some.inj hf
      exact zr_iret (b0 := fun _ => 0) (by decide +kernel) rfl rfl rfl rfl rfl
  · have hf := ziff hf hc
    obtain ⟨q4, e4, hf⟩ := zbi_of hf
    refine zr_run [(.aload_n 1, 0, 0, 0, .null), (.iload_n 2, 0, 0, 0, .null), (.iconst 1, 0, 0, 0, .int (1 : Int32))] [] (WW' := [w_Ct G a0 s0, w_Ld G a1 s1]) (lv' := [some (.ref (a0 0)), some (.ref (a1 0)), some (.int x2), some (.int x3), none, some (.int z0)]) (pc' := 52) (st' := [.int (1 : Int32), .int x2, .ref (a1 0)]) (by decide +kernel) rfl rfl ⟨trivial, trivial, trivial, trivial⟩ ?_
    refine zr_callV (c_X3_ofRoad l G a1 s1 x2 (1 : Int32) q4 e4) (WW' := fun _ => [w_Ct G a0 s0, w_Ld G a1 s1]) (st := []) (st' := [.int q4]) [1] rfl rfl (fun _ => Nat.le_of_ble_eq_true rfl) (fun _ => rfl) rfl rfl nm_X3_ofRoad zw_4_150 zw_3_80 zw_3_81 zw_1_7 zw_3_80n rfl rfl rfl (Nat.le_of_ble_eq_true rfl) ⟨Nat.le_of_ble_eq_true rfl, Nat.le_of_ble_eq_true rfl⟩ (by decide +kernel) (fun _ => ?_)
    refine zr_run [(.iload_n 3, 0, 0, 0, .null)] [] (WW' := [w_Ct G a0 s0, w_Ld G a1 s1]) (lv' := [some (.ref (a0 0)), some (.ref (a1 0)), some (.int x2), some (.int x3), none, some (.int z0)]) (pc' := 56) (st' := [.int x3, .int q4]) (by decide +kernel) rfl rfl ⟨trivial, trivial⟩ ?_
    refine zr_icmp_ne (off := 26) (tgt := 82) (by decide +kernel) (by decide) (fun hc => ?_) (fun hc => ?_)
    · have hf := zift hf hc
      obtain ⟨h5, hf⟩ := zck_of hf
      refine zr_run [(.aload_n 0, 0, 0, 0, .null), (.getfield 15, 0, 0, 1, .null), (.iload_n 2, 0, 0, 0, .null), (.iaload, 0, 1, 0, .null), (.ineg, 0, 0, 0, .null), (.iload 5, 0, 0, 0, .null)] [] (WW' := [w_Ct G a0 s0, w_Ld G a1 s1]) (lv' := [some (.ref (a0 0)), some (.ref (a1 0)), some (.int x2), some (.int x3), none, some (.int z0)]) (pc' := 68) (st' := [.int z0, .int (-((Ct_flows s0) x2.toNatClampNeg))]) (by decide +kernel) rfl rfl ⟨trivial, ⟨rfl, rfl, zw_2_101⟩, trivial, ⟨rfl, rfl, h5⟩, trivial, trivial, trivial⟩ ?_
      refine zr_icmp_ge (off := 12) (tgt := 80) (by decide +kernel) (by decide) (fun hc => ?_) (fun hc => ?_)
      · have hf := zift hf hc
        obtain ⟨q6, e6, hf⟩ := zbi_of hf
        refine zr_run [(.aload_n 1, 0, 0, 0, .null), (.iload_n 2, 0, 0, 0, .null), (.iconst 0, 0, 0, 0, .int (0 : Int32))] [] (WW' := [w_Ct G a0 s0, w_Ld G a1 s1]) (lv' := [some (.ref (a0 0)), some (.ref (a1 0)), some (.int x2), some (.int x3), none, some (.int z0)]) (pc' := 74) (st' := [.int (0 : Int32), .int x2, .ref (a1 0)]) (by decide +kernel) rfl rfl ⟨trivial, trivial, trivial, trivial⟩ ?_
        refine zr_callV (c_X3_ofRoad l G a1 s1 x2 (0 : Int32) q6 e6) (WW' := fun _ => [w_Ct G a0 s0, w_Ld G a1 s1]) (st := []) (st' := [.int q6]) [1] rfl rfl (fun _ => Nat.le_of_ble_eq_true rfl) (fun _ => rfl) rfl rfl nm_X3_ofRoad zw_4_150 zw_3_80 zw_3_81 zw_1_7 zw_3_80n rfl rfl rfl (Nat.le_of_ble_eq_true rfl) ⟨Nat.le_of_ble_eq_true rfl, Nat.le_of_ble_eq_true rfl⟩ (by decide +kernel) (fun _ => ?_)
        refine zr_goto (off := 4) (tgt := 81) (by decide +kernel) (by decide) ?_
        obtain rfl := Option.some.inj hf
        exact zr_iret (b0 := fun _ => 0) (by decide +kernel) rfl rfl rfl rfl rfl
      · have hf := ziff hf hc
        refine zr_run [(.iconst (-1), 0, 0, 0, .int (-1 : Int32))] [] (WW' := [w_Ct G a0 s0, w_Ld G a1 s1]) (lv' := [some (.ref (a0 0)), some (.ref (a1 0)), some (.int x2), some (.int x3), none, some (.int z0)]) (pc' := 81) (st' := [.int (-1 : Int32)]) (by decide +kernel) rfl rfl ⟨trivial, trivial⟩ ?_
        obtain rfl := Option.some.inj hf
        exact zr_iret (b0 := fun _ => 0) (by decide +kernel) rfl rfl rfl rfl rfl
    · have hf := ziff hf hc
      refine zr_run [(.iconst (-1), 0, 0, 0, .int (-1 : Int32))] [] (WW' := [w_Ct G a0 s0, w_Ld G a1 s1]) (lv' := [some (.ref (a0 0)), some (.ref (a1 0)), some (.int x2), some (.int x3), none, some (.int z0)]) (pc' := 83) (st' := [.int (-1 : Int32)]) (by decide +kernel) rfl rfl ⟨trivial, trivial⟩ ?_
      obtain rfl := Option.some.inj hf
      exact zr_iret (b0 := fun _ => 0) (by decide +kernel) rfl rfl rfl rfl rfl
set_option maxRecDepth 100000 in
set_option maxHeartbeats 4000000 in
theorem c_X0_openEnd (l : Launch) (G : zj_G) (a0 : Nat → Nat) (a1 : Nat → Nat) (s0 : CtT) (s1 : LdT) (x2 : Int32) (x3 : Int32) (x4 : Int32) (r : Int32) (hf : f_X0_openEnd s0 s1 x2 x3 x4 = some r) : zj_C l G M_X0_openEnd yX0_openEnd [w_Ct G a0 s0, w_Ld G a1 s1] [.ref (a0 0), .ref (a1 0), .int x2, .int x3, .int x4] (some (.int r)) (fun _ => [w_Ct G a0 s0, w_Ld G a1 s1]) := by
  have key : ∀ W0 : List va_W, zj_J l G M_X0_openEnd W0 (zj_ret G M_X0_openEnd W0 (some (.int r)) (fun _ => [w_Ct G a0 s0, w_Ld G a1 s1])) 0 0 [w_Ct G a0 s0, w_Ld G a1 s1] [some (.ref (a0 0)), some (.ref (a1 0)), some (.int x2), some (.int x3), some (.int x4), none] 0 [] := by
    intro W0
    unfold f_X0_openEnd at hf
    refine zr_run [(.iload 4, 0, 0, 0, .null), (.iload_n 2, 0, 0, 0, .null), (.ishr, 0, 0, 0, .null), (.iconst 1, 0, 0, 0, .int (1 : Int32)), (.iand, 0, 0, 0, .null), (.iconst 1, 0, 0, 0, .int (1 : Int32))] [] (WW' := [w_Ct G a0 s0, w_Ld G a1 s1]) (lv' := [some (.ref (a0 0)), some (.ref (a1 0)), some (.int x2), some (.int x3), some (.int x4), none]) (pc' := 7) (st' := [.int (1 : Int32), .int ((zr_shr x4 x2) &&& (1 : Int32))]) (by decide +kernel) rfl rfl ⟨trivial, trivial, trivial, trivial, trivial, trivial, trivial⟩ ?_
    refine zr_icmp_ne (off := 7) (tgt := 14) (by decide +kernel) (by decide) (fun hc => ?_) (fun hc => ?_)
    · have hf := zift hf hc
      refine zr_run [(.iconst 5, 0, 0, 0, .int (5 : Int32))] [] (WW' := [w_Ct G a0 s0, w_Ld G a1 s1]) (lv' := [some (.ref (a0 0)), some (.ref (a1 0)), some (.int x2), some (.int x3), some (.int x4), none]) (pc' := 11) (st' := [.int (5 : Int32)]) (by decide +kernel) rfl rfl ⟨trivial, trivial⟩ ?_
      refine zr_goto (off := 4) (tgt := 15) (by decide +kernel) (by decide) ?_
      refine zr_run [] [4] (WW' := [w_Ct G a0 s0, w_Ld G a1 s1]) (lv' := [some (.ref (a0 0)), some (.ref (a1 0)), some (.int x2), some (.int x3), none, none]) (pc' := 15) (st' := [.int (5 : Int32)]) (by decide +kernel) rfl rfl trivial ?_
      exact t_X0_openEnd_b15 l G a0 a1 W0 r s0 s1 x2 x3 (5 : Int32) hf
    · have hf := ziff hf hc
      refine zr_run [(.iconst 1, 0, 0, 0, .int (1 : Int32))] [4] (WW' := [w_Ct G a0 s0, w_Ld G a1 s1]) (lv' := [some (.ref (a0 0)), some (.ref (a1 0)), some (.int x2), some (.int x3), none, none]) (pc' := 15) (st' := [.int (1 : Int32)]) (by decide +kernel) rfl rfl ⟨trivial, trivial⟩ ?_
      exact t_X0_openEnd_b15 l G a0 a1 W0 r s0 s1 x2 x3 (1 : Int32) hf
  exact zj_entry [some (.ref (a0 0)), some (.ref (a1 0)), some (.int x2), some (.int x3), some (.int x4), none] (by decide +kernel) rfl (by decide) (Nat.le_of_ble_eq_true rfl) rfl rfl (key _)
def M_X0_search : zj_M := (RX0, cX0_search, 10, (some .boolean), { frames := 2, cells := 0, slots := 0, locals := 48 }, false)
theorem nm_X0_search : zj_nm yX0_search 4 := ⟨by decide +kernel, by decide +kernel, by decide +kernel⟩
def f_X0_search_b120  (s0 : CtT) (s1 : LdT) (k21 : CtT → Int32 → Int32 → Int32 → Int32 → Int32 → Option (Int32 × CtT)) (k47 : CtT → Int32 → Int32 → Int32 → Int32 → Int32 → Int32 → Int32 → Option (Int32 × CtT)) (x2 : Int32) (x3 : Int32) (x4 : Int32) (x5 : Int32) (x6 : Int32) (x7 : Int32) (x8 : Int32) : Option (Int32 × CtT) := k47 s0 x2 x3 x4 x5 x6 x7 (x8 + (1 : Int32))
def f_X0_search_H47  (s0 : CtT) (s1 : LdT) (k21 : CtT → Int32 → Int32 → Int32 → Int32 → Int32 → Option (Int32 × CtT)) (k47 : CtT → Int32 → Int32 → Int32 → Int32 → Int32 → Int32 → Int32 → Option (Int32 × CtT)) (x2 : Int32) (x3 : Int32) (x4 : Int32) (x5 : Int32) (x6 : Int32) (x7 : Int32) (x8 : Int32) : Option (Int32 × CtT) := (if x8 < (Ld_roads s1) then ((f_X0_openEnd s0 s1 x8 x7 x4).bind fun q4 => (if q4 = (-1 : Int32) then f_X0_search_b120 s0 s1 k21 k47 x2 x3 x4 x5 x6 x7 x8 else (if q4 = x2 then f_X0_search_b120 s0 s1 k21 k47 x2 x3 x4 x5 x6 x7 x8 else (if zb_in q4 10 = true then (if ((Ct_cameBy s0) q4.toNatClampNeg) = (-1 : Int32) then (if x5 < (10 : Int32) then (if zb_in q4 10 = true then (zlet (Ct_s_cameBy s0 ((upd (Ct_cameBy s0) q4.toNatClampNeg x8))) fun y7 => (if zb_in x5 10 = true then (zlet (Ct_s_queue y7 ((upd (Ct_queue y7) x5.toNatClampNeg q4))) fun y9 => f_X0_search_b120 y9 s1 k21 k47 x2 x3 x4 (x5 + (1 : Int32)) x6 x7 x8) else none)) else none) else f_X0_search_b120 s0 s1 k21 k47 x2 x3 x4 x5 x6 x7 x8) else f_X0_search_b120 s0 s1 k21 k47 x2 x3 x4 x5 x6 x7 x8) else none)))) else (if zb_in x3 10 = true then (if ((Ct_cameBy s0) x3.toNatClampNeg) = (-1 : Int32) then k21 s0 x2 x3 x4 x5 (x6 + (1 : Int32)) else some ((1 : Int32), s0)) else none))
def f_X0_search_L47  (s1 : LdT) (k21 : CtT → Int32 → Int32 → Int32 → Int32 → Int32 → Option (Int32 × CtT)) : Nat → CtT → Int32 → Int32 → Int32 → Int32 → Int32 → Int32 → Int32 → Option (Int32 × CtT)
  | 0 => fun _ _ _ _ _ _ _ _ => none
  | n + 1 => fun s0 x2 x3 x4 x5 x6 x7 x8 => f_X0_search_H47 s0 s1 k21 (f_X0_search_L47 s1 k21 n) x2 x3 x4 x5 x6 x7 x8
def f_X0_search_H21  (s0 : CtT) (s1 : LdT) (k21 : CtT → Int32 → Int32 → Int32 → Int32 → Int32 → Option (Int32 × CtT)) (x2 : Int32) (x3 : Int32) (x4 : Int32) (x5 : Int32) (x6 : Int32) : Option (Int32 × CtT) := (if x6 < x5 then (if x6 < (10 : Int32) then (if zb_in x6 10 = true then f_X0_search_L47 s1 k21 zFU s0 x2 x3 x4 x5 x6 ((Ct_queue s0) x6.toNatClampNeg) (0 : Int32) else none) else some ((0 : Int32), s0)) else some ((0 : Int32), s0))
def f_X0_search_L21  (s1 : LdT)  : Nat → CtT → Int32 → Int32 → Int32 → Int32 → Int32 → Option (Int32 × CtT)
  | 0 => fun _ _ _ _ _ _ => none
  | n + 1 => fun s0 x2 x3 x4 x5 x6 => f_X0_search_H21 s0 s1 (f_X0_search_L21 s1 n) x2 x3 x4 x5 x6
def f_X0_search  (s0 : CtT) (s1 : LdT) (x2 : Int32) (x3 : Int32) (x4 : Int32) : Option (Int32 × CtT) := (zlet (Ct_s_cameBy s0 ((zr_fill 10 (Ct_cameBy s0) (-1 : Int32)))) fun y1 => (zlet (Ct_s_queue y1 ((upd (Ct_queue y1) (0 : Int32).toNatClampNeg x2))) fun y2 => f_X0_search_L21 s1 zFU y2 x2 x3 x4 (1 : Int32) (0 : Int32)))
set_option maxRecDepth 100000 in
set_option maxHeartbeats 4000000 in
theorem t_X0_search_b120 (l : Launch) (G : zj_G) (a0 : Nat → Nat) (a1 : Nat → Nat) (W0 : List va_W) (r : Int32 × CtT) (s0 : CtT) (s1 : LdT) (k21 : CtT → Int32 → Int32 → Int32 → Int32 → Int32 → Option (Int32 × CtT)) (k47 : CtT → Int32 → Int32 → Int32 → Int32 → Int32 → Int32 → Int32 → Option (Int32 × CtT)) (hk21 : ∀ (s0 : CtT) (x2 : Int32) (x3 : Int32) (x4 : Int32) (x5 : Int32) (x6 : Int32), k21 s0 x2 x3 x4 x5 x6 = some r → zj_J l G M_X0_search W0 (zj_ret G M_X0_search W0 (some (.int r.1)) (fun _ => [w_Ct G a0 r.2, w_Ld G a1 s1])) 0 0 [w_Ct G a0 s0, w_Ld G a1 s1] [some (.ref (a0 0)), some (.ref (a1 0)), some (.int x2), some (.int x3), some (.int x4), some (.int x5), some (.int x6), none, none, none] 21 []) (hk47 : ∀ (s0 : CtT) (x2 : Int32) (x3 : Int32) (x4 : Int32) (x5 : Int32) (x6 : Int32) (x7 : Int32) (x8 : Int32), k47 s0 x2 x3 x4 x5 x6 x7 x8 = some r → zj_J l G M_X0_search W0 (zj_ret G M_X0_search W0 (some (.int r.1)) (fun _ => [w_Ct G a0 r.2, w_Ld G a1 s1])) 0 0 [w_Ct G a0 s0, w_Ld G a1 s1] [some (.ref (a0 0)), some (.ref (a1 0)), some (.int x2), some (.int x3), some (.int x4), some (.int x5), some (.int x6), some (.int x7), some (.int x8), none] 47 []) (x2 : Int32) (x3 : Int32) (x4 : Int32) (x5 : Int32) (x6 : Int32) (x7 : Int32) (x8 : Int32) (hf : f_X0_search_b120 s0 s1 k21 k47 x2 x3 x4 x5 x6 x7 x8 = some r) : zj_J l G M_X0_search W0 (zj_ret G M_X0_search W0 (some (.int r.1)) (fun _ => [w_Ct G a0 r.2, w_Ld G a1 s1])) 0 0 [w_Ct G a0 s0, w_Ld G a1 s1] [some (.ref (a0 0)), some (.ref (a1 0)), some (.int x2), some (.int x3), some (.int x4), some (.int x5), some (.int x6), some (.int x7), some (.int x8), none] 120 [] := by
  unfold f_X0_search_b120 at hf
  refine zr_run [(.iinc 8 1, 0, 0, 0, .int (1 : Int32))] [] (WW' := [w_Ct G a0 s0, w_Ld G a1 s1]) (lv' := [some (.ref (a0 0)), some (.ref (a1 0)), some (.int x2), some (.int x3), some (.int x4), some (.int x5), some (.int x6), some (.int x7), some (.int (x8 + (1 : Int32))), none]) (pc' := 123) (st' := []) (by decide +kernel) rfl rfl ⟨trivial, trivial⟩ ?_
  refine zr_goto (off := -76) (tgt := 47) (by decide +kernel) (by decide) ?_
  exact hk47 s0 x2 x3 x4 x5 x6 x7 (x8 + (1 : Int32)) hf
set_option maxRecDepth 100000 in
set_option maxHeartbeats 4000000 in
theorem t_X0_search_H47 (l : Launch) (G : zj_G) (a0 : Nat → Nat) (a1 : Nat → Nat) (W0 : List va_W) (r : Int32 × CtT) (s0 : CtT) (s1 : LdT) (k21 : CtT → Int32 → Int32 → Int32 → Int32 → Int32 → Option (Int32 × CtT)) (k47 : CtT → Int32 → Int32 → Int32 → Int32 → Int32 → Int32 → Int32 → Option (Int32 × CtT)) (hk21 : ∀ (s0 : CtT) (x2 : Int32) (x3 : Int32) (x4 : Int32) (x5 : Int32) (x6 : Int32), k21 s0 x2 x3 x4 x5 x6 = some r → zj_J l G M_X0_search W0 (zj_ret G M_X0_search W0 (some (.int r.1)) (fun _ => [w_Ct G a0 r.2, w_Ld G a1 s1])) 0 0 [w_Ct G a0 s0, w_Ld G a1 s1] [some (.ref (a0 0)), some (.ref (a1 0)), some (.int x2), some (.int x3), some (.int x4), some (.int x5), some (.int x6), none, none, none] 21 []) (hk47 : ∀ (s0 : CtT) (x2 : Int32) (x3 : Int32) (x4 : Int32) (x5 : Int32) (x6 : Int32) (x7 : Int32) (x8 : Int32), k47 s0 x2 x3 x4 x5 x6 x7 x8 = some r → zj_J l G M_X0_search W0 (zj_ret G M_X0_search W0 (some (.int r.1)) (fun _ => [w_Ct G a0 r.2, w_Ld G a1 s1])) 0 0 [w_Ct G a0 s0, w_Ld G a1 s1] [some (.ref (a0 0)), some (.ref (a1 0)), some (.int x2), some (.int x3), some (.int x4), some (.int x5), some (.int x6), some (.int x7), some (.int x8), none] 47 []) (x2 : Int32) (x3 : Int32) (x4 : Int32) (x5 : Int32) (x6 : Int32) (x7 : Int32) (x8 : Int32) (hf : f_X0_search_H47 s0 s1 k21 k47 x2 x3 x4 x5 x6 x7 x8 = some r) : zj_J l G M_X0_search W0 (zj_ret G M_X0_search W0 (some (.int r.1)) (fun _ => [w_Ct G a0 r.2, w_Ld G a1 s1])) 0 0 [w_Ct G a0 s0, w_Ld G a1 s1] [some (.ref (a0 0)), some (.ref (a1 0)), some (.int x2), some (.int x3), some (.int x4), some (.int x5), some (.int x6), some (.int x7), some (.int x8), none] 47 [] := by
  unfold f_X0_search_H47 at hf
  refine zr_run [(.iload 8, 0, 0, 0, .null), (.aload_n 1, 0, 0, 0, .null), (.getfield 29, 1, 0, 1, .null)] [] (WW' := [w_Ct G a0 s0, w_Ld G a1 s1]) (lv' := [some (.ref (a0 0)), some (.ref (a1 0)), some (.int x2), some (.int x3), some (.int x4), some (.int x5), some (.int x6), some (.int x7), some (.int x8), none]) (pc' := 53) (st' := [.int (Ld_roads s1), .int x8]) (by decide +kernel) rfl rfl ⟨trivial, trivial, ⟨rfl, rfl, zw_1_156⟩, trivial⟩ ?_
  refine zr_icmp_ge (off := 73) (tgt := 126) (by decide +kernel) (by decide) (fun hc => ?_) (fun hc => ?_)
  · have hf := zift hf hc
    obtain ⟨q4, e4, hf⟩ := zbi_of hf
    refine zr_run [(.aload_n 0, 0, 0, 0, .null), (.aload_n 1, 0, 0, 0, .null), (.iload 8, 0, 0, 0, .null), (.iload 7, 0, 0, 0, .null), (.iload 4, 0, 0, 0, .null)] [] (WW' := [w_Ct G a0 s0, w_Ld G a1 s1]) (lv' := [some (.ref (a0 0)), some (.ref (a1 0)), some (.int x2), some (.int x3), some (.int x4), some (.int x5), some (.int x6), some (.int x7), some (.int x8), none]) (pc' := 64) (st' := [.int x4, .int x7, .int x8, .ref (a1 0), .ref (a0 0)]) (by decide +kernel) rfl rfl ⟨trivial, trivial, trivial, trivial, trivial, trivial⟩ ?_
    refine zr_callV (c_X0_openEnd l G a0 a1 s0 s1 x8 x7 x4 q4 e4) (WW' := fun _ => [w_Ct G a0 s0, w_Ld G a1 s1]) (st := []) (st' := [.int q4]) [0, 1] rfl rfl (fun _ => Nat.le_of_ble_eq_true rfl) (fun _ => rfl) rfl rfl nm_X0_openEnd zw_4_146 zw_4_148 zw_0_23 zw_1_15 zw_4_149 rfl rfl rfl (Nat.le_of_ble_eq_true rfl) ⟨Nat.le_of_ble_eq_true rfl, Nat.le_of_ble_eq_true rfl⟩ (by decide +kernel) (fun _ => ?_)
    refine zr_run [(.istore 9, 0, 0, 0, .null), (.iload 9, 0, 0, 0, .null), (.iconst (-1), 0, 0, 0, .int (-1 : Int32))] [] (WW' := [w_Ct G a0 s0, w_Ld G a1 s1]) (lv' := [some (.ref (a0 0)), some (.ref (a1 0)), some (.int x2), some (.int x3), some (.int x4), some (.int x5), some (.int x6), some (.int x7), some (.int x8), some (.int q4)]) (pc' := 72) (st' := [.int (-1 : Int32), .int q4]) (by decide +kernel) rfl rfl ⟨trivial, trivial, trivial, trivial⟩ ?_
    refine zr_icmp_eq (off := 48) (tgt := 120) (by decide +kernel) (by decide) (fun hc => ?_) (fun hc => ?_)
    · have hf := zift hf hc
      refine zr_run [] [9] (WW' := [w_Ct G a0 s0, w_Ld G a1 s1]) (lv' := [some (.ref (a0 0)), some (.ref (a1 0)), some (.int x2), some (.int x3), some (.int x4), some (.int x5), some (.int x6), some (.int x7), some (.int x8), none]) (pc' := 120) (st' := []) (by decide +kernel) rfl rfl trivial ?_
      exact t_X0_search_b120 l G a0 a1 W0 r s0 s1 k21 k47 hk21 hk47 x2 x3 x4 x5 x6 x7 x8 hf
    · have hf := ziff hf hc
      refine zr_run [(.iload 9, 0, 0, 0, .null), (.iload_n 2, 0, 0, 0, .null)] [] (WW' := [w_Ct G a0 s0, w_Ld G a1 s1]) (lv' := [some (.ref (a0 0)), some (.ref (a1 0)), some (.int x2), some (.int x3), some (.int x4), some (.int x5), some (.int x6), some (.int x7), some (.int x8), some (.int q4)]) (pc' := 78) (st' := [.int x2, .int q4]) (by decide +kernel) rfl rfl ⟨trivial, trivial, trivial⟩ ?_
      refine zr_icmp_eq (off := 42) (tgt := 120) (by decide +kernel) (by decide) (fun hc => ?_) (fun hc => ?_)
      · have hf := zift hf hc
        refine zr_run [] [9] (WW' := [w_Ct G a0 s0, w_Ld G a1 s1]) (lv' := [some (.ref (a0 0)), some (.ref (a1 0)), some (.int x2), some (.int x3), some (.int x4), some (.int x5), some (.int x6), some (.int x7), some (.int x8), none]) (pc' := 120) (st' := []) (by decide +kernel) rfl rfl trivial ?_
        exact t_X0_search_b120 l G a0 a1 W0 r s0 s1 k21 k47 hk21 hk47 x2 x3 x4 x5 x6 x7 x8 hf
      · have hf := ziff hf hc
        obtain ⟨h5, hf⟩ := zck_of hf
        refine zr_run [(.aload_n 0, 0, 0, 0, .null), (.getfield 19, 0, 0, 2, .null), (.iload 9, 0, 0, 0, .null), (.iaload, 0, 2, 0, .null), (.iconst (-1), 0, 0, 0, .int (-1 : Int32))] [] (WW' := [w_Ct G a0 s0, w_Ld G a1 s1]) (lv' := [some (.ref (a0 0)), some (.ref (a1 0)), some (.int x2), some (.int x3), some (.int x4), some (.int x5), some (.int x6), some (.int x7), some (.int x8), some (.int q4)]) (pc' := 89) (st' := [.int (-1 : Int32), .int ((Ct_cameBy s0) q4.toNatClampNeg)]) (by decide +kernel) rfl rfl ⟨trivial, ⟨rfl, rfl, zw_2_102⟩, trivial, ⟨rfl, rfl, h5⟩, trivial, trivial⟩ ?_
        refine zr_icmp_ne (off := 31) (tgt := 120) (by decide +kernel) (by decide) (fun hc => ?_) (fun hc => ?_)
        · have hf := zift hf hc
          refine zr_run [(.iload 5, 0, 0, 0, .null), (.bipush 10, 0, 0, 0, .int (10 : Int32))] [] (WW' := [w_Ct G a0 s0, w_Ld G a1 s1]) (lv' := [some (.ref (a0 0)), some (.ref (a1 0)), some (.int x2), some (.int x3), some (.int x4), some (.int x5), some (.int x6), some (.int x7), some (.int x8), some (.int q4)]) (pc' := 96) (st' := [.int (10 : Int32), .int x5]) (by decide +kernel) rfl rfl ⟨trivial, trivial, trivial⟩ ?_
          refine zr_icmp_ge (off := 24) (tgt := 120) (by decide +kernel) (by decide) (fun hc => ?_) (fun hc => ?_)
          · have hf := zift hf hc
            obtain ⟨h6, hf⟩ := zck_of hf
            obtain ⟨y7, e7, hf⟩ := zlet_of hf
            refine zr_run [(.aload_n 0, 0, 0, 0, .null), (.getfield 19, 0, 0, 2, .null), (.iload 9, 0, 0, 0, .null), (.iload 8, 0, 0, 0, .null), (.iastore, 0, 2, 0, .null)] [] (WW' := [w_Ct G a0 (Ct_s_cameBy s0 ((upd (Ct_cameBy s0) q4.toNatClampNeg x8))), w_Ld G a1 s1]) (lv' := [some (.ref (a0 0)), some (.ref (a1 0)), some (.int x2), some (.int x3), some (.int x4), some (.int x5), some (.int x6), some (.int x7), some (.int x8), some (.int q4)]) (pc' := 108) (st' := []) (by decide +kernel) rfl rfl ⟨trivial, ⟨rfl, rfl, zw_2_102⟩, trivial, trivial, ⟨rfl, rfl, h6⟩, trivial⟩ ?_
            refine zr_eq (WW2 := [w_Ct G a0 y7, w_Ld G a1 s1]) (lv2 := [some (.ref (a0 0)), some (.ref (a1 0)), some (.int x2), some (.int x3), some (.int x4), some (.int x5), some (.int x6), some (.int x7), some (.int x8), some (.int q4)]) (st2 := []) (by rw [e7]) rfl rfl ?_
            obtain ⟨h8, hf⟩ := zck_of hf
            obtain ⟨y9, e9, hf⟩ := zlet_of hf
            refine zr_run [(.aload_n 0, 0, 0, 0, .null), (.getfield 22, 0, 0, 3, .null), (.iload 5, 0, 0, 0, .null), (.iload 9, 0, 0, 0, .null), (.iastore, 0, 3, 0, .null)] [] (WW' := [w_Ct G a0 (Ct_s_queue y7 ((upd (Ct_queue y7) x5.toNatClampNeg q4))), w_Ld G a1 s1]) (lv' := [some (.ref (a0 0)), some (.ref (a1 0)), some (.int x2), some (.int x3), some (.int x4), some (.int x5), some (.int x6), some (.int x7), some (.int x8), some (.int q4)]) (pc' := 117) (st' := []) (by decide +kernel) rfl rfl ⟨trivial, ⟨rfl, rfl, zw_2_103⟩, trivial, trivial, ⟨rfl, rfl, h8⟩, trivial⟩ ?_
            refine zr_eq (WW2 := [w_Ct G a0 y9, w_Ld G a1 s1]) (lv2 := [some (.ref (a0 0)), some (.ref (a1 0)), some (.int x2), some (.int x3), some (.int x4), some (.int x5), some (.int x6), some (.int x7), some (.int x8), some (.int q4)]) (st2 := []) (by rw [e9]) rfl rfl ?_
            refine zr_run [(.iinc 5 1, 0, 0, 0, .int (1 : Int32))] [9] (WW' := [w_Ct G a0 y9, w_Ld G a1 s1]) (lv' := [some (.ref (a0 0)), some (.ref (a1 0)), some (.int x2), some (.int x3), some (.int x4), some (.int (x5 + (1 : Int32))), some (.int x6), some (.int x7), some (.int x8), none]) (pc' := 120) (st' := []) (by decide +kernel) rfl rfl ⟨trivial, trivial⟩ ?_
            exact t_X0_search_b120 l G a0 a1 W0 r y9 s1 k21 k47 hk21 hk47 x2 x3 x4 (x5 + (1 : Int32)) x6 x7 x8 hf
          · have hf := ziff hf hc
            refine zr_run [] [9] (WW' := [w_Ct G a0 s0, w_Ld G a1 s1]) (lv' := [some (.ref (a0 0)), some (.ref (a1 0)), some (.int x2), some (.int x3), some (.int x4), some (.int x5), some (.int x6), some (.int x7), some (.int x8), none]) (pc' := 120) (st' := []) (by decide +kernel) rfl rfl trivial ?_
            exact t_X0_search_b120 l G a0 a1 W0 r s0 s1 k21 k47 hk21 hk47 x2 x3 x4 x5 x6 x7 x8 hf
        · have hf := ziff hf hc
          refine zr_run [] [9] (WW' := [w_Ct G a0 s0, w_Ld G a1 s1]) (lv' := [some (.ref (a0 0)), some (.ref (a1 0)), some (.int x2), some (.int x3), some (.int x4), some (.int x5), some (.int x6), some (.int x7), some (.int x8), none]) (pc' := 120) (st' := []) (by decide +kernel) rfl rfl trivial ?_
          exact t_X0_search_b120 l G a0 a1 W0 r s0 s1 k21 k47 hk21 hk47 x2 x3 x4 x5 x6 x7 x8 hf
  · have hf := ziff hf hc
    obtain ⟨h10, hf⟩ := zck_of hf
    refine zr_run [(.aload_n 0, 0, 0, 0, .null), (.getfield 19, 0, 0, 2, .null), (.iload_n 3, 0, 0, 0, .null), (.iaload, 0, 2, 0, .null), (.iconst (-1), 0, 0, 0, .int (-1 : Int32))] [] (WW' := [w_Ct G a0 s0, w_Ld G a1 s1]) (lv' := [some (.ref (a0 0)), some (.ref (a1 0)), some (.int x2), some (.int x3), some (.int x4), some (.int x5), some (.int x6), some (.int x7), some (.int x8), none]) (pc' := 133) (st' := [.int (-1 : Int32), .int ((Ct_cameBy s0) x3.toNatClampNeg)]) (by decide +kernel) rfl rfl ⟨trivial, ⟨rfl, rfl, zw_2_102⟩, trivial, ⟨rfl, rfl, h10⟩, trivial, trivial⟩ ?_
    refine zr_icmp_eq (off := 5) (tgt := 138) (by decide +kernel) (by decide) (fun hc => ?_) (fun hc => ?_)
    · have hf := zift hf hc
      refine zr_run [(.iinc 6 1, 0, 0, 0, .int (1 : Int32))] [] (WW' := [w_Ct G a0 s0, w_Ld G a1 s1]) (lv' := [some (.ref (a0 0)), some (.ref (a1 0)), some (.int x2), some (.int x3), some (.int x4), some (.int x5), some (.int (x6 + (1 : Int32))), some (.int x7), some (.int x8), none]) (pc' := 141) (st' := []) (by decide +kernel) rfl rfl ⟨trivial, trivial⟩ ?_
      refine zr_run [] [7, 8] (WW' := [w_Ct G a0 s0, w_Ld G a1 s1]) (lv' := [some (.ref (a0 0)), some (.ref (a1 0)), some (.int x2), some (.int x3), some (.int x4), some (.int x5), some (.int (x6 + (1 : Int32))), none, none, none]) (pc' := 141) (st' := []) (by decide +kernel) rfl rfl trivial ?_
      refine zr_goto (off := -120) (tgt := 21) (by decide +kernel) (by decide) ?_
      exact hk21 s0 x2 x3 x4 x5 (x6 + (1 : Int32)) hf
    · have hf := ziff hf hc
      refine zr_run [(.iconst 1, 0, 0, 0, .int (1 : Int32))] [] (WW' := [w_Ct G a0 s0, w_Ld G a1 s1]) (lv' := [some (.ref (a0 0)), some (.ref (a1 0)), some (.int x2), some (.int x3), some (.int x4), some (.int x5), some (.int x6), some (.int x7), some (.int x8), none]) (pc' := 137) (st' := [.int (1 : Int32)]) (by decide +kernel) rfl rfl ⟨trivial, trivial⟩ ?_
      obtain rfl := Option.some.inj hf
      exact zr_zret (by decide) (b0 := fun _ => 0) (by decide +kernel) rfl rfl rfl rfl rfl
theorem t_X0_search_L47 (l : Launch) (G : zj_G) (a0 : Nat → Nat) (a1 : Nat → Nat) (W0 : List va_W) (r : Int32 × CtT) (s1 : LdT) (k21 : CtT → Int32 → Int32 → Int32 → Int32 → Int32 → Option (Int32 × CtT)) (hk21 : ∀ (s0 : CtT) (x2 : Int32) (x3 : Int32) (x4 : Int32) (x5 : Int32) (x6 : Int32), k21 s0 x2 x3 x4 x5 x6 = some r → zj_J l G M_X0_search W0 (zj_ret G M_X0_search W0 (some (.int r.1)) (fun _ => [w_Ct G a0 r.2, w_Ld G a1 s1])) 0 0 [w_Ct G a0 s0, w_Ld G a1 s1] [some (.ref (a0 0)), some (.ref (a1 0)), some (.int x2), some (.int x3), some (.int x4), some (.int x5), some (.int x6), none, none, none] 21 []) : ∀ (n : Nat) (s0 : CtT) (x2 : Int32) (x3 : Int32) (x4 : Int32) (x5 : Int32) (x6 : Int32) (x7 : Int32) (x8 : Int32), f_X0_search_L47 s1 k21 n s0 x2 x3 x4 x5 x6 x7 x8 = some r → zj_J l G M_X0_search W0 (zj_ret G M_X0_search W0 (some (.int r.1)) (fun _ => [w_Ct G a0 r.2, w_Ld G a1 s1])) 0 0 [w_Ct G a0 s0, w_Ld G a1 s1] [some (.ref (a0 0)), some (.ref (a1 0)), some (.int x2), some (.int x3), some (.int x4), some (.int x5), some (.int x6), some (.int x7), some (.int x8), none] 47 [] := by
  intro n
  induction n with
  | zero => intro s0 x2 x3 x4 x5 x6 x7 x8 hf; exact nomatch (show none = some r from hf)
  | succ n ih => intro s0 x2 x3 x4 x5 x6 x7 x8 hf; exact t_X0_search_H47 l G a0 a1 W0 r s0 s1 k21 (f_X0_search_L47 s1 k21 n) hk21 ih x2 x3 x4 x5 x6 x7 x8  hf
set_option maxRecDepth 100000 in
set_option maxHeartbeats 4000000 in
theorem t_X0_search_H21 (l : Launch) (G : zj_G) (a0 : Nat → Nat) (a1 : Nat → Nat) (W0 : List va_W) (r : Int32 × CtT) (s0 : CtT) (s1 : LdT) (k21 : CtT → Int32 → Int32 → Int32 → Int32 → Int32 → Option (Int32 × CtT)) (hk21 : ∀ (s0 : CtT) (x2 : Int32) (x3 : Int32) (x4 : Int32) (x5 : Int32) (x6 : Int32), k21 s0 x2 x3 x4 x5 x6 = some r → zj_J l G M_X0_search W0 (zj_ret G M_X0_search W0 (some (.int r.1)) (fun _ => [w_Ct G a0 r.2, w_Ld G a1 s1])) 0 0 [w_Ct G a0 s0, w_Ld G a1 s1] [some (.ref (a0 0)), some (.ref (a1 0)), some (.int x2), some (.int x3), some (.int x4), some (.int x5), some (.int x6), none, none, none] 21 []) (x2 : Int32) (x3 : Int32) (x4 : Int32) (x5 : Int32) (x6 : Int32) (hf : f_X0_search_H21 s0 s1 k21 x2 x3 x4 x5 x6 = some r) : zj_J l G M_X0_search W0 (zj_ret G M_X0_search W0 (some (.int r.1)) (fun _ => [w_Ct G a0 r.2, w_Ld G a1 s1])) 0 0 [w_Ct G a0 s0, w_Ld G a1 s1] [some (.ref (a0 0)), some (.ref (a1 0)), some (.int x2), some (.int x3), some (.int x4), some (.int x5), some (.int x6), none, none, none] 21 [] := by
  unfold f_X0_search_H21 at hf
  refine zr_run [(.iload 6, 0, 0, 0, .null), (.iload 5, 0, 0, 0, .null)] [] (WW' := [w_Ct G a0 s0, w_Ld G a1 s1]) (lv' := [some (.ref (a0 0)), some (.ref (a1 0)), some (.int x2), some (.int x3), some (.int x4), some (.int x5), some (.int x6), none, none, none]) (pc' := 25) (st' := [.int x5, .int x6]) (by decide +kernel) rfl rfl ⟨trivial, trivial, trivial⟩ ?_
  refine zr_icmp_ge (off := 119) (tgt := 144) (by decide +kernel) (by decide) (fun hc => ?_) (fun hc => ?_)
  · have hf := zift hf hc
    refine zr_run [(.iload 6, 0, 0, 0, .null), (.bipush 10, 0, 0, 0, .int (10 : Int32))] [] (WW' := [w_Ct G a0 s0, w_Ld G a1 s1]) (lv' := [some (.ref (a0 0)), some (.ref (a1 0)), some (.int x2), some (.int x3), some (.int x4), some (.int x5), some (.int x6), none, none, none]) (pc' := 32) (st' := [.int (10 : Int32), .int x6]) (by decide +kernel) rfl rfl ⟨trivial, trivial, trivial⟩ ?_
    refine zr_icmp_ge (off := 112) (tgt := 144) (by decide +kernel) (by decide) (fun hc => ?_) (fun hc => ?_)
    · have hf := zift hf hc
      obtain ⟨h3, hf⟩ := zck_of hf
      refine zr_run [(.aload_n 0, 0, 0, 0, .null), (.getfield 22, 0, 0, 3, .null), (.iload 6, 0, 0, 0, .null), (.iaload, 0, 3, 0, .null), (.istore 7, 0, 0, 0, .null), (.iconst 0, 0, 0, 0, .int (0 : Int32)), (.istore 8, 0, 0, 0, .null)] [] (WW' := [w_Ct G a0 s0, w_Ld G a1 s1]) (lv' := [some (.ref (a0 0)), some (.ref (a1 0)), some (.int x2), some (.int x3), some (.int x4), some (.int x5), some (.int x6), some (.int ((Ct_queue s0) x6.toNatClampNeg)), some (.int (0 : Int32)), none]) (pc' := 47) (st' := []) (by decide +kernel) rfl rfl ⟨trivial, ⟨rfl, rfl, zw_2_103⟩, trivial, ⟨rfl, rfl, h3⟩, trivial, trivial, trivial, trivial⟩ ?_
      exact t_X0_search_L47 l G a0 a1 W0 r s1 k21 hk21 zFU s0 x2 x3 x4 x5 x6 ((Ct_queue s0) x6.toNatClampNeg) (0 : Int32) hf
    · have hf := ziff hf hc
      refine zr_run [(.iconst 0, 0, 0, 0, .int (0 : Int32))] [] (WW' := [w_Ct G a0 s0, w_Ld G a1 s1]) (lv' := [some (.ref (a0 0)), some (.ref (a1 0)), some (.int x2), some (.int x3), some (.int x4), some (.int x5), some (.int x6), none, none, none]) (pc' := 145) (st' := [.int (0 : Int32)]) (by decide +kernel) rfl rfl ⟨trivial, trivial⟩ ?_
      obtain rfl := Option.some.inj hf
      exact zr_zret (by decide) (b0 := fun _ => 0) (by decide +kernel) rfl rfl rfl rfl rfl
  · have hf := ziff hf hc
    refine zr_run [(.iconst 0, 0, 0, 0, .int (0 : Int32))] [] (WW' := [w_Ct G a0 s0, w_Ld G a1 s1]) (lv' := [some (.ref (a0 0)), some (.ref (a1 0)), some (.int x2), some (.int x3), some (.int x4), some (.int x5), some (.int x6), none, none, none]) (pc' := 145) (st' := [.int (0 : Int32)]) (by decide +kernel) rfl rfl ⟨trivial, trivial⟩ ?_
    obtain rfl := Option.some.inj hf
    exact zr_zret (by decide) (b0 := fun _ => 0) (by decide +kernel) rfl rfl rfl rfl rfl
theorem t_X0_search_L21 (l : Launch) (G : zj_G) (a0 : Nat → Nat) (a1 : Nat → Nat) (W0 : List va_W) (r : Int32 × CtT) (s1 : LdT)   : ∀ (n : Nat) (s0 : CtT) (x2 : Int32) (x3 : Int32) (x4 : Int32) (x5 : Int32) (x6 : Int32), f_X0_search_L21 s1 n s0 x2 x3 x4 x5 x6 = some r → zj_J l G M_X0_search W0 (zj_ret G M_X0_search W0 (some (.int r.1)) (fun _ => [w_Ct G a0 r.2, w_Ld G a1 s1])) 0 0 [w_Ct G a0 s0, w_Ld G a1 s1] [some (.ref (a0 0)), some (.ref (a1 0)), some (.int x2), some (.int x3), some (.int x4), some (.int x5), some (.int x6), none, none, none] 21 [] := by
  intro n
  induction n with
  | zero => intro s0 x2 x3 x4 x5 x6 hf; exact nomatch (show none = some r from hf)
  | succ n ih => intro s0 x2 x3 x4 x5 x6 hf; exact t_X0_search_H21 l G a0 a1 W0 r s0 s1  (f_X0_search_L21 s1 n)  ih x2 x3 x4 x5 x6  hf
set_option maxRecDepth 100000 in
set_option maxHeartbeats 4000000 in
theorem c_X0_search (l : Launch) (G : zj_G) (a0 : Nat → Nat) (a1 : Nat → Nat) (s0 : CtT) (s1 : LdT) (x2 : Int32) (x3 : Int32) (x4 : Int32) (r : Int32 × CtT) (hf : f_X0_search s0 s1 x2 x3 x4 = some r) : zj_C l G M_X0_search yX0_search [w_Ct G a0 s0, w_Ld G a1 s1] [.ref (a0 0), .ref (a1 0), .int x2, .int x3, .int x4] (some (.int r.1)) (fun _ => [w_Ct G a0 r.2, w_Ld G a1 s1]) := by
  have key : ∀ W0 : List va_W, zj_J l G M_X0_search W0 (zj_ret G M_X0_search W0 (some (.int r.1)) (fun _ => [w_Ct G a0 r.2, w_Ld G a1 s1])) 0 0 [w_Ct G a0 s0, w_Ld G a1 s1] [some (.ref (a0 0)), some (.ref (a1 0)), some (.int x2), some (.int x3), some (.int x4), none, none, none, none, none] 0 [] := by
    intro W0
    unfold f_X0_search at hf
    refine zr_run [(.aload_n 0, 0, 0, 0, .null), (.getfield 19, 0, 0, 2, .null), (.iconst (-1), 0, 0, 0, .int (-1 : Int32))] [] (WW' := [w_Ct G a0 s0, w_Ld G a1 s1]) (lv' := [some (.ref (a0 0)), some (.ref (a1 0)), some (.int x2), some (.int x3), some (.int x4), none, none, none, none, none]) (pc' := 5) (st' := [.int (-1 : Int32), .ref (a0 2)]) (by decide +kernel) rfl rfl ⟨trivial, ⟨rfl, rfl, zw_2_102⟩, trivial, trivial⟩ ?_
    refine zr_fillI (b := 0) (c' := 2) rfl rfl rfl (Nat.le_of_ble_eq_true rfl) zw_4_141 zw_2_56 zw_1_13 zw_2_57 rfl (Nat.le_of_ble_eq_true rfl) ⟨Nat.le_of_ble_eq_true rfl, Nat.le_of_ble_eq_true rfl⟩ (by decide +kernel) ?_
    refine zr_eq (WW2 := [w_Ct G a0 (Ct_s_cameBy s0 ((zr_fill 10 (Ct_cameBy s0) (-1 : Int32)))), w_Ld G a1 s1]) rfl rfl rfl ?_
    obtain ⟨y1, e1, hf⟩ := zlet_of hf
    refine zr_eq (WW2 := [w_Ct G a0 y1, w_Ld G a1 s1]) (lv2 := [some (.ref (a0 0)), some (.ref (a1 0)), some (.int x2), some (.int x3), some (.int x4), none, none, none, none, none]) (st2 := []) (by rw [e1]) rfl rfl ?_
    obtain ⟨y2, e2, hf⟩ := zlet_of hf
    refine zr_run [(.aload_n 0, 0, 0, 0, .null), (.getfield 22, 0, 0, 3, .null), (.iconst 0, 0, 0, 0, .int (0 : Int32)), (.iload_n 2, 0, 0, 0, .null), (.iastore, 0, 3, 0, .null)] [] (WW' := [w_Ct G a0 (Ct_s_queue y1 ((upd (Ct_queue y1) (0 : Int32).toNatClampNeg x2))), w_Ld G a1 s1]) (lv' := [some (.ref (a0 0)), some (.ref (a1 0)), some (.int x2), some (.int x3), some (.int x4), none, none, none, none, none]) (pc' := 15) (st' := []) (by decide +kernel) rfl rfl ⟨trivial, ⟨rfl, rfl, zw_2_103⟩, trivial, trivial, ⟨rfl, rfl, (by decide)⟩, trivial⟩ ?_
    refine zr_eq (WW2 := [w_Ct G a0 y2, w_Ld G a1 s1]) (lv2 := [some (.ref (a0 0)), some (.ref (a1 0)), some (.int x2), some (.int x3), some (.int x4), none, none, none, none, none]) (st2 := []) (by rw [e2]) rfl rfl ?_
    refine zr_run [(.iconst 1, 0, 0, 0, .int (1 : Int32)), (.istore 5, 0, 0, 0, .null), (.iconst 0, 0, 0, 0, .int (0 : Int32)), (.istore 6, 0, 0, 0, .null)] [] (WW' := [w_Ct G a0 y2, w_Ld G a1 s1]) (lv' := [some (.ref (a0 0)), some (.ref (a1 0)), some (.int x2), some (.int x3), some (.int x4), some (.int (1 : Int32)), some (.int (0 : Int32)), none, none, none]) (pc' := 21) (st' := []) (by decide +kernel) rfl rfl ⟨trivial, trivial, trivial, trivial, trivial⟩ ?_
    exact t_X0_search_L21 l G a0 a1 W0 r s1 zFU y2 x2 x3 x4 (1 : Int32) (0 : Int32) hf
  exact zj_entry [some (.ref (a0 0)), some (.ref (a1 0)), some (.int x2), some (.int x3), some (.int x4), none, none, none, none, none] (by decide +kernel) rfl (by decide) (Nat.le_of_ble_eq_true rfl) rfl rfl (key _)
def M_X0_push : zj_M := (RX0, cX0_push, 7, none, { frames := 1, cells := 0, slots := 0, locals := 23 }, false)
theorem nm_X0_push : zj_nm yX0_push 3 := ⟨by decide +kernel, by decide +kernel, by decide +kernel⟩
def f_X0_push_b100  (s0 : CtT) (s1 : LdT) (k6 : CtT → Int32 → Int32 → Int32 → Option (CtT)) (x2 : Int32) (x4 : Int32) (x5 : Int32) : Option (CtT) := k6 s0 x2 x4 (x5 + (1 : Int32))
def f_X0_push_H6  (s0 : CtT) (s1 : LdT) (k6 : CtT → Int32 → Int32 → Int32 → Option (CtT)) (x2 : Int32) (x4 : Int32) (x5 : Int32) : Option (CtT) := (if x5 < (10 : Int32) then (if x4 = x2 then some s0 else (if x4 = (-1 : Int32) then some s0 else (if zb_in x4 10 = true then (if ((Ct_cameBy s0) x4.toNatClampNeg) = (-1 : Int32) then some s0 else (if zb_in x4 10 = true then ((f_X3_ofRoad s1 ((Ct_cameBy s0) x4.toNatClampNeg) (1 : Int32)).bind fun q3 => (if q3 = x4 then (if zb_in ((Ct_cameBy s0) x4.toNatClampNeg) 16 = true then (if zb_in ((Ct_cameBy s0) x4.toNatClampNeg) 16 = true then (zlet (Ct_s_flows s0 ((upd (Ct_flows s0) ((Ct_cameBy s0) x4.toNatClampNeg).toNatClampNeg (((Ct_flows s0) ((Ct_cameBy s0) x4.toNatClampNeg).toNatClampNeg) + (1 : Int32))))) fun y6 => ((f_X3_ofRoad s1 ((Ct_cameBy s0) x4.toNatClampNeg) (0 : Int32)).bind fun q7 => f_X0_push_b100 y6 s1 k6 x2 q7 x5)) else none) else none) else (if zb_in ((Ct_cameBy s0) x4.toNatClampNeg) 16 = true then (if zb_in ((Ct_cameBy s0) x4.toNatClampNeg) 16 = true then (zlet (Ct_s_flows s0 ((upd (Ct_flows s0) ((Ct_cameBy s0) x4.toNatClampNeg).toNatClampNeg (((Ct_flows s0) ((Ct_cameBy s0) x4.toNatClampNeg).toNatClampNeg) - (1 : Int32))))) fun y10 => ((f_X3_ofRoad s1 ((Ct_cameBy s0) x4.toNatClampNeg) (1 : Int32)).bind fun q11 => f_X0_push_b100 y10 s1 k6 x2 q11 x5)) else none) else none))) else none)) else none))) else some s0)
def f_X0_push_L6  (s1 : LdT)  : Nat → CtT → Int32 → Int32 → Int32 → Option (CtT)
  | 0 => fun _ _ _ _ => none
  | n + 1 => fun s0 x2 x4 x5 => f_X0_push_H6 s0 s1 (f_X0_push_L6 s1 n) x2 x4 x5
def f_X0_push  (s0 : CtT) (s1 : LdT) (x2 : Int32) (x3 : Int32) : Option (CtT) := f_X0_push_L6 s1 zFU s0 x2 x3 (0 : Int32)
set_option maxRecDepth 100000 in
set_option maxHeartbeats 4000000 in
theorem t_X0_push_b100 (l : Launch) (G : zj_G) (a0 : Nat → Nat) (a1 : Nat → Nat) (W0 : List va_W) (r : CtT) (s0 : CtT) (s1 : LdT) (k6 : CtT → Int32 → Int32 → Int32 → Option (CtT)) (hk6 : ∀ (s0 : CtT) (x2 : Int32) (x4 : Int32) (x5 : Int32), k6 s0 x2 x4 x5 = some r → zj_J l G M_X0_push W0 (zj_ret G M_X0_push W0 (none) (fun _ => [w_Ct G a0 r, w_Ld G a1 s1])) 0 0 [w_Ct G a0 s0, w_Ld G a1 s1] [some (.ref (a0 0)), some (.ref (a1 0)), some (.int x2), none, some (.int x4), some (.int x5), none] 6 []) (x2 : Int32) (x4 : Int32) (x5 : Int32) (hf : f_X0_push_b100 s0 s1 k6 x2 x4 x5 = some r) : zj_J l G M_X0_push W0 (zj_ret G M_X0_push W0 (none) (fun _ => [w_Ct G a0 r, w_Ld G a1 s1])) 0 0 [w_Ct G a0 s0, w_Ld G a1 s1] [some (.ref (a0 0)), some (.ref (a1 0)), some (.int x2), none, some (.int x4), some (.int x5), none] 100 [] := by
  unfold f_X0_push_b100 at hf
  refine zr_run [(.iinc 5 1, 0, 0, 0, .int (1 : Int32))] [] (WW' := [w_Ct G a0 s0, w_Ld G a1 s1]) (lv' := [some (.ref (a0 0)), some (.ref (a1 0)), some (.int x2), none, some (.int x4), some (.int (x5 + (1 : Int32))), none]) (pc' := 103) (st' := []) (by decide +kernel) rfl rfl ⟨trivial, trivial⟩ ?_
  refine zr_goto (off := -97) (tgt := 6) (by decide +kernel) (by decide) ?_
  exact hk6 s0 x2 x4 (x5 + (1 : Int32)) hf
set_option maxRecDepth 100000 in
set_option maxHeartbeats 4000000 in
theorem t_X0_push_H6 (l : Launch) (G : zj_G) (a0 : Nat → Nat) (a1 : Nat → Nat) (W0 : List va_W) (r : CtT) (s0 : CtT) (s1 : LdT) (k6 : CtT → Int32 → Int32 → Int32 → Option (CtT)) (hk6 : ∀ (s0 : CtT) (x2 : Int32) (x4 : Int32) (x5 : Int32), k6 s0 x2 x4 x5 = some r → zj_J l G M_X0_push W0 (zj_ret G M_X0_push W0 (none) (fun _ => [w_Ct G a0 r, w_Ld G a1 s1])) 0 0 [w_Ct G a0 s0, w_Ld G a1 s1] [some (.ref (a0 0)), some (.ref (a1 0)), some (.int x2), none, some (.int x4), some (.int x5), none] 6 []) (x2 : Int32) (x4 : Int32) (x5 : Int32) (hf : f_X0_push_H6 s0 s1 k6 x2 x4 x5 = some r) : zj_J l G M_X0_push W0 (zj_ret G M_X0_push W0 (none) (fun _ => [w_Ct G a0 r, w_Ld G a1 s1])) 0 0 [w_Ct G a0 s0, w_Ld G a1 s1] [some (.ref (a0 0)), some (.ref (a1 0)), some (.int x2), none, some (.int x4), some (.int x5), none] 6 [] := by
  unfold f_X0_push_H6 at hf
  refine zr_run [(.iload 5, 0, 0, 0, .null), (.bipush 10, 0, 0, 0, .int (10 : Int32))] [] (WW' := [w_Ct G a0 s0, w_Ld G a1 s1]) (lv' := [some (.ref (a0 0)), some (.ref (a1 0)), some (.int x2), none, some (.int x4), some (.int x5), none]) (pc' := 10) (st' := [.int (10 : Int32), .int x5]) (by decide +kernel) rfl rfl ⟨trivial, trivial, trivial⟩ ?_
  refine zr_icmp_ge (off := 96) (tgt := 106) (by decide +kernel) (by decide) (fun hc => ?_) (fun hc => ?_)
  · have hf := zift hf hc
    refine zr_run [(.iload 4, 0, 0, 0, .null), (.iload_n 2, 0, 0, 0, .null)] [] (WW' := [w_Ct G a0 s0, w_Ld G a1 s1]) (lv' := [some (.ref (a0 0)), some (.ref (a1 0)), some (.int x2), none, some (.int x4), some (.int x5), none]) (pc' := 16) (st' := [.int x2, .int x4]) (by decide +kernel) rfl rfl ⟨trivial, trivial, trivial⟩ ?_
    refine zr_icmp_eq (off := 90) (tgt := 106) (by decide +kernel) (by decide) (fun hc => ?_) (fun hc => ?_)
    · have hf := zift hf hc
      obtain rfl := Option.some.inj hf
      exact zr_vret (b0 := fun _ => 0) (by decide +kernel) rfl rfl rfl rfl rfl
    · have hf := ziff hf hc
      refine zr_run [(.iload 4, 0, 0, 0, .null), (.iconst (-1), 0, 0, 0, .int (-1 : Int32))] [] (WW' := [w_Ct G a0 s0, w_Ld G a1 s1]) (lv' := [some (.ref (a0 0)), some (.ref (a1 0)), some (.int x2), none, some (.int x4), some (.int x5), none]) (pc' := 22) (st' := [.int (-1 : Int32), .int x4]) (by decide +kernel) rfl rfl ⟨trivial, trivial, trivial⟩ ?_
      refine zr_icmp_eq (off := 84) (tgt := 106) (by decide +kernel) (by decide) (fun hc => ?_) (fun hc => ?_)
      · have hf := zift hf hc
        obtain rfl := Option.some.inj hf
        exact zr_vret (b0 := fun _ => 0) (by decide +kernel) rfl rfl rfl rfl rfl
      · have hf := ziff hf hc
        obtain ⟨h1, hf⟩ := zck_of hf
        refine zr_run [(.aload_n 0, 0, 0, 0, .null), (.getfield 19, 0, 0, 2, .null), (.iload 4, 0, 0, 0, .null), (.iaload, 0, 2, 0, .null), (.iconst (-1), 0, 0, 0, .int (-1 : Int32))] [] (WW' := [w_Ct G a0 s0, w_Ld G a1 s1]) (lv' := [some (.ref (a0 0)), some (.ref (a1 0)), some (.int x2), none, some (.int x4), some (.int x5), none]) (pc' := 33) (st' := [.int (-1 : Int32), .int ((Ct_cameBy s0) x4.toNatClampNeg)]) (by decide +kernel) rfl rfl ⟨trivial, ⟨rfl, rfl, zw_2_102⟩, trivial, ⟨rfl, rfl, h1⟩, trivial, trivial⟩ ?_
        refine zr_icmp_eq (off := 73) (tgt := 106) (by decide +kernel) (by decide) (fun hc => ?_) (fun hc => ?_)
        · have hf := zift hf hc
          obtain rfl := Option.some.inj hf
          exact zr_vret (b0 := fun _ => 0) (by decide +kernel) rfl rfl rfl rfl rfl
        · have hf := ziff hf hc
          obtain ⟨h2, hf⟩ := zck_of hf
          obtain ⟨q3, e3, hf⟩ := zbi_of hf
          refine zr_run [(.aload_n 0, 0, 0, 0, .null), (.getfield 19, 0, 0, 2, .null), (.iload 4, 0, 0, 0, .null), (.iaload, 0, 2, 0, .null), (.istore 6, 0, 0, 0, .null), (.aload_n 1, 0, 0, 0, .null), (.iload 6, 0, 0, 0, .null), (.iconst 1, 0, 0, 0, .int (1 : Int32))] [] (WW' := [w_Ct G a0 s0, w_Ld G a1 s1]) (lv' := [some (.ref (a0 0)), some (.ref (a1 0)), some (.int x2), none, some (.int x4), some (.int x5), some (.int ((Ct_cameBy s0) x4.toNatClampNeg))]) (pc' := 49) (st' := [.int (1 : Int32), .int ((Ct_cameBy s0) x4.toNatClampNeg), .ref (a1 0)]) (by decide +kernel) rfl rfl ⟨trivial, ⟨rfl, rfl, zw_2_102⟩, trivial, ⟨rfl, rfl, h2⟩, trivial, trivial, trivial, trivial, trivial⟩ ?_
          refine zr_callV (c_X3_ofRoad l G a1 s1 ((Ct_cameBy s0) x4.toNatClampNeg) (1 : Int32) q3 e3) (WW' := fun _ => [w_Ct G a0 s0, w_Ld G a1 s1]) (st := []) (st' := [.int q3]) [1] rfl rfl (fun _ => Nat.le_of_ble_eq_true rfl) (fun _ => rfl) rfl rfl nm_X3_ofRoad zw_4_150 zw_3_80 zw_3_81 zw_1_7 zw_3_80n rfl rfl rfl (Nat.le_of_ble_eq_true rfl) ⟨Nat.le_of_ble_eq_true rfl, Nat.le_of_ble_eq_true rfl⟩ (by decide +kernel) (fun _ => ?_)
          refine zr_run [(.iload 4, 0, 0, 0, .null)] [] (WW' := [w_Ct G a0 s0, w_Ld G a1 s1]) (lv' := [some (.ref (a0 0)), some (.ref (a1 0)), some (.int x2), none, some (.int x4), some (.int x5), some (.int ((Ct_cameBy s0) x4.toNatClampNeg))]) (pc' := 54) (st' := [.int x4, .int q3]) (by decide +kernel) rfl rfl ⟨trivial, trivial⟩ ?_
          refine zr_icmp_ne (off := 26) (tgt := 80) (by decide +kernel) (by decide) (fun hc => ?_) (fun hc => ?_)
          · have hf := zift hf hc
            obtain ⟨h4, hf⟩ := zck_of hf
            obtain ⟨h5, hf⟩ := zck_of hf
            obtain ⟨y6, e6, hf⟩ := zlet_of hf
            refine zr_run [(.aload_n 0, 0, 0, 0, .null), (.getfield 15, 0, 0, 1, .null), (.iload 6, 0, 0, 0, .null), (.dup2, 0, 0, 0, .null), (.iaload, 0, 1, 0, .null), (.iconst 1, 0, 0, 0, .int (1 : Int32)), (.iadd, 0, 0, 0, .null), (.iastore, 0, 1, 0, .null)] [] (WW' := [w_Ct G a0 (Ct_s_flows s0 ((upd (Ct_flows s0) ((Ct_cameBy s0) x4.toNatClampNeg).toNatClampNeg (((Ct_flows s0) ((Ct_cameBy s0) x4.toNatClampNeg).toNatClampNeg) + (1 : Int32))))), w_Ld G a1 s1]) (lv' := [some (.ref (a0 0)), some (.ref (a1 0)), some (.int x2), none, some (.int x4), some (.int x5), some (.int ((Ct_cameBy s0) x4.toNatClampNeg))]) (pc' := 68) (st' := []) (by decide +kernel) rfl rfl ⟨trivial, ⟨rfl, rfl, zw_2_101⟩, trivial, trivial, ⟨rfl, rfl, h4⟩, trivial, trivial, ⟨rfl, rfl, h5⟩, trivial⟩ ?_
            refine zr_eq (WW2 := [w_Ct G a0 y6, w_Ld G a1 s1]) (lv2 := [some (.ref (a0 0)), some (.ref (a1 0)), some (.int x2), none, some (.int x4), some (.int x5), some (.int ((Ct_cameBy s0) x4.toNatClampNeg))]) (st2 := []) (by rw [e6]) rfl rfl ?_
            obtain ⟨q7, e7, hf⟩ := zbi_of hf
            refine zr_run [(.aload_n 1, 0, 0, 0, .null), (.iload 6, 0, 0, 0, .null), (.iconst 0, 0, 0, 0, .int (0 : Int32))] [] (WW' := [w_Ct G a0 y6, w_Ld G a1 s1]) (lv' := [some (.ref (a0 0)), some (.ref (a1 0)), some (.int x2), none, some (.int x4), some (.int x5), some (.int ((Ct_cameBy s0) x4.toNatClampNeg))]) (pc' := 72) (st' := [.int (0 : Int32), .int ((Ct_cameBy s0) x4.toNatClampNeg), .ref (a1 0)]) (by decide +kernel) rfl rfl ⟨trivial, trivial, trivial, trivial⟩ ?_
            refine zr_callV (c_X3_ofRoad l G a1 s1 ((Ct_cameBy s0) x4.toNatClampNeg) (0 : Int32) q7 e7) (WW' := fun _ => [w_Ct G a0 y6, w_Ld G a1 s1]) (st := []) (st' := [.int q7]) [1] rfl rfl (fun _ => Nat.le_of_ble_eq_true rfl) (fun _ => rfl) rfl rfl nm_X3_ofRoad zw_4_150 zw_3_80 zw_3_81 zw_1_7 zw_3_80n rfl rfl rfl (Nat.le_of_ble_eq_true rfl) ⟨Nat.le_of_ble_eq_true rfl, Nat.le_of_ble_eq_true rfl⟩ (by decide +kernel) (fun _ => ?_)
            refine zr_run [(.istore 4, 0, 0, 0, .null)] [] (WW' := [w_Ct G a0 y6, w_Ld G a1 s1]) (lv' := [some (.ref (a0 0)), some (.ref (a1 0)), some (.int x2), none, some (.int q7), some (.int x5), some (.int ((Ct_cameBy s0) x4.toNatClampNeg))]) (pc' := 77) (st' := []) (by decide +kernel) rfl rfl ⟨trivial, trivial⟩ ?_
            refine zr_goto (off := 23) (tgt := 100) (by decide +kernel) (by decide) ?_
            refine zr_run [] [6] (WW' := [w_Ct G a0 y6, w_Ld G a1 s1]) (lv' := [some (.ref (a0 0)), some (.ref (a1 0)), some (.int x2), none, some (.int q7), some (.int x5), none]) (pc' := 100) (st' := []) (by decide +kernel) rfl rfl trivial ?_
            exact t_X0_push_b100 l G a0 a1 W0 r y6 s1 k6 hk6 x2 q7 x5 hf
          · have hf := ziff hf hc
            obtain ⟨h8, hf⟩ := zck_of hf
            obtain ⟨h9, hf⟩ := zck_of hf
            obtain ⟨y10, e10, hf⟩ := zlet_of hf
            refine zr_run [(.aload_n 0, 0, 0, 0, .null), (.getfield 15, 0, 0, 1, .null), (.iload 6, 0, 0, 0, .null), (.dup2, 0, 0, 0, .null), (.iaload, 0, 1, 0, .null), (.iconst 1, 0, 0, 0, .int (1 : Int32)), (.isub, 0, 0, 0, .null), (.iastore, 0, 1, 0, .null)] [] (WW' := [w_Ct G a0 (Ct_s_flows s0 ((upd (Ct_flows s0) ((Ct_cameBy s0) x4.toNatClampNeg).toNatClampNeg (((Ct_flows s0) ((Ct_cameBy s0) x4.toNatClampNeg).toNatClampNeg) - (1 : Int32))))), w_Ld G a1 s1]) (lv' := [some (.ref (a0 0)), some (.ref (a1 0)), some (.int x2), none, some (.int x4), some (.int x5), some (.int ((Ct_cameBy s0) x4.toNatClampNeg))]) (pc' := 91) (st' := []) (by decide +kernel) rfl rfl ⟨trivial, ⟨rfl, rfl, zw_2_101⟩, trivial, trivial, ⟨rfl, rfl, h8⟩, trivial, trivial, ⟨rfl, rfl, h9⟩, trivial⟩ ?_
            refine zr_eq (WW2 := [w_Ct G a0 y10, w_Ld G a1 s1]) (lv2 := [some (.ref (a0 0)), some (.ref (a1 0)), some (.int x2), none, some (.int x4), some (.int x5), some (.int ((Ct_cameBy s0) x4.toNatClampNeg))]) (st2 := []) (by rw [e10]) rfl rfl ?_
            obtain ⟨q11, e11, hf⟩ := zbi_of hf
            refine zr_run [(.aload_n 1, 0, 0, 0, .null), (.iload 6, 0, 0, 0, .null), (.iconst 1, 0, 0, 0, .int (1 : Int32))] [] (WW' := [w_Ct G a0 y10, w_Ld G a1 s1]) (lv' := [some (.ref (a0 0)), some (.ref (a1 0)), some (.int x2), none, some (.int x4), some (.int x5), some (.int ((Ct_cameBy s0) x4.toNatClampNeg))]) (pc' := 95) (st' := [.int (1 : Int32), .int ((Ct_cameBy s0) x4.toNatClampNeg), .ref (a1 0)]) (by decide +kernel) rfl rfl ⟨trivial, trivial, trivial, trivial⟩ ?_
            refine zr_callV (c_X3_ofRoad l G a1 s1 ((Ct_cameBy s0) x4.toNatClampNeg) (1 : Int32) q11 e11) (WW' := fun _ => [w_Ct G a0 y10, w_Ld G a1 s1]) (st := []) (st' := [.int q11]) [1] rfl rfl (fun _ => Nat.le_of_ble_eq_true rfl) (fun _ => rfl) rfl rfl nm_X3_ofRoad zw_4_150 zw_3_80 zw_3_81 zw_1_7 zw_3_80n rfl rfl rfl (Nat.le_of_ble_eq_true rfl) ⟨Nat.le_of_ble_eq_true rfl, Nat.le_of_ble_eq_true rfl⟩ (by decide +kernel) (fun _ => ?_)
            refine zr_run [(.istore 4, 0, 0, 0, .null)] [6] (WW' := [w_Ct G a0 y10, w_Ld G a1 s1]) (lv' := [some (.ref (a0 0)), some (.ref (a1 0)), some (.int x2), none, some (.int q11), some (.int x5), none]) (pc' := 100) (st' := []) (by decide +kernel) rfl rfl ⟨trivial, trivial⟩ ?_
            exact t_X0_push_b100 l G a0 a1 W0 r y10 s1 k6 hk6 x2 q11 x5 hf
  · have hf := ziff hf hc
    obtain rfl := Option.some.inj hf
    exact zr_vret (b0 := fun _ => 0) (by decide +kernel) rfl rfl rfl rfl rfl
theorem t_X0_push_L6 (l : Launch) (G : zj_G) (a0 : Nat → Nat) (a1 : Nat → Nat) (W0 : List va_W) (r : CtT) (s1 : LdT)   : ∀ (n : Nat) (s0 : CtT) (x2 : Int32) (x4 : Int32) (x5 : Int32), f_X0_push_L6 s1 n s0 x2 x4 x5 = some r → zj_J l G M_X0_push W0 (zj_ret G M_X0_push W0 (none) (fun _ => [w_Ct G a0 r, w_Ld G a1 s1])) 0 0 [w_Ct G a0 s0, w_Ld G a1 s1] [some (.ref (a0 0)), some (.ref (a1 0)), some (.int x2), none, some (.int x4), some (.int x5), none] 6 [] := by
  intro n
  induction n with
  | zero => intro s0 x2 x4 x5 hf; exact nomatch (show none = some r from hf)
  | succ n ih => intro s0 x2 x4 x5 hf; exact t_X0_push_H6 l G a0 a1 W0 r s0 s1  (f_X0_push_L6 s1 n)  ih x2 x4 x5  hf
set_option maxRecDepth 100000 in
set_option maxHeartbeats 4000000 in
theorem c_X0_push (l : Launch) (G : zj_G) (a0 : Nat → Nat) (a1 : Nat → Nat) (s0 : CtT) (s1 : LdT) (x2 : Int32) (x3 : Int32) (r : CtT) (hf : f_X0_push s0 s1 x2 x3 = some r) : zj_C l G M_X0_push yX0_push [w_Ct G a0 s0, w_Ld G a1 s1] [.ref (a0 0), .ref (a1 0), .int x2, .int x3] (none) (fun _ => [w_Ct G a0 r, w_Ld G a1 s1]) := by
  have key : ∀ W0 : List va_W, zj_J l G M_X0_push W0 (zj_ret G M_X0_push W0 (none) (fun _ => [w_Ct G a0 r, w_Ld G a1 s1])) 0 0 [w_Ct G a0 s0, w_Ld G a1 s1] [some (.ref (a0 0)), some (.ref (a1 0)), some (.int x2), some (.int x3), none, none, none] 0 [] := by
    intro W0
    unfold f_X0_push at hf
    refine zr_run [(.iload_n 3, 0, 0, 0, .null), (.istore 4, 0, 0, 0, .null), (.iconst 0, 0, 0, 0, .int (0 : Int32)), (.istore 5, 0, 0, 0, .null)] [3] (WW' := [w_Ct G a0 s0, w_Ld G a1 s1]) (lv' := [some (.ref (a0 0)), some (.ref (a1 0)), some (.int x2), none, some (.int x3), some (.int (0 : Int32)), none]) (pc' := 6) (st' := []) (by decide +kernel) rfl rfl ⟨trivial, trivial, trivial, trivial, trivial⟩ ?_
    exact t_X0_push_L6 l G a0 a1 W0 r s1 zFU s0 x2 x3 (0 : Int32) hf
  exact zj_entry [some (.ref (a0 0)), some (.ref (a1 0)), some (.int x2), some (.int x3), none, none, none] (by decide +kernel) rfl (by decide) (Nat.le_of_ble_eq_true rfl) rfl rfl (key _)
def M_X0_flow : zj_M := (RX0, cX0_flow, 7, (some .int), { frames := 3, cells := 0, slots := 0, locals := 77 }, false)
theorem nm_X0_flow : zj_nm yX0_flow 5 := ⟨by decide +kernel, by decide +kernel, by decide +kernel⟩
def f_X0_flow_H11  (s0 : CtT) (s1 : LdT) (k11 : CtT → Int32 → Int32 → Int32 → Int32 → Int32 → Option (Int32 × CtT)) (x2 : Int32) (x3 : Int32) (x4 : Int32) (x5 : Int32) (x6 : Int32) : Option (Int32 × CtT) := (if x6 < x5 then ((f_X0_search s0 s1 x2 x3 x4).bind fun q2 => (if q2.1 = 0 then some (x6, q2.2) else ((f_X0_push q2.2 s1 x2 x3).bind fun q3 => k11 q3 x2 x3 x4 x5 (x6 + (1 : Int32))))) else some (x6, s0))
def f_X0_flow_L11  (s1 : LdT)  : Nat → CtT → Int32 → Int32 → Int32 → Int32 → Int32 → Option (Int32 × CtT)
  | 0 => fun _ _ _ _ _ _ => none
  | n + 1 => fun s0 x2 x3 x4 x5 x6 => f_X0_flow_H11 s0 s1 (f_X0_flow_L11 s1 n) x2 x3 x4 x5 x6
def f_X0_flow  (s0 : CtT) (s1 : LdT) (x2 : Int32) (x3 : Int32) (x4 : Int32) (x5 : Int32) : Option (Int32 × CtT) := (zlet (Ct_s_flows s0 ((zr_fill 16 (Ct_flows s0) (0 : Int32)))) fun y1 => f_X0_flow_L11 s1 zFU y1 x2 x3 x4 x5 (0 : Int32))
set_option maxRecDepth 100000 in
set_option maxHeartbeats 4000000 in
theorem t_X0_flow_H11 (l : Launch) (G : zj_G) (a0 : Nat → Nat) (a1 : Nat → Nat) (W0 : List va_W) (r : Int32 × CtT) (s0 : CtT) (s1 : LdT) (k11 : CtT → Int32 → Int32 → Int32 → Int32 → Int32 → Option (Int32 × CtT)) (hk11 : ∀ (s0 : CtT) (x2 : Int32) (x3 : Int32) (x4 : Int32) (x5 : Int32) (x6 : Int32), k11 s0 x2 x3 x4 x5 x6 = some r → zj_J l G M_X0_flow W0 (zj_ret G M_X0_flow W0 (some (.int r.1)) (fun _ => [w_Ct G a0 r.2, w_Ld G a1 s1])) 0 0 [w_Ct G a0 s0, w_Ld G a1 s1] [some (.ref (a0 0)), some (.ref (a1 0)), some (.int x2), some (.int x3), some (.int x4), some (.int x5), some (.int x6)] 11 []) (x2 : Int32) (x3 : Int32) (x4 : Int32) (x5 : Int32) (x6 : Int32) (hf : f_X0_flow_H11 s0 s1 k11 x2 x3 x4 x5 x6 = some r) : zj_J l G M_X0_flow W0 (zj_ret G M_X0_flow W0 (some (.int r.1)) (fun _ => [w_Ct G a0 r.2, w_Ld G a1 s1])) 0 0 [w_Ct G a0 s0, w_Ld G a1 s1] [some (.ref (a0 0)), some (.ref (a1 0)), some (.int x2), some (.int x3), some (.int x4), some (.int x5), some (.int x6)] 11 [] := by
  unfold f_X0_flow_H11 at hf
  refine zr_run [(.iload 6, 0, 0, 0, .null), (.iload 5, 0, 0, 0, .null)] [] (WW' := [w_Ct G a0 s0, w_Ld G a1 s1]) (lv' := [some (.ref (a0 0)), some (.ref (a1 0)), some (.int x2), some (.int x3), some (.int x4), some (.int x5), some (.int x6)]) (pc' := 15) (st' := [.int x5, .int x6]) (by decide +kernel) rfl rfl ⟨trivial, trivial, trivial⟩ ?_
  refine zr_icmp_ge (off := 28) (tgt := 43) (by decide +kernel) (by decide) (fun hc => ?_) (fun hc => ?_)
  · have hf := zift hf hc
    obtain ⟨q2, e2, hf⟩ := zbi_of hf
    refine zr_run [(.aload_n 0, 0, 0, 0, .null), (.aload_n 1, 0, 0, 0, .null), (.iload_n 2, 0, 0, 0, .null), (.iload_n 3, 0, 0, 0, .null), (.iload 4, 0, 0, 0, .null)] [] (WW' := [w_Ct G a0 s0, w_Ld G a1 s1]) (lv' := [some (.ref (a0 0)), some (.ref (a1 0)), some (.int x2), some (.int x3), some (.int x4), some (.int x5), some (.int x6)]) (pc' := 24) (st' := [.int x4, .int x3, .int x2, .ref (a1 0), .ref (a0 0)]) (by decide +kernel) rfl rfl ⟨trivial, trivial, trivial, trivial, trivial, trivial⟩ ?_
    refine zr_callV (c_X0_search l G a0 a1 s0 s1 x2 x3 x4 q2 e2) (WW' := fun _ => [w_Ct G a0 q2.2, w_Ld G a1 s1]) (st := []) (st' := [.int q2.1]) [0, 1] rfl rfl (fun _ => Nat.le_of_ble_eq_true rfl) (fun _ => rfl) rfl rfl nm_X0_search zw_4_142 zw_4_144 zw_0_22 zw_1_15 zw_4_145 rfl rfl rfl (Nat.le_of_ble_eq_true rfl) ⟨Nat.le_of_ble_eq_true rfl, Nat.le_of_ble_eq_true rfl⟩ (by decide +kernel) (fun _ => ?_)
    refine zr_if_eq (off := 16) (tgt := 43) (by decide +kernel) (by decide) (fun hc => ?_) (fun hc => ?_)
    · have hf := zift hf hc
      refine zr_run [(.iload 6, 0, 0, 0, .null)] [] (WW' := [w_Ct G a0 q2.2, w_Ld G a1 s1]) (lv' := [some (.ref (a0 0)), some (.ref (a1 0)), some (.int x2), some (.int x3), some (.int x4), some (.int x5), some (.int x6)]) (pc' := 45) (st' := [.int x6]) (by decide +kernel) rfl rfl ⟨trivial, trivial⟩ ?_
      obtain rfl := Option.some.inj hf
      exact zr_iret (b0 := fun _ => 0) (by decide +kernel) rfl rfl rfl rfl rfl
    · have hf := ziff hf hc
      obtain ⟨q3, e3, hf⟩ := zbi_of hf
      refine zr_run [(.aload_n 0, 0, 0, 0, .null), (.aload_n 1, 0, 0, 0, .null), (.iload_n 2, 0, 0, 0, .null), (.iload_n 3, 0, 0, 0, .null)] [] (WW' := [w_Ct G a0 q2.2, w_Ld G a1 s1]) (lv' := [some (.ref (a0 0)), some (.ref (a1 0)), some (.int x2), some (.int x3), some (.int x4), some (.int x5), some (.int x6)]) (pc' := 34) (st' := [.int x3, .int x2, .ref (a1 0), .ref (a0 0)]) (by decide +kernel) rfl rfl ⟨trivial, trivial, trivial, trivial, trivial⟩ ?_
      refine zr_callV (c_X0_push l G a0 a1 q2.2 s1 x2 x3 q3 e3) (WW' := fun _ => [w_Ct G a0 q3, w_Ld G a1 s1]) (st := []) (st' := []) [0, 1] rfl rfl (fun _ => Nat.le_of_ble_eq_true rfl) (fun _ => rfl) rfl rfl nm_X0_push zw_4_151 zw_4_153 zw_0_24 zw_1_15 zw_4_154 rfl rfl rfl (Nat.le_of_ble_eq_true rfl) ⟨Nat.le_of_ble_eq_true rfl, Nat.le_of_ble_eq_true rfl⟩ (by decide +kernel) (fun _ => ?_)
      refine zr_run [(.iinc 6 1, 0, 0, 0, .int (1 : Int32))] [] (WW' := [w_Ct G a0 q3, w_Ld G a1 s1]) (lv' := [some (.ref (a0 0)), some (.ref (a1 0)), some (.int x2), some (.int x3), some (.int x4), some (.int x5), some (.int (x6 + (1 : Int32)))]) (pc' := 40) (st' := []) (by decide +kernel) rfl rfl ⟨trivial, trivial⟩ ?_
      refine zr_goto (off := -29) (tgt := 11) (by decide +kernel) (by decide) ?_
      exact hk11 q3 x2 x3 x4 x5 (x6 + (1 : Int32)) hf
  · have hf := ziff hf hc
    refine zr_run [(.iload 6, 0, 0, 0, .null)] [] (WW' := [w_Ct G a0 s0, w_Ld G a1 s1]) (lv' := [some (.ref (a0 0)), some (.ref (a1 0)), some (.int x2), some (.int x3), some (.int x4), some (.int x5), some (.int x6)]) (pc' := 45) (st' := [.int x6]) (by decide +kernel) rfl rfl ⟨trivial, trivial⟩ ?_
    obtain rfl := Option.some.inj hf
    exact zr_iret (b0 := fun _ => 0) (by decide +kernel) rfl rfl rfl rfl rfl
theorem t_X0_flow_L11 (l : Launch) (G : zj_G) (a0 : Nat → Nat) (a1 : Nat → Nat) (W0 : List va_W) (r : Int32 × CtT) (s1 : LdT)   : ∀ (n : Nat) (s0 : CtT) (x2 : Int32) (x3 : Int32) (x4 : Int32) (x5 : Int32) (x6 : Int32), f_X0_flow_L11 s1 n s0 x2 x3 x4 x5 x6 = some r → zj_J l G M_X0_flow W0 (zj_ret G M_X0_flow W0 (some (.int r.1)) (fun _ => [w_Ct G a0 r.2, w_Ld G a1 s1])) 0 0 [w_Ct G a0 s0, w_Ld G a1 s1] [some (.ref (a0 0)), some (.ref (a1 0)), some (.int x2), some (.int x3), some (.int x4), some (.int x5), some (.int x6)] 11 [] := by
  intro n
  induction n with
  | zero => intro s0 x2 x3 x4 x5 x6 hf; exact nomatch (show none = some r from hf)
  | succ n ih => intro s0 x2 x3 x4 x5 x6 hf; exact t_X0_flow_H11 l G a0 a1 W0 r s0 s1  (f_X0_flow_L11 s1 n)  ih x2 x3 x4 x5 x6  hf
set_option maxRecDepth 100000 in
set_option maxHeartbeats 4000000 in
theorem c_X0_flow (l : Launch) (G : zj_G) (a0 : Nat → Nat) (a1 : Nat → Nat) (s0 : CtT) (s1 : LdT) (x2 : Int32) (x3 : Int32) (x4 : Int32) (x5 : Int32) (r : Int32 × CtT) (hf : f_X0_flow s0 s1 x2 x3 x4 x5 = some r) : zj_C l G M_X0_flow yX0_flow [w_Ct G a0 s0, w_Ld G a1 s1] [.ref (a0 0), .ref (a1 0), .int x2, .int x3, .int x4, .int x5] (some (.int r.1)) (fun _ => [w_Ct G a0 r.2, w_Ld G a1 s1]) := by
  have key : ∀ W0 : List va_W, zj_J l G M_X0_flow W0 (zj_ret G M_X0_flow W0 (some (.int r.1)) (fun _ => [w_Ct G a0 r.2, w_Ld G a1 s1])) 0 0 [w_Ct G a0 s0, w_Ld G a1 s1] [some (.ref (a0 0)), some (.ref (a1 0)), some (.int x2), some (.int x3), some (.int x4), some (.int x5), none] 0 [] := by
    intro W0
    unfold f_X0_flow at hf
    refine zr_run [(.aload_n 0, 0, 0, 0, .null), (.getfield 15, 0, 0, 1, .null), (.iconst 0, 0, 0, 0, .int (0 : Int32))] [] (WW' := [w_Ct G a0 s0, w_Ld G a1 s1]) (lv' := [some (.ref (a0 0)), some (.ref (a1 0)), some (.int x2), some (.int x3), some (.int x4), some (.int x5), none]) (pc' := 5) (st' := [.int (0 : Int32), .ref (a0 1)]) (by decide +kernel) rfl rfl ⟨trivial, ⟨rfl, rfl, zw_2_101⟩, trivial, trivial⟩ ?_
    refine zr_fillI (b := 0) (c' := 1) rfl rfl rfl (Nat.le_of_ble_eq_true rfl) zw_4_141 zw_2_56 zw_1_13 zw_2_57 rfl (Nat.le_of_ble_eq_true rfl) ⟨Nat.le_of_ble_eq_true rfl, Nat.le_of_ble_eq_true rfl⟩ (by decide +kernel) ?_
    refine zr_eq (WW2 := [w_Ct G a0 (Ct_s_flows s0 ((zr_fill 16 (Ct_flows s0) (0 : Int32)))), w_Ld G a1 s1]) rfl rfl rfl ?_
    obtain ⟨y1, e1, hf⟩ := zlet_of hf
    refine zr_eq (WW2 := [w_Ct G a0 y1, w_Ld G a1 s1]) (lv2 := [some (.ref (a0 0)), some (.ref (a1 0)), some (.int x2), some (.int x3), some (.int x4), some (.int x5), none]) (st2 := []) (by rw [e1]) rfl rfl ?_
    refine zr_run [(.iconst 0, 0, 0, 0, .int (0 : Int32)), (.istore 6, 0, 0, 0, .null)] [] (WW' := [w_Ct G a0 y1, w_Ld G a1 s1]) (lv' := [some (.ref (a0 0)), some (.ref (a1 0)), some (.int x2), some (.int x3), some (.int x4), some (.int x5), some (.int (0 : Int32))]) (pc' := 11) (st' := []) (by decide +kernel) rfl rfl ⟨trivial, trivial, trivial⟩ ?_
    exact t_X0_flow_L11 l G a0 a1 W0 r s1 zFU y1 x2 x3 x4 x5 (0 : Int32) hf
  exact zj_entry [some (.ref (a0 0)), some (.ref (a1 0)), some (.int x2), some (.int x3), some (.int x4), some (.int x5), none] (by decide +kernel) rfl (by decide) (Nat.le_of_ble_eq_true rfl) rfl rfl (key _)
def M_X0_part : zj_M := (RX0, cX0_part, 8, (some .int), { frames := 4, cells := 0, slots := 0, locals := 103 }, false)
theorem nm_X0_part : zj_nm yX0_part 3 := ⟨by decide +kernel, by decide +kernel, by decide +kernel⟩
def f_X0_part_b66  (s0 : CtT) (s1 : LdT) (k30 : CtT → Int32 → Int32 → Int32 → Int32 → Int32 → Option (Int32 × CtT)) (x2 : Int32) (x3 : Int32) (x4 : Int32) (x5 : Int32) (x6 : Int32) : Option (Int32 × CtT) := k30 s0 x2 x3 x4 x5 (x6 + (-1 : Int32))
def f_X0_part_H30  (s0 : CtT) (s1 : LdT) (k30 : CtT → Int32 → Int32 → Int32 → Int32 → Int32 → Option (Int32 × CtT)) (x2 : Int32) (x3 : Int32) (x4 : Int32) (x5 : Int32) (x6 : Int32) : Option (Int32 × CtT) := (if x6 < 0 then (zlet (((zr_shl (1 : Int32) (Ld_roads s1)) - (1 : Int32)) &&& (x5 ^^^ (-1 : Int32))) fun y2 => (zlet (Ct_s_latest s0 y2) fun y3 => some (x4, y3))) else ((f_X0_flow s0 s1 x2 x3 (x5 ||| (zr_shl (1 : Int32) x6)) (x4 + (1 : Int32))).bind fun q4 => (if q4.1 = x4 then f_X0_part_b66 q4.2 s1 k30 x2 x3 x4 (x5 ||| (zr_shl (1 : Int32) x6)) x6 else f_X0_part_b66 q4.2 s1 k30 x2 x3 x4 x5 x6)))
def f_X0_part_L30  (s1 : LdT)  : Nat → CtT → Int32 → Int32 → Int32 → Int32 → Int32 → Option (Int32 × CtT)
  | 0 => fun _ _ _ _ _ _ => none
  | n + 1 => fun s0 x2 x3 x4 x5 x6 => f_X0_part_H30 s0 s1 (f_X0_part_L30 s1 n) x2 x3 x4 x5 x6
def f_X0_part  (s0 : CtT) (s1 : LdT) (x2 : Int32) (x3 : Int32) : Option (Int32 × CtT) := ((f_X0_flow s0 s1 x2 x3 (0 : Int32) (5 : Int32)).bind fun q1 => (if (4 : Int32) < q1.1 then some ((-1 : Int32), q1.2) else f_X0_part_L30 s1 zFU q1.2 x2 x3 q1.1 (0 : Int32) ((Ld_roads s1) - (1 : Int32))))
set_option maxRecDepth 100000 in
set_option maxHeartbeats 4000000 in
theorem t_X0_part_b66 (l : Launch) (G : zj_G) (a0 : Nat → Nat) (a1 : Nat → Nat) (W0 : List va_W) (r : Int32 × CtT) (s0 : CtT) (s1 : LdT) (k30 : CtT → Int32 → Int32 → Int32 → Int32 → Int32 → Option (Int32 × CtT)) (hk30 : ∀ (s0 : CtT) (x2 : Int32) (x3 : Int32) (x4 : Int32) (x5 : Int32) (x6 : Int32), k30 s0 x2 x3 x4 x5 x6 = some r → zj_J l G M_X0_part W0 (zj_ret G M_X0_part W0 (some (.int r.1)) (fun _ => [w_Ct G a0 r.2, w_Ld G a1 s1])) 0 0 [w_Ct G a0 s0, w_Ld G a1 s1] [some (.ref (a0 0)), some (.ref (a1 0)), some (.int x2), some (.int x3), some (.int x4), some (.int x5), some (.int x6), none] 30 []) (x2 : Int32) (x3 : Int32) (x4 : Int32) (x5 : Int32) (x6 : Int32) (hf : f_X0_part_b66 s0 s1 k30 x2 x3 x4 x5 x6 = some r) : zj_J l G M_X0_part W0 (zj_ret G M_X0_part W0 (some (.int r.1)) (fun _ => [w_Ct G a0 r.2, w_Ld G a1 s1])) 0 0 [w_Ct G a0 s0, w_Ld G a1 s1] [some (.ref (a0 0)), some (.ref (a1 0)), some (.int x2), some (.int x3), some (.int x4), some (.int x5), some (.int x6), none] 66 [] := by
  unfold f_X0_part_b66 at hf
  refine zr_run [(.iinc 6 (-1), 0, 0, 0, .int (-1 : Int32))] [] (WW' := [w_Ct G a0 s0, w_Ld G a1 s1]) (lv' := [some (.ref (a0 0)), some (.ref (a1 0)), some (.int x2), some (.int x3), some (.int x4), some (.int x5), some (.int (x6 + (-1 : Int32))), none]) (pc' := 69) (st' := []) (by decide +kernel) rfl rfl ⟨trivial, trivial⟩ ?_
  refine zr_goto (off := -39) (tgt := 30) (by decide +kernel) (by decide) ?_
  exact hk30 s0 x2 x3 x4 x5 (x6 + (-1 : Int32)) hf
set_option maxRecDepth 100000 in
set_option maxHeartbeats 4000000 in
theorem t_X0_part_H30 (l : Launch) (G : zj_G) (a0 : Nat → Nat) (a1 : Nat → Nat) (W0 : List va_W) (r : Int32 × CtT) (s0 : CtT) (s1 : LdT) (k30 : CtT → Int32 → Int32 → Int32 → Int32 → Int32 → Option (Int32 × CtT)) (hk30 : ∀ (s0 : CtT) (x2 : Int32) (x3 : Int32) (x4 : Int32) (x5 : Int32) (x6 : Int32), k30 s0 x2 x3 x4 x5 x6 = some r → zj_J l G M_X0_part W0 (zj_ret G M_X0_part W0 (some (.int r.1)) (fun _ => [w_Ct G a0 r.2, w_Ld G a1 s1])) 0 0 [w_Ct G a0 s0, w_Ld G a1 s1] [some (.ref (a0 0)), some (.ref (a1 0)), some (.int x2), some (.int x3), some (.int x4), some (.int x5), some (.int x6), none] 30 []) (x2 : Int32) (x3 : Int32) (x4 : Int32) (x5 : Int32) (x6 : Int32) (hf : f_X0_part_H30 s0 s1 k30 x2 x3 x4 x5 x6 = some r) : zj_J l G M_X0_part W0 (zj_ret G M_X0_part W0 (some (.int r.1)) (fun _ => [w_Ct G a0 r.2, w_Ld G a1 s1])) 0 0 [w_Ct G a0 s0, w_Ld G a1 s1] [some (.ref (a0 0)), some (.ref (a1 0)), some (.int x2), some (.int x3), some (.int x4), some (.int x5), some (.int x6), none] 30 [] := by
  unfold f_X0_part_H30 at hf
  refine zr_run [(.iload 6, 0, 0, 0, .null)] [] (WW' := [w_Ct G a0 s0, w_Ld G a1 s1]) (lv' := [some (.ref (a0 0)), some (.ref (a1 0)), some (.int x2), some (.int x3), some (.int x4), some (.int x5), some (.int x6), none]) (pc' := 32) (st' := [.int x6]) (by decide +kernel) rfl rfl ⟨trivial, trivial⟩ ?_
  refine zr_if_lt (off := 40) (tgt := 72) (by decide +kernel) (by decide) (fun hc => ?_) (fun hc => ?_)
  · have hf := zift hf hc
    obtain ⟨y2, e2, hf⟩ := zlet_of hf
    refine zr_run [(.aload_n 0, 0, 0, 0, .null), (.iconst 1, 0, 0, 0, .int (1 : Int32)), (.aload_n 1, 0, 0, 0, .null), (.getfield 29, 1, 0, 1, .null), (.ishl, 0, 0, 0, .null), (.iconst 1, 0, 0, 0, .int (1 : Int32)), (.isub, 0, 0, 0, .null), (.iload 5, 0, 0, 0, .null), (.iconst (-1), 0, 0, 0, .int (-1 : Int32)), (.ixor, 0, 0, 0, .null), (.iand, 0, 0, 0, .null)] [] (WW' := [w_Ct G a0 s0, w_Ld G a1 s1]) (lv' := [some (.ref (a0 0)), some (.ref (a1 0)), some (.int x2), some (.int x3), some (.int x4), some (.int x5), some (.int x6), none]) (pc' := 86) (st' := [.int (((zr_shl (1 : Int32) (Ld_roads s1)) - (1 : Int32)) &&& (x5 ^^^ (-1 : Int32))), .ref (a0 0)]) (by decide +kernel) rfl rfl ⟨trivial, trivial, trivial, ⟨rfl, rfl, zw_1_156⟩, trivial, trivial, trivial, trivial, trivial, trivial, trivial, trivial⟩ ?_
    refine zr_eq (WW2 := [w_Ct G a0 s0, w_Ld G a1 s1]) (lv2 := [some (.ref (a0 0)), some (.ref (a1 0)), some (.int x2), some (.int x3), some (.int x4), some (.int x5), some (.int x6), none]) (st2 := [.int y2, .ref (a0 0)]) rfl rfl (by rw [e2]) ?_
    obtain ⟨y3, e3, hf⟩ := zlet_of hf
    refine zr_run [(.putfield 9, 0, 0, 0, .null)] [] (WW' := [w_Ct G a0 (Ct_s_latest s0 y2), w_Ld G a1 s1]) (lv' := [some (.ref (a0 0)), some (.ref (a1 0)), some (.int x2), some (.int x3), some (.int x4), some (.int x5), some (.int x6), none]) (pc' := 89) (st' := []) (by decide +kernel) rfl rfl ⟨⟨rfl, rfl, rfl, trivial, rfl, rfl, zw_2_99⟩, trivial⟩ ?_
    refine zr_eq (WW2 := [w_Ct G a0 y3, w_Ld G a1 s1]) (lv2 := [some (.ref (a0 0)), some (.ref (a1 0)), some (.int x2), some (.int x3), some (.int x4), some (.int x5), some (.int x6), none]) (st2 := []) (by rw [e3]) rfl rfl ?_
    refine zr_run [(.iload 4, 0, 0, 0, .null)] [] (WW' := [w_Ct G a0 y3, w_Ld G a1 s1]) (lv' := [some (.ref (a0 0)), some (.ref (a1 0)), some (.int x2), some (.int x3), some (.int x4), some (.int x5), some (.int x6), none]) (pc' := 91) (st' := [.int x4]) (by decide +kernel) rfl rfl ⟨trivial, trivial⟩ ?_
    obtain rfl := Option.some.inj hf
    exact zr_iret (b0 := fun _ => 0) (by decide +kernel) rfl rfl rfl rfl rfl
  · have hf := ziff hf hc
    obtain ⟨q4, e4, hf⟩ := zbi_of hf
    refine zr_run [(.iload 5, 0, 0, 0, .null), (.iconst 1, 0, 0, 0, .int (1 : Int32)), (.iload 6, 0, 0, 0, .null), (.ishl, 0, 0, 0, .null), (.ior, 0, 0, 0, .null), (.istore 7, 0, 0, 0, .null), (.aload_n 0, 0, 0, 0, .null), (.aload_n 1, 0, 0, 0, .null), (.iload_n 2, 0, 0, 0, .null), (.iload_n 3, 0, 0, 0, .null), (.iload 7, 0, 0, 0, .null), (.iload 4, 0, 0, 0, .null), (.iconst 1, 0, 0, 0, .int (1 : Int32)), (.iadd, 0, 0, 0, .null)] [] (WW' := [w_Ct G a0 s0, w_Ld G a1 s1]) (lv' := [some (.ref (a0 0)), some (.ref (a1 0)), some (.int x2), some (.int x3), some (.int x4), some (.int x5), some (.int x6), some (.int (x5 ||| (zr_shl (1 : Int32) x6)))]) (pc' := 54) (st' := [.int (x4 + (1 : Int32)), .int (x5 ||| (zr_shl (1 : Int32) x6)), .int x3, .int x2, .ref (a1 0), .ref (a0 0)]) (by decide +kernel) rfl rfl ⟨trivial, trivial, trivial, trivial, trivial, trivial, trivial, trivial, trivial, trivial, trivial, trivial, trivial, trivial, trivial⟩ ?_
    refine zr_callV (c_X0_flow l G a0 a1 s0 s1 x2 x3 (x5 ||| (zr_shl (1 : Int32) x6)) (x4 + (1 : Int32)) q4 e4) (WW' := fun _ => [w_Ct G a0 q4.2, w_Ld G a1 s1]) (st := []) (st' := [.int q4.1]) [0, 1] rfl rfl (fun _ => Nat.le_of_ble_eq_true rfl) (fun _ => rfl) rfl rfl nm_X0_flow zw_4_137 zw_4_139 zw_0_21 zw_1_15 zw_4_140 rfl rfl rfl (Nat.le_of_ble_eq_true rfl) ⟨Nat.le_of_ble_eq_true rfl, Nat.le_of_ble_eq_true rfl⟩ (by decide +kernel) (fun _ => ?_)
    refine zr_run [(.iload 4, 0, 0, 0, .null)] [] (WW' := [w_Ct G a0 q4.2, w_Ld G a1 s1]) (lv' := [some (.ref (a0 0)), some (.ref (a1 0)), some (.int x2), some (.int x3), some (.int x4), some (.int x5), some (.int x6), some (.int (x5 ||| (zr_shl (1 : Int32) x6)))]) (pc' := 59) (st' := [.int x4, .int q4.1]) (by decide +kernel) rfl rfl ⟨trivial, trivial⟩ ?_
    refine zr_icmp_ne (off := 7) (tgt := 66) (by decide +kernel) (by decide) (fun hc => ?_) (fun hc => ?_)
    · have hf := zift hf hc
      refine zr_run [(.iload 7, 0, 0, 0, .null), (.istore 5, 0, 0, 0, .null)] [7] (WW' := [w_Ct G a0 q4.2, w_Ld G a1 s1]) (lv' := [some (.ref (a0 0)), some (.ref (a1 0)), some (.int x2), some (.int x3), some (.int x4), some (.int (x5 ||| (zr_shl (1 : Int32) x6))), some (.int x6), none]) (pc' := 66) (st' := []) (by decide +kernel) rfl rfl ⟨trivial, trivial, trivial⟩ ?_
      exact t_X0_part_b66 l G a0 a1 W0 r q4.2 s1 k30 hk30 x2 x3 x4 (x5 ||| (zr_shl (1 : Int32) x6)) x6 hf
    · have hf := ziff hf hc
      refine zr_run [] [7] (WW' := [w_Ct G a0 q4.2, w_Ld G a1 s1]) (lv' := [some (.ref (a0 0)), some (.ref (a1 0)), some (.int x2), some (.int x3), some (.int x4), some (.int x5), some (.int x6), none]) (pc' := 66) (st' := []) (by decide +kernel) rfl rfl trivial ?_
      exact t_X0_part_b66 l G a0 a1 W0 r q4.2 s1 k30 hk30 x2 x3 x4 x5 x6 hf
theorem t_X0_part_L30 (l : Launch) (G : zj_G) (a0 : Nat → Nat) (a1 : Nat → Nat) (W0 : List va_W) (r : Int32 × CtT) (s1 : LdT)   : ∀ (n : Nat) (s0 : CtT) (x2 : Int32) (x3 : Int32) (x4 : Int32) (x5 : Int32) (x6 : Int32), f_X0_part_L30 s1 n s0 x2 x3 x4 x5 x6 = some r → zj_J l G M_X0_part W0 (zj_ret G M_X0_part W0 (some (.int r.1)) (fun _ => [w_Ct G a0 r.2, w_Ld G a1 s1])) 0 0 [w_Ct G a0 s0, w_Ld G a1 s1] [some (.ref (a0 0)), some (.ref (a1 0)), some (.int x2), some (.int x3), some (.int x4), some (.int x5), some (.int x6), none] 30 [] := by
  intro n
  induction n with
  | zero => intro s0 x2 x3 x4 x5 x6 hf; exact nomatch (show none = some r from hf)
  | succ n ih => intro s0 x2 x3 x4 x5 x6 hf; exact t_X0_part_H30 l G a0 a1 W0 r s0 s1  (f_X0_part_L30 s1 n)  ih x2 x3 x4 x5 x6  hf
set_option maxRecDepth 100000 in
set_option maxHeartbeats 4000000 in
theorem c_X0_part (l : Launch) (G : zj_G) (a0 : Nat → Nat) (a1 : Nat → Nat) (s0 : CtT) (s1 : LdT) (x2 : Int32) (x3 : Int32) (r : Int32 × CtT) (hf : f_X0_part s0 s1 x2 x3 = some r) : zj_C l G M_X0_part yX0_part [w_Ct G a0 s0, w_Ld G a1 s1] [.ref (a0 0), .ref (a1 0), .int x2, .int x3] (some (.int r.1)) (fun _ => [w_Ct G a0 r.2, w_Ld G a1 s1]) := by
  have key : ∀ W0 : List va_W, zj_J l G M_X0_part W0 (zj_ret G M_X0_part W0 (some (.int r.1)) (fun _ => [w_Ct G a0 r.2, w_Ld G a1 s1])) 0 0 [w_Ct G a0 s0, w_Ld G a1 s1] [some (.ref (a0 0)), some (.ref (a1 0)), some (.int x2), some (.int x3), none, none, none, none] 0 [] := by
    intro W0
    unfold f_X0_part at hf
    obtain ⟨q1, e1, hf⟩ := zbi_of hf
    refine zr_run [(.aload_n 0, 0, 0, 0, .null), (.aload_n 1, 0, 0, 0, .null), (.iload_n 2, 0, 0, 0, .null), (.iload_n 3, 0, 0, 0, .null), (.iconst 0, 0, 0, 0, .int (0 : Int32)), (.iconst 5, 0, 0, 0, .int (5 : Int32))] [] (WW' := [w_Ct G a0 s0, w_Ld G a1 s1]) (lv' := [some (.ref (a0 0)), some (.ref (a1 0)), some (.int x2), some (.int x3), none, none, none, none]) (pc' := 6) (st' := [.int (5 : Int32), .int (0 : Int32), .int x3, .int x2, .ref (a1 0), .ref (a0 0)]) (by decide +kernel) rfl rfl ⟨trivial, trivial, trivial, trivial, trivial, trivial, trivial⟩ ?_
    refine zr_callV (c_X0_flow l G a0 a1 s0 s1 x2 x3 (0 : Int32) (5 : Int32) q1 e1) (WW' := fun _ => [w_Ct G a0 q1.2, w_Ld G a1 s1]) (st := []) (st' := [.int q1.1]) [0, 1] rfl rfl (fun _ => Nat.le_of_ble_eq_true rfl) (fun _ => rfl) rfl rfl nm_X0_flow zw_4_137 zw_4_139 zw_0_21 zw_1_15 zw_4_140 rfl rfl rfl (Nat.le_of_ble_eq_true rfl) ⟨Nat.le_of_ble_eq_true rfl, Nat.le_of_ble_eq_true rfl⟩ (by decide +kernel) (fun _ => ?_)
    refine zr_run [(.istore 4, 0, 0, 0, .null), (.iload 4, 0, 0, 0, .null), (.iconst 4, 0, 0, 0, .int (4 : Int32))] [] (WW' := [w_Ct G a0 q1.2, w_Ld G a1 s1]) (lv' := [some (.ref (a0 0)), some (.ref (a1 0)), some (.int x2), some (.int x3), some (.int q1.1), none, none, none]) (pc' := 14) (st' := [.int (4 : Int32), .int q1.1]) (by decide +kernel) rfl rfl ⟨trivial, trivial, trivial, trivial⟩ ?_
    refine zr_icmp_le (off := 5) (tgt := 19) (by decide +kernel) (by decide) (fun hc => ?_) (fun hc => ?_)
    · have hf := zift hf hc
      refine zr_run [(.iconst (-1), 0, 0, 0, .int (-1 : Int32))] [] (WW' := [w_Ct G a0 q1.2, w_Ld G a1 s1]) (lv' := [some (.ref (a0 0)), some (.ref (a1 0)), some (.int x2), some (.int x3), some (.int q1.1), none, none, none]) (pc' := 18) (st' := [.int (-1 : Int32)]) (by decide +kernel) rfl rfl ⟨trivial, trivial⟩ ?_
      obtain rfl := Option.some.inj hf
      exact zr_iret (b0 := fun _ => 0) (by decide +kernel) rfl rfl rfl rfl rfl
    · have hf := ziff hf hc
      refine zr_run [(.iconst 0, 0, 0, 0, .int (0 : Int32)), (.istore 5, 0, 0, 0, .null), (.aload_n 1, 0, 0, 0, .null), (.getfield 29, 1, 0, 1, .null), (.iconst 1, 0, 0, 0, .int (1 : Int32)), (.isub, 0, 0, 0, .null), (.istore 6, 0, 0, 0, .null)] [] (WW' := [w_Ct G a0 q1.2, w_Ld G a1 s1]) (lv' := [some (.ref (a0 0)), some (.ref (a1 0)), some (.int x2), some (.int x3), some (.int q1.1), some (.int (0 : Int32)), some (.int ((Ld_roads s1) - (1 : Int32))), none]) (pc' := 30) (st' := []) (by decide +kernel) rfl rfl ⟨trivial, trivial, trivial, ⟨rfl, rfl, zw_1_156⟩, trivial, trivial, trivial, trivial⟩ ?_
      exact t_X0_part_L30 l G a0 a1 W0 r s1 zFU q1.2 x2 x3 q1.1 (0 : Int32) ((Ld_roads s1) - (1 : Int32)) hf
  exact zj_entry [some (.ref (a0 0)), some (.ref (a1 0)), some (.int x2), some (.int x3), none, none, none, none] (by decide +kernel) rfl (by decide) (Nat.le_of_ble_eq_true rfl) rfl rfl (key _)
