def M_X4_readAct : zj_M := (RX4, cX4_readAct, 6, none, { frames := 3, cells := 0, slots := 0, locals := 67 }, false)
theorem nm_X4_readAct : zj_nm yX4_readAct 3 := ⟨by decide +kernel, by decide +kernel, by decide +kernel⟩
def f_X4_readAct_b74  (s0 : LgT) (s1 : RdT) (s2 : LdT)  (x3 : Int32) (x5 : Int32) : Option (LgT × RdT) := (if (Rd_fault s1) = 0 then (if zb_in (x3 + (2 : Int32)) 160 = true then (zlet (Lg_s_rows s0 ((upd (Lg_rows s0) (x3 + (2 : Int32)).toNatClampNeg x5))) fun y8 => ((f_X7_advance s1).bind fun q9 => ((f_X7_number q9 (1 : Int32) (40 : Int32)).bind fun q10 => (if zb_in (x3 + (3 : Int32)) 160 = true then (zlet (Lg_s_rows y8 ((upd (Lg_rows y8) (x3 + (3 : Int32)).toNatClampNeg q10.1))) fun y12 => some (y12, q10.2)) else none)))) else none) else some (s0, s1))
def f_X4_readAct  (s0 : LgT) (s1 : RdT) (s2 : LdT) (x3 : Int32) : Option (LgT × RdT) := (if (Rd_key s1) < (7 : Int32) then ((f_X7_fail s1 (1 : Int32)).bind fun q1 => some (s0, q1)) else (if (11 : Int32) < (Rd_key s1) then ((f_X7_fail s1 (1 : Int32)).bind fun q2 => some (s0, q2)) else (if zb_in (x3 + (0 : Int32)) 160 = true then (zlet (Lg_s_rows s0 ((upd (Lg_rows s0) (x3 + (0 : Int32)).toNatClampNeg (Rd_key s1)))) fun y4 => ((f_X7_advance s1).bind fun q5 => (if (Rd_key s1) = (7 : Int32) then ((f_X3_knownPlace s2 q5).bind fun q6 => (if q6.1 = (-1 : Int32) then f_X4_readAct_b74 y4 q6.2 s2 x3 q6.1 else ((f_X3_isPort s2 q6.1).bind fun q13 => (if q13 = 0 then ((f_X7_fail q6.2 (3 : Int32)).bind fun q14 => f_X4_readAct_b74 y4 q14 s2 x3 q6.1) else f_X4_readAct_b74 y4 q6.2 s2 x3 q6.1)))) else (if (Rd_key s1) = (8 : Int32) then ((f_X7_number q5 (0 : Int32) (20 : Int32)).bind fun q15 => (if zb_in (x3 + (3 : Int32)) 160 = true then (zlet (Lg_s_rows y4 ((upd (Lg_rows y4) (x3 + (3 : Int32)).toNatClampNeg q15.1))) fun y17 => some (y17, q15.2)) else none)) else (if (Rd_key s1) = (11 : Int32) then ((f_X7_number q5 (1 : Int32) (99 : Int32)).bind fun q18 => (if zb_in (x3 + (3 : Int32)) 160 = true then (zlet (Lg_s_rows y4 ((upd (Lg_rows y4) (x3 + (3 : Int32)).toNatClampNeg q18.1))) fun y20 => some (y20, q18.2)) else none)) else some (y4, q5)))))) else none)))
set_option maxRecDepth 100000 in
set_option maxHeartbeats 4000000 in
theorem t_X4_readAct_b74 (l : Launch) (G : zj_G) (a0 : Nat → Nat) (a1 : Nat → Nat) (a2 : Nat → Nat) (W0 : List va_W) (r : LgT × RdT) (s0 : LgT) (s1 : RdT) (s2 : LdT)   (x3 : Int32) (x5 : Int32) (hf : f_X4_readAct_b74 s0 s1 s2 x3 x5 = some r) : zj_J l G M_X4_readAct W0 (zj_ret G M_X4_readAct W0 (none) (fun _ => [w_Lg G a0 r.1, w_Rd G a1 r.2, w_Ld G a2 s2])) 0 0 [w_Lg G a0 s0, w_Rd G a1 s1, w_Ld G a2 s2] [some (.ref (a0 0)), some (.ref (a1 0)), none, some (.int x3), none, some (.int x5)] 74 [] := by
  unfold f_X4_readAct_b74 at hf
  refine zr_run [(.aload_n 1, 0, 0, 0, .null), (.getfield 42, 1, 0, 11, .null)] [] (WW' := [w_Lg G a0 s0, w_Rd G a1 s1, w_Ld G a2 s2]) (lv' := [some (.ref (a0 0)), some (.ref (a1 0)), none, some (.int x3), none, some (.int x5)]) (pc' := 78) (st' := [.int (Rd_fault s1)]) (by decide +kernel) rfl rfl ⟨trivial, ⟨rfl, rfl, zw_1_111⟩, trivial⟩ ?_
  refine zr_if_eq (off := 4) (tgt := 82) (by decide +kernel) (by decide) (fun hc => ?_) (fun hc => ?_)
  · have hf := zift hf hc
    obtain ⟨h7, hf⟩ := zck_of hf
    obtain ⟨y8, e8, hf⟩ := zlet_of hf
    refine zr_run [(.aload_n 0, 0, 0, 0, .null), (.getfield 19, 0, 0, 2, .null), (.iload_n 3, 0, 0, 0, .null), (.iconst 2, 0, 0, 0, .int (2 : Int32)), (.iadd, 0, 0, 0, .null), (.iload 5, 0, 0, 0, .null), (.iastore, 0, 2, 0, .null)] [] (WW' := [w_Lg G a0 (Lg_s_rows s0 ((upd (Lg_rows s0) (x3 + (2 : Int32)).toNatClampNeg x5))), w_Rd G a1 s1, w_Ld G a2 s2]) (lv' := [some (.ref (a0 0)), some (.ref (a1 0)), none, some (.int x3), none, some (.int x5)]) (pc' := 92) (st' := []) (by decide +kernel) rfl rfl ⟨trivial, ⟨rfl, rfl, zw_2_38⟩, trivial, trivial, trivial, trivial, ⟨rfl, rfl, h7⟩, trivial⟩ ?_
    refine zr_eq (WW2 := [w_Lg G a0 y8, w_Rd G a1 s1, w_Ld G a2 s2]) (lv2 := [some (.ref (a0 0)), some (.ref (a1 0)), none, some (.int x3), none, some (.int x5)]) (st2 := []) (by rw [e8]) rfl rfl ?_
    obtain ⟨q9, e9, hf⟩ := zbi_of hf
    refine zr_run [(.aload_n 1, 0, 0, 0, .null)] [] (WW' := [w_Lg G a0 y8, w_Rd G a1 s1, w_Ld G a2 s2]) (lv' := [some (.ref (a0 0)), some (.ref (a1 0)), none, some (.int x3), none, some (.int x5)]) (pc' := 93) (st' := [.ref (a1 0)]) (by decide +kernel) rfl rfl ⟨trivial, trivial⟩ ?_
    refine zr_callV (c_X7_advance l G a1 s1 q9 e9) (WW' := fun _ => [w_Lg G a0 y8, w_Rd G a1 q9, w_Ld G a2 s2]) (st := []) (st' := []) [1] rfl rfl (fun _ => Nat.le_of_ble_eq_true rfl) (fun _ => rfl) rfl rfl nm_X7_advance zw_5_36 zw_2_237 zw_2_238 zw_1_2 zw_2_239 rfl rfl rfl (Nat.le_of_ble_eq_true rfl) ⟨Nat.le_of_ble_eq_true rfl, Nat.le_of_ble_eq_true rfl⟩ (by decide +kernel) (fun _ => ?_)
    obtain ⟨q10, e10, hf⟩ := zbi_of hf
    refine zr_run [(.aload_n 0, 0, 0, 0, .null), (.getfield 19, 0, 0, 2, .null), (.iload_n 3, 0, 0, 0, .null), (.iconst 3, 0, 0, 0, .int (3 : Int32)), (.iadd, 0, 0, 0, .null), (.aload_n 1, 0, 0, 0, .null), (.iconst 1, 0, 0, 0, .int (1 : Int32)), (.bipush 40, 0, 0, 0, .int (40 : Int32))] [] (WW' := [w_Lg G a0 y8, w_Rd G a1 q9, w_Ld G a2 s2]) (lv' := [some (.ref (a0 0)), some (.ref (a1 0)), none, some (.int x3), none, some (.int x5)]) (pc' := 107) (st' := [.int (40 : Int32), .int (1 : Int32), .ref (a1 0), .int (x3 + (3 : Int32)), .ref (a0 2)]) (by decide +kernel) rfl rfl ⟨trivial, ⟨rfl, rfl, zw_2_38⟩, trivial, trivial, trivial, trivial, trivial, trivial, trivial⟩ ?_
    refine zr_callV (c_X7_number l G a1 q9 (1 : Int32) (40 : Int32) q10 e10) (WW' := fun _ => [w_Lg G a0 y8, w_Rd G a1 q10.2, w_Ld G a2 s2]) (st := [.int (x3 + (3 : Int32)), .ref (a0 2)]) (st' := [.int q10.1, .int (x3 + (3 : Int32)), .ref (a0 2)]) [1] rfl rfl (fun _ => Nat.le_of_ble_eq_true rfl) (fun _ => rfl) rfl rfl nm_X7_number zw_5_37 zw_3_35 zw_3_36 zw_1_2 zw_3_37 rfl rfl rfl (Nat.le_of_ble_eq_true rfl) ⟨Nat.le_of_ble_eq_true rfl, Nat.le_of_ble_eq_true rfl⟩ (by decide +kernel) (fun _ => ?_)
    obtain ⟨h11, hf⟩ := zck_of hf
    obtain ⟨y12, e12, hf⟩ := zlet_of hf
    refine zr_run [(.iastore, 0, 2, 0, .null)] [] (WW' := [w_Lg G a0 (Lg_s_rows y8 ((upd (Lg_rows y8) (x3 + (3 : Int32)).toNatClampNeg q10.1))), w_Rd G a1 q10.2, w_Ld G a2 s2]) (lv' := [some (.ref (a0 0)), some (.ref (a1 0)), none, some (.int x3), none, some (.int x5)]) (pc' := 111) (st' := []) (by decide +kernel) rfl rfl ⟨⟨rfl, rfl, h11⟩, trivial⟩ ?_
    refine zr_eq (WW2 := [w_Lg G a0 y12, w_Rd G a1 q10.2, w_Ld G a2 s2]) (lv2 := [some (.ref (a0 0)), some (.ref (a1 0)), none, some (.int x3), none, some (.int x5)]) (st2 := []) (by rw [e12]) rfl rfl ?_
    refine zr_goto (off := 50) (tgt := 161) (by decide +kernel) (by decide) ?_
    obtain rfl := Option.some.inj hf
    exact zr_vret (b0 := fun _ => 0) (by decide +kernel) rfl rfl rfl rfl rfl
  · have hf := ziff hf hc
    obtain rfl := Option.some.inj hf
    exact zr_vret (b0 := fun _ => 0) (by decide +kernel) rfl rfl rfl rfl rfl
set_option maxRecDepth 100000 in
set_option maxHeartbeats 4000000 in
theorem c_X4_readAct (l : Launch) (G : zj_G) (a0 : Nat → Nat) (a1 : Nat → Nat) (a2 : Nat → Nat) (s0 : LgT) (s1 : RdT) (s2 : LdT) (x3 : Int32) (r : LgT × RdT) (hf : f_X4_readAct s0 s1 s2 x3 = some r) : zj_C l G M_X4_readAct yX4_readAct [w_Lg G a0 s0, w_Rd G a1 s1, w_Ld G a2 s2] [.ref (a0 0), .ref (a1 0), .ref (a2 0), .int x3] (none) (fun _ => [w_Lg G a0 r.1, w_Rd G a1 r.2, w_Ld G a2 s2]) := by
  have key : ∀ W0 : List va_W, zj_J l G M_X4_readAct W0 (zj_ret G M_X4_readAct W0 (none) (fun _ => [w_Lg G a0 r.1, w_Rd G a1 r.2, w_Ld G a2 s2])) 0 0 [w_Lg G a0 s0, w_Rd G a1 s1, w_Ld G a2 s2] [some (.ref (a0 0)), some (.ref (a1 0)), some (.ref (a2 0)), some (.int x3), none, none] 0 [] := by
    intro W0
    unfold f_X4_readAct at hf
    refine zr_run [(.aload_n 1, 0, 0, 0, .null), (.getfield 45, 1, 0, 8, .null), (.istore 4, 0, 0, 0, .null), (.iload 4, 0, 0, 0, .null), (.bipush 7, 0, 0, 0, .int (7 : Int32))] [] (WW' := [w_Lg G a0 s0, w_Rd G a1 s1, w_Ld G a2 s2]) (lv' := [some (.ref (a0 0)), some (.ref (a1 0)), some (.ref (a2 0)), some (.int x3), some (.int (Rd_key s1)), none]) (pc' := 10) (st' := [.int (7 : Int32), .int (Rd_key s1)]) (by decide +kernel) rfl rfl ⟨trivial, ⟨rfl, rfl, zw_1_104⟩, trivial, trivial, trivial, trivial⟩ ?_
    refine zr_icmp_lt (off := 10) (tgt := 20) (by decide +kernel) (by decide) (fun hc => ?_) (fun hc => ?_)
    · have hf := zift hf hc
      obtain ⟨q1, e1, hf⟩ := zbi_of hf
      refine zr_run [(.aload_n 1, 0, 0, 0, .null), (.iconst 1, 0, 0, 0, .int (1 : Int32))] [] (WW' := [w_Lg G a0 s0, w_Rd G a1 s1, w_Ld G a2 s2]) (lv' := [some (.ref (a0 0)), some (.ref (a1 0)), some (.ref (a2 0)), some (.int x3), some (.int (Rd_key s1)), none]) (pc' := 22) (st' := [.int (1 : Int32), .ref (a1 0)]) (by decide +kernel) rfl rfl ⟨trivial, trivial, trivial⟩ ?_
      refine zr_callV (c_X7_fail l G a1 s1 (1 : Int32) q1 e1) (WW' := fun _ => [w_Lg G a0 s0, w_Rd G a1 q1, w_Ld G a2 s2]) (st := []) (st' := []) [1] rfl rfl (fun _ => Nat.le_of_ble_eq_true rfl) (fun _ => rfl) rfl rfl nm_X7_fail zw_5_35 zw_3_9 zw_3_10 zw_1_2 zw_3_11 rfl rfl rfl (Nat.le_of_ble_eq_true rfl) ⟨Nat.le_of_ble_eq_true rfl, Nat.le_of_ble_eq_true rfl⟩ (by decide +kernel) (fun _ => ?_)
      obtain rfl := Option.some.inj hf
      exact zr_vret (b0 := fun _ => 0) (by decide +kernel) rfl rfl rfl rfl rfl
    · have hf := ziff hf hc
      refine zr_run [(.iload 4, 0, 0, 0, .null), (.bipush 11, 0, 0, 0, .int (11 : Int32))] [] (WW' := [w_Lg G a0 s0, w_Rd G a1 s1, w_Ld G a2 s2]) (lv' := [some (.ref (a0 0)), some (.ref (a1 0)), some (.ref (a2 0)), some (.int x3), some (.int (Rd_key s1)), none]) (pc' := 17) (st' := [.int (11 : Int32), .int (Rd_key s1)]) (by decide +kernel) rfl rfl ⟨trivial, trivial, trivial⟩ ?_
      refine zr_icmp_le (off := 9) (tgt := 26) (by decide +kernel) (by decide) (fun hc => ?_) (fun hc => ?_)
      · have hf := zift hf hc
        obtain ⟨q2, e2, hf⟩ := zbi_of hf
        refine zr_run [(.aload_n 1, 0, 0, 0, .null), (.iconst 1, 0, 0, 0, .int (1 : Int32))] [] (WW' := [w_Lg G a0 s0, w_Rd G a1 s1, w_Ld G a2 s2]) (lv' := [some (.ref (a0 0)), some (.ref (a1 0)), some (.ref (a2 0)), some (.int x3), some (.int (Rd_key s1)), none]) (pc' := 22) (st' := [.int (1 : Int32), .ref (a1 0)]) (by decide +kernel) rfl rfl ⟨trivial, trivial, trivial⟩ ?_
        refine zr_callV (c_X7_fail l G a1 s1 (1 : Int32) q2 e2) (WW' := fun _ => [w_Lg G a0 s0, w_Rd G a1 q2, w_Ld G a2 s2]) (st := []) (st' := []) [1] rfl rfl (fun _ => Nat.le_of_ble_eq_true rfl) (fun _ => rfl) rfl rfl nm_X7_fail zw_5_35 zw_3_9 zw_3_10 zw_1_2 zw_3_11 rfl rfl rfl (Nat.le_of_ble_eq_true rfl) ⟨Nat.le_of_ble_eq_true rfl, Nat.le_of_ble_eq_true rfl⟩ (by decide +kernel) (fun _ => ?_)
        obtain rfl := Option.some.inj hf
        exact zr_vret (b0 := fun _ => 0) (by decide +kernel) rfl rfl rfl rfl rfl
      · have hf := ziff hf hc
        obtain ⟨h3, hf⟩ := zck_of hf
        obtain ⟨y4, e4, hf⟩ := zlet_of hf
        refine zr_run [(.aload_n 0, 0, 0, 0, .null), (.getfield 19, 0, 0, 2, .null), (.iload_n 3, 0, 0, 0, .null), (.iconst 0, 0, 0, 0, .int (0 : Int32)), (.iadd, 0, 0, 0, .null), (.iload 4, 0, 0, 0, .null), (.iastore, 0, 2, 0, .null)] [] (WW' := [w_Lg G a0 (Lg_s_rows s0 ((upd (Lg_rows s0) (x3 + (0 : Int32)).toNatClampNeg (Rd_key s1)))), w_Rd G a1 s1, w_Ld G a2 s2]) (lv' := [some (.ref (a0 0)), some (.ref (a1 0)), some (.ref (a2 0)), some (.int x3), some (.int (Rd_key s1)), none]) (pc' := 36) (st' := []) (by decide +kernel) rfl rfl ⟨trivial, ⟨rfl, rfl, zw_2_38⟩, trivial, trivial, trivial, trivial, ⟨rfl, rfl, h3⟩, trivial⟩ ?_
        refine zr_eq (WW2 := [w_Lg G a0 y4, w_Rd G a1 s1, w_Ld G a2 s2]) (lv2 := [some (.ref (a0 0)), some (.ref (a1 0)), some (.ref (a2 0)), some (.int x3), some (.int (Rd_key s1)), none]) (st2 := []) (by rw [e4]) rfl rfl ?_
        obtain ⟨q5, e5, hf⟩ := zbi_of hf
        refine zr_run [(.aload_n 1, 0, 0, 0, .null)] [] (WW' := [w_Lg G a0 y4, w_Rd G a1 s1, w_Ld G a2 s2]) (lv' := [some (.ref (a0 0)), some (.ref (a1 0)), some (.ref (a2 0)), some (.int x3), some (.int (Rd_key s1)), none]) (pc' := 37) (st' := [.ref (a1 0)]) (by decide +kernel) rfl rfl ⟨trivial, trivial⟩ ?_
        refine zr_callV (c_X7_advance l G a1 s1 q5 e5) (WW' := fun _ => [w_Lg G a0 y4, w_Rd G a1 q5, w_Ld G a2 s2]) (st := []) (st' := []) [1] rfl rfl (fun _ => Nat.le_of_ble_eq_true rfl) (fun _ => rfl) rfl rfl nm_X7_advance zw_5_36 zw_2_237 zw_2_238 zw_1_2 zw_2_239 rfl rfl rfl (Nat.le_of_ble_eq_true rfl) ⟨Nat.le_of_ble_eq_true rfl, Nat.le_of_ble_eq_true rfl⟩ (by decide +kernel) (fun _ => ?_)
        refine zr_run [(.iload 4, 0, 0, 0, .null), (.bipush 7, 0, 0, 0, .int (7 : Int32))] [] (WW' := [w_Lg G a0 y4, w_Rd G a1 q5, w_Ld G a2 s2]) (lv' := [some (.ref (a0 0)), some (.ref (a1 0)), some (.ref (a2 0)), some (.int x3), some (.int (Rd_key s1)), none]) (pc' := 44) (st' := [.int (7 : Int32), .int (Rd_key s1)]) (by decide +kernel) rfl rfl ⟨trivial, trivial, trivial⟩ ?_
        refine zr_icmp_ne (off := 70) (tgt := 114) (by decide +kernel) (by decide) (fun hc => ?_) (fun hc => ?_)
        · have hf := zift hf hc
          obtain ⟨q6, e6, hf⟩ := zbi_of hf
          refine zr_run [(.aload_n 2, 0, 0, 0, .null), (.aload_n 1, 0, 0, 0, .null)] [] (WW' := [w_Lg G a0 y4, w_Rd G a1 q5, w_Ld G a2 s2]) (lv' := [some (.ref (a0 0)), some (.ref (a1 0)), some (.ref (a2 0)), some (.int x3), some (.int (Rd_key s1)), none]) (pc' := 49) (st' := [.ref (a1 0), .ref (a2 0)]) (by decide +kernel) rfl rfl ⟨trivial, trivial, trivial⟩ ?_
          refine zr_callV (c_X3_knownPlace l G a2 a1 s2 q5 q6 e6) (WW' := fun _ => [w_Lg G a0 y4, w_Rd G a1 q6.2, w_Ld G a2 s2]) (st := []) (st' := [.int q6.1]) [2, 1] rfl rfl (fun _ => Nat.le_of_ble_eq_true rfl) (fun _ => rfl) rfl rfl nm_X3_knownPlace zw_5_42 zw_3_43 zw_3_44 zw_1_7 zw_3_45 rfl rfl rfl (Nat.le_of_ble_eq_true rfl) ⟨Nat.le_of_ble_eq_true rfl, Nat.le_of_ble_eq_true rfl⟩ (by decide +kernel) (fun _ => ?_)
          refine zr_run [(.istore 5, 0, 0, 0, .null), (.iload 5, 0, 0, 0, .null), (.iconst (-1), 0, 0, 0, .int (-1 : Int32))] [] (WW' := [w_Lg G a0 y4, w_Rd G a1 q6.2, w_Ld G a2 s2]) (lv' := [some (.ref (a0 0)), some (.ref (a1 0)), some (.ref (a2 0)), some (.int x3), some (.int (Rd_key s1)), some (.int q6.1)]) (pc' := 57) (st' := [.int (-1 : Int32), .int q6.1]) (by decide +kernel) rfl rfl ⟨trivial, trivial, trivial, trivial⟩ ?_
          refine zr_icmp_eq (off := 17) (tgt := 74) (by decide +kernel) (by decide) (fun hc => ?_) (fun hc => ?_)
          · have hf := zift hf hc
            refine zr_run [] [2, 4] (WW' := [w_Lg G a0 y4, w_Rd G a1 q6.2, w_Ld G a2 s2]) (lv' := [some (.ref (a0 0)), some (.ref (a1 0)), none, some (.int x3), none, some (.int q6.1)]) (pc' := 74) (st' := []) (by decide +kernel) rfl rfl trivial ?_
            exact t_X4_readAct_b74 l G a0 a1 a2 W0 r y4 q6.2 s2 x3 q6.1 hf
          · have hf := ziff hf hc
            obtain ⟨q13, e13, hf⟩ := zbi_of hf
            refine zr_run [(.aload_n 2, 0, 0, 0, .null), (.iload 5, 0, 0, 0, .null)] [] (WW' := [w_Lg G a0 y4, w_Rd G a1 q6.2, w_Ld G a2 s2]) (lv' := [some (.ref (a0 0)), some (.ref (a1 0)), some (.ref (a2 0)), some (.int x3), some (.int (Rd_key s1)), some (.int q6.1)]) (pc' := 63) (st' := [.int q6.1, .ref (a2 0)]) (by decide +kernel) rfl rfl ⟨trivial, trivial, trivial⟩ ?_
            refine zr_callV (c_X3_isPort l G a2 s2 q6.1 q13 e13) (WW' := fun _ => [w_Lg G a0 y4, w_Rd G a1 q6.2, w_Ld G a2 s2]) (st := []) (st' := [.int q13]) [2] rfl rfl (fun _ => Nat.le_of_ble_eq_true rfl) (fun _ => rfl) rfl rfl nm_X3_isPort zw_5_43 zw_3_173 zw_3_174 zw_1_7 zw_3_175 rfl rfl rfl (Nat.le_of_ble_eq_true rfl) ⟨Nat.le_of_ble_eq_true rfl, Nat.le_of_ble_eq_true rfl⟩ (by decide +kernel) (fun _ => ?_)
            refine zr_if_ne (off := 8) (tgt := 74) (by decide +kernel) (by decide) (fun hc => ?_) (fun hc => ?_)
            · have hf := zift hf hc
              obtain ⟨q14, e14, hf⟩ := zbi_of hf
              refine zr_run [(.aload_n 1, 0, 0, 0, .null), (.iconst 3, 0, 0, 0, .int (3 : Int32))] [] (WW' := [w_Lg G a0 y4, w_Rd G a1 q6.2, w_Ld G a2 s2]) (lv' := [some (.ref (a0 0)), some (.ref (a1 0)), some (.ref (a2 0)), some (.int x3), some (.int (Rd_key s1)), some (.int q6.1)]) (pc' := 71) (st' := [.int (3 : Int32), .ref (a1 0)]) (by decide +kernel) rfl rfl ⟨trivial, trivial, trivial⟩ ?_
              refine zr_callV (c_X7_fail l G a1 q6.2 (3 : Int32) q14 e14) (WW' := fun _ => [w_Lg G a0 y4, w_Rd G a1 q14, w_Ld G a2 s2]) (st := []) (st' := []) [1] rfl rfl (fun _ => Nat.le_of_ble_eq_true rfl) (fun _ => rfl) rfl rfl nm_X7_fail zw_5_35 zw_3_9 zw_3_10 zw_1_2 zw_3_11 rfl rfl rfl (Nat.le_of_ble_eq_true rfl) ⟨Nat.le_of_ble_eq_true rfl, Nat.le_of_ble_eq_true rfl⟩ (by decide +kernel) (fun _ => ?_)
              refine zr_run [] [2, 4] (WW' := [w_Lg G a0 y4, w_Rd G a1 q14, w_Ld G a2 s2]) (lv' := [some (.ref (a0 0)), some (.ref (a1 0)), none, some (.int x3), none, some (.int q6.1)]) (pc' := 74) (st' := []) (by decide +kernel) rfl rfl trivial ?_
              exact t_X4_readAct_b74 l G a0 a1 a2 W0 r y4 q14 s2 x3 q6.1 hf
            · have hf := ziff hf hc
              refine zr_run [] [2, 4] (WW' := [w_Lg G a0 y4, w_Rd G a1 q6.2, w_Ld G a2 s2]) (lv' := [some (.ref (a0 0)), some (.ref (a1 0)), none, some (.int x3), none, some (.int q6.1)]) (pc' := 74) (st' := []) (by decide +kernel) rfl rfl trivial ?_
              exact t_X4_readAct_b74 l G a0 a1 a2 W0 r y4 q6.2 s2 x3 q6.1 hf
        · have hf := ziff hf hc
          refine zr_run [(.iload 4, 0, 0, 0, .null), (.bipush 8, 0, 0, 0, .int (8 : Int32))] [] (WW' := [w_Lg G a0 y4, w_Rd G a1 q5, w_Ld G a2 s2]) (lv' := [some (.ref (a0 0)), some (.ref (a1 0)), some (.ref (a2 0)), some (.int x3), some (.int (Rd_key s1)), none]) (pc' := 118) (st' := [.int (8 : Int32), .int (Rd_key s1)]) (by decide +kernel) rfl rfl ⟨trivial, trivial, trivial⟩ ?_
          refine zr_icmp_ne (off := 21) (tgt := 139) (by decide +kernel) (by decide) (fun hc => ?_) (fun hc => ?_)
          · have hf := zift hf hc
            obtain ⟨q15, e15, hf⟩ := zbi_of hf
            refine zr_run [(.aload_n 0, 0, 0, 0, .null), (.getfield 19, 0, 0, 2, .null), (.iload_n 3, 0, 0, 0, .null), (.iconst 3, 0, 0, 0, .int (3 : Int32)), (.iadd, 0, 0, 0, .null), (.aload_n 1, 0, 0, 0, .null), (.iconst 0, 0, 0, 0, .int (0 : Int32)), (.bipush 20, 0, 0, 0, .int (20 : Int32))] [] (WW' := [w_Lg G a0 y4, w_Rd G a1 q5, w_Ld G a2 s2]) (lv' := [some (.ref (a0 0)), some (.ref (a1 0)), some (.ref (a2 0)), some (.int x3), some (.int (Rd_key s1)), none]) (pc' := 132) (st' := [.int (20 : Int32), .int (0 : Int32), .ref (a1 0), .int (x3 + (3 : Int32)), .ref (a0 2)]) (by decide +kernel) rfl rfl ⟨trivial, ⟨rfl, rfl, zw_2_38⟩, trivial, trivial, trivial, trivial, trivial, trivial, trivial⟩ ?_
            refine zr_callV (c_X7_number l G a1 q5 (0 : Int32) (20 : Int32) q15 e15) (WW' := fun _ => [w_Lg G a0 y4, w_Rd G a1 q15.2, w_Ld G a2 s2]) (st := [.int (x3 + (3 : Int32)), .ref (a0 2)]) (st' := [.int q15.1, .int (x3 + (3 : Int32)), .ref (a0 2)]) [1] rfl rfl (fun _ => Nat.le_of_ble_eq_true rfl) (fun _ => rfl) rfl rfl nm_X7_number zw_5_37 zw_3_35 zw_3_36 zw_1_2 zw_3_37 rfl rfl rfl (Nat.le_of_ble_eq_true rfl) ⟨Nat.le_of_ble_eq_true rfl, Nat.le_of_ble_eq_true rfl⟩ (by decide +kernel) (fun _ => ?_)
            obtain ⟨h16, hf⟩ := zck_of hf
            obtain ⟨y17, e17, hf⟩ := zlet_of hf
            refine zr_run [(.iastore, 0, 2, 0, .null)] [] (WW' := [w_Lg G a0 (Lg_s_rows y4 ((upd (Lg_rows y4) (x3 + (3 : Int32)).toNatClampNeg q15.1))), w_Rd G a1 q15.2, w_Ld G a2 s2]) (lv' := [some (.ref (a0 0)), some (.ref (a1 0)), some (.ref (a2 0)), some (.int x3), some (.int (Rd_key s1)), none]) (pc' := 136) (st' := []) (by decide +kernel) rfl rfl ⟨⟨rfl, rfl, h16⟩, trivial⟩ ?_
            refine zr_eq (WW2 := [w_Lg G a0 y17, w_Rd G a1 q15.2, w_Ld G a2 s2]) (lv2 := [some (.ref (a0 0)), some (.ref (a1 0)), some (.ref (a2 0)), some (.int x3), some (.int (Rd_key s1)), none]) (st2 := []) (by rw [e17]) rfl rfl ?_
            refine zr_goto (off := 25) (tgt := 161) (by decide +kernel) (by decide) ?_
            obtain rfl := Option.some.inj hf
            exact zr_vret (b0 := fun _ => 0) (by decide +kernel) rfl rfl rfl rfl rfl
          · have hf := ziff hf hc
            refine zr_run [(.iload 4, 0, 0, 0, .null), (.bipush 11, 0, 0, 0, .int (11 : Int32))] [] (WW' := [w_Lg G a0 y4, w_Rd G a1 q5, w_Ld G a2 s2]) (lv' := [some (.ref (a0 0)), some (.ref (a1 0)), some (.ref (a2 0)), some (.int x3), some (.int (Rd_key s1)), none]) (pc' := 143) (st' := [.int (11 : Int32), .int (Rd_key s1)]) (by decide +kernel) rfl rfl ⟨trivial, trivial, trivial⟩ ?_
            refine zr_icmp_ne (off := 18) (tgt := 161) (by decide +kernel) (by decide) (fun hc => ?_) (fun hc => ?_)
            · have hf := zift hf hc
              obtain ⟨q18, e18, hf⟩ := zbi_of hf
              refine zr_run [(.aload_n 0, 0, 0, 0, .null), (.getfield 19, 0, 0, 2, .null), (.iload_n 3, 0, 0, 0, .null), (.iconst 3, 0, 0, 0, .int (3 : Int32)), (.iadd, 0, 0, 0, .null), (.aload_n 1, 0, 0, 0, .null), (.iconst 1, 0, 0, 0, .int (1 : Int32)), (.bipush 99, 0, 0, 0, .int (99 : Int32))] [] (WW' := [w_Lg G a0 y4, w_Rd G a1 q5, w_Ld G a2 s2]) (lv' := [some (.ref (a0 0)), some (.ref (a1 0)), some (.ref (a2 0)), some (.int x3), some (.int (Rd_key s1)), none]) (pc' := 157) (st' := [.int (99 : Int32), .int (1 : Int32), .ref (a1 0), .int (x3 + (3 : Int32)), .ref (a0 2)]) (by decide +kernel) rfl rfl ⟨trivial, ⟨rfl, rfl, zw_2_38⟩, trivial, trivial, trivial, trivial, trivial, trivial, trivial⟩ ?_
              refine zr_callV (c_X7_number l G a1 q5 (1 : Int32) (99 : Int32) q18 e18) (WW' := fun _ => [w_Lg G a0 y4, w_Rd G a1 q18.2, w_Ld G a2 s2]) (st := [.int (x3 + (3 : Int32)), .ref (a0 2)]) (st' := [.int q18.1, .int (x3 + (3 : Int32)), .ref (a0 2)]) [1] rfl rfl (fun _ => Nat.le_of_ble_eq_true rfl) (fun _ => rfl) rfl rfl nm_X7_number zw_5_37 zw_3_35 zw_3_36 zw_1_2 zw_3_37 rfl rfl rfl (Nat.le_of_ble_eq_true rfl) ⟨Nat.le_of_ble_eq_true rfl, Nat.le_of_ble_eq_true rfl⟩ (by decide +kernel) (fun _ => ?_)
              obtain ⟨h19, hf⟩ := zck_of hf
              obtain ⟨y20, e20, hf⟩ := zlet_of hf
              refine zr_run [(.iastore, 0, 2, 0, .null)] [] (WW' := [w_Lg G a0 (Lg_s_rows y4 ((upd (Lg_rows y4) (x3 + (3 : Int32)).toNatClampNeg q18.1))), w_Rd G a1 q18.2, w_Ld G a2 s2]) (lv' := [some (.ref (a0 0)), some (.ref (a1 0)), some (.ref (a2 0)), some (.int x3), some (.int (Rd_key s1)), none]) (pc' := 161) (st' := []) (by decide +kernel) rfl rfl ⟨⟨rfl, rfl, h19⟩, trivial⟩ ?_
              refine zr_eq (WW2 := [w_Lg G a0 y20, w_Rd G a1 q18.2, w_Ld G a2 s2]) (lv2 := [some (.ref (a0 0)), some (.ref (a1 0)), some (.ref (a2 0)), some (.int x3), some (.int (Rd_key s1)), none]) (st2 := []) (by rw [e20]) rfl rfl ?_
              obtain rfl := Option.some.inj hf
              exact zr_vret (b0 := fun _ => 0) (by decide +kernel) rfl rfl rfl rfl rfl
            · have hf := ziff hf hc
              obtain rfl := Option.some.inj hf
              exact zr_vret (b0 := fun _ => 0) (by decide +kernel) rfl rfl rfl rfl rfl
  exact zj_entry [some (.ref (a0 0)), some (.ref (a1 0)), some (.ref (a2 0)), some (.int x3), none, none] (by decide +kernel) rfl (by decide) (Nat.le_of_ble_eq_true rfl) rfl rfl (key _)
def M_X4_readLine : zj_M := (RX4, cX4_readLine, 6, none, { frames := 4, cells := 0, slots := 0, locals := 92 }, false)
theorem nm_X4_readLine : zj_nm yX4_readLine 2 := ⟨by decide +kernel, by decide +kernel, by decide +kernel⟩
def f_X4_readLine_b144  (s0 : LgT) (s1 : RdT) (s2 : LdT)   : Option (LgT × RdT) := (zlet (Lg_s_lines s0 ((Lg_lines s0) + (1 : Int32))) fun y12 => some (y12, s1))
def f_X4_readLine_b51  (s0 : LgT) (s1 : RdT) (s2 : LdT)  (x3 : Int32) (x4 : Int32) : Option (LgT × RdT) := (if (Rd_fault s1) = 0 then ((f_X7_advance s1).bind fun q2 => (if zb_in (((Lg_lines s0) * (4 : Int32)) + (0 : Int32)) 160 = true then (zlet (Lg_s_rows s0 ((upd (Lg_rows s0) (((Lg_lines s0) * (4 : Int32)) + (0 : Int32)).toNatClampNeg (12 : Int32)))) fun y4 => (if zb_in (((Lg_lines s0) * (4 : Int32)) + (1 : Int32)) 160 = true then (zlet (Lg_s_rows y4 ((upd (Lg_rows y4) (((Lg_lines s0) * (4 : Int32)) + (1 : Int32)).toNatClampNeg x4))) fun y6 => (if zb_in (((Lg_lines s0) * (4 : Int32)) + (2 : Int32)) 160 = true then (zlet (Lg_s_rows y6 ((upd (Lg_rows y6) (((Lg_lines s0) * (4 : Int32)) + (2 : Int32)).toNatClampNeg (-1 : Int32)))) fun y8 => (if zb_in (((Lg_lines s0) * (4 : Int32)) + (3 : Int32)) 160 = true then (zlet (Lg_s_rows y8 ((upd (Lg_rows y8) (((Lg_lines s0) * (4 : Int32)) + (3 : Int32)).toNatClampNeg (0 : Int32)))) fun y10 => (if x3 = 0 then ((f_X4_readAct y10 q2 s2 ((Lg_lines s0) * (4 : Int32))).bind fun q11 => f_X4_readLine_b144 q11.1 q11.2 s2) else ((f_X7_number q2 (1 : Int32) (30 : Int32)).bind fun q13 => (if zb_in (((Lg_lines s0) * (4 : Int32)) + (3 : Int32)) 160 = true then (zlet (Lg_s_rows y10 ((upd (Lg_rows y10) (((Lg_lines s0) * (4 : Int32)) + (3 : Int32)).toNatClampNeg q13.1))) fun y15 => f_X4_readLine_b144 y15 q13.2 s2) else none)))) else none)) else none)) else none)) else none)) else some (s0, s1))
def f_X4_readLine_b28  (s0 : LgT) (s1 : RdT) (s2 : LdT)  (x3 : Int32) (z0 : Int32) : Option (LgT × RdT) := (if (Rd_fault s1) = 0 then (if (Lg_lines s0) < (40 : Int32) then f_X4_readLine_b51 s0 s1 s2 x3 z0 else ((f_X7_fail s1 (4 : Int32)).bind fun q16 => f_X4_readLine_b51 s0 q16 s2 x3 z0)) else f_X4_readLine_b51 s0 s1 s2 x3 z0)
def f_X4_readLine_b14  (s0 : LgT) (s1 : RdT) (s2 : LdT)  (z0 : Int32) : Option (LgT × RdT) := (if z0 = 0 then ((f_X3_knownMan s2 s1).bind fun q1 => f_X4_readLine_b28 s0 q1.2 s2 z0 q1.1) else f_X4_readLine_b28 s0 s1 s2 z0 (-1 : Int32))
def f_X4_readLine  (s0 : LgT) (s1 : RdT) (s2 : LdT)  : Option (LgT × RdT) := (if (Rd_key s1) = (12 : Int32) then f_X4_readLine_b14 s0 s1 s2 (1 : Int32) else f_X4_readLine_b14 s0 s1 s2 (0 : Int32))
set_option maxRecDepth 100000 in
set_option maxHeartbeats 4000000 in
theorem t_X4_readLine_b144 (l : Launch) (G : zj_G) (a0 : Nat → Nat) (a1 : Nat → Nat) (a2 : Nat → Nat) (W0 : List va_W) (r : LgT × RdT) (s0 : LgT) (s1 : RdT) (s2 : LdT)    (hf : f_X4_readLine_b144 s0 s1 s2 = some r) : zj_J l G M_X4_readLine W0 (zj_ret G M_X4_readLine W0 (none) (fun _ => [w_Lg G a0 r.1, w_Rd G a1 r.2, w_Ld G a2 s2])) 0 0 [w_Lg G a0 s0, w_Rd G a1 s1, w_Ld G a2 s2] [some (.ref (a0 0)), none, none, none, none, none] 144 [] := by
  unfold f_X4_readLine_b144 at hf
  obtain ⟨y12, e12, hf⟩ := zlet_of hf
  refine zr_run [(.aload_n 0, 0, 0, 0, .null), (.dup, 0, 0, 0, .null), (.getfield 22, 0, 0, 3, .null), (.iconst 1, 0, 0, 0, .int (1 : Int32)), (.iadd, 0, 0, 0, .null), (.putfield 22, 0, 0, 3, .null)] [] (WW' := [w_Lg G a0 (Lg_s_lines s0 ((Lg_lines s0) + (1 : Int32))), w_Rd G a1 s1, w_Ld G a2 s2]) (lv' := [some (.ref (a0 0)), none, none, none, none, none]) (pc' := 154) (st' := []) (by decide +kernel) rfl rfl ⟨trivial, trivial, ⟨rfl, rfl, zw_2_39⟩, trivial, trivial, ⟨rfl, rfl, rfl, trivial, rfl, rfl, zw_2_39⟩, trivial⟩ ?_
  refine zr_eq (WW2 := [w_Lg G a0 y12, w_Rd G a1 s1, w_Ld G a2 s2]) (lv2 := [some (.ref (a0 0)), none, none, none, none, none]) (st2 := []) (by rw [e12]) rfl rfl ?_
  obtain rfl := Option.some.inj hf
  exact zr_vret (b0 := fun _ => 0) (by decide +kernel) rfl rfl rfl rfl rfl
set_option maxRecDepth 100000 in
set_option maxHeartbeats 4000000 in
theorem t_X4_readLine_b51 (l : Launch) (G : zj_G) (a0 : Nat → Nat) (a1 : Nat → Nat) (a2 : Nat → Nat) (W0 : List va_W) (r : LgT × RdT) (s0 : LgT) (s1 : RdT) (s2 : LdT)   (x3 : Int32) (x4 : Int32) (hf : f_X4_readLine_b51 s0 s1 s2 x3 x4 = some r) : zj_J l G M_X4_readLine W0 (zj_ret G M_X4_readLine W0 (none) (fun _ => [w_Lg G a0 r.1, w_Rd G a1 r.2, w_Ld G a2 s2])) 0 0 [w_Lg G a0 s0, w_Rd G a1 s1, w_Ld G a2 s2] [some (.ref (a0 0)), some (.ref (a1 0)), some (.ref (a2 0)), some (.int x3), some (.int x4), none] 51 [] := by
  unfold f_X4_readLine_b51 at hf
  refine zr_run [(.aload_n 1, 0, 0, 0, .null), (.getfield 42, 1, 0, 11, .null)] [] (WW' := [w_Lg G a0 s0, w_Rd G a1 s1, w_Ld G a2 s2]) (lv' := [some (.ref (a0 0)), some (.ref (a1 0)), some (.ref (a2 0)), some (.int x3), some (.int x4), none]) (pc' := 55) (st' := [.int (Rd_fault s1)]) (by decide +kernel) rfl rfl ⟨trivial, ⟨rfl, rfl, zw_1_111⟩, trivial⟩ ?_
  refine zr_if_eq (off := 4) (tgt := 59) (by decide +kernel) (by decide) (fun hc => ?_) (fun hc => ?_)
  · have hf := zift hf hc
    obtain ⟨q2, e2, hf⟩ := zbi_of hf
    refine zr_run [(.aload_n 1, 0, 0, 0, .null)] [] (WW' := [w_Lg G a0 s0, w_Rd G a1 s1, w_Ld G a2 s2]) (lv' := [some (.ref (a0 0)), some (.ref (a1 0)), some (.ref (a2 0)), some (.int x3), some (.int x4), none]) (pc' := 60) (st' := [.ref (a1 0)]) (by decide +kernel) rfl rfl ⟨trivial, trivial⟩ ?_
    refine zr_callV (c_X7_advance l G a1 s1 q2 e2) (WW' := fun _ => [w_Lg G a0 s0, w_Rd G a1 q2, w_Ld G a2 s2]) (st := []) (st' := []) [1] rfl rfl (fun _ => Nat.le_of_ble_eq_true rfl) (fun _ => rfl) rfl rfl nm_X7_advance zw_5_36 zw_2_237 zw_2_238 zw_1_2 zw_2_239 rfl rfl rfl (Nat.le_of_ble_eq_true rfl) ⟨Nat.le_of_ble_eq_true rfl, Nat.le_of_ble_eq_true rfl⟩ (by decide +kernel) (fun _ => ?_)
    obtain ⟨h3, hf⟩ := zck_of hf
    obtain ⟨y4, e4, hf⟩ := zlet_of hf
    refine zr_run [(.aload_n 0, 0, 0, 0, .null), (.getfield 22, 0, 0, 3, .null), (.iconst 4, 0, 0, 0, .int (4 : Int32)), (.imul, 0, 0, 0, .null), (.istore 5, 0, 0, 0, .null), (.aload_n 0, 0, 0, 0, .null), (.getfield 19, 0, 0, 2, .null), (.iload 5, 0, 0, 0, .null), (.iconst 0, 0, 0, 0, .int (0 : Int32)), (.iadd, 0, 0, 0, .null), (.bipush 12, 0, 0, 0, .int (12 : Int32)), (.iastore, 0, 2, 0, .null)] [] (WW' := [w_Lg G a0 (Lg_s_rows s0 ((upd (Lg_rows s0) (((Lg_lines s0) * (4 : Int32)) + (0 : Int32)).toNatClampNeg (12 : Int32)))), w_Rd G a1 q2, w_Ld G a2 s2]) (lv' := [some (.ref (a0 0)), some (.ref (a1 0)), some (.ref (a2 0)), some (.int x3), some (.int x4), some (.int ((Lg_lines s0) * (4 : Int32)))]) (pc' := 82) (st' := []) (by decide +kernel) rfl rfl ⟨trivial, ⟨rfl, rfl, zw_2_39⟩, trivial, trivial, trivial, trivial, ⟨rfl, rfl, zw_2_38⟩, trivial, trivial, trivial, trivial, ⟨rfl, rfl, h3⟩, trivial⟩ ?_
    refine zr_eq (WW2 := [w_Lg G a0 y4, w_Rd G a1 q2, w_Ld G a2 s2]) (lv2 := [some (.ref (a0 0)), some (.ref (a1 0)), some (.ref (a2 0)), some (.int x3), some (.int x4), some (.int ((Lg_lines s0) * (4 : Int32)))]) (st2 := []) (by rw [e4]) rfl rfl ?_
    obtain ⟨h5, hf⟩ := zck_of hf
    obtain ⟨y6, e6, hf⟩ := zlet_of hf
    refine zr_run [(.aload_n 0, 0, 0, 0, .null), (.getfield 19, 0, 0, 2, .null), (.iload 5, 0, 0, 0, .null), (.iconst 1, 0, 0, 0, .int (1 : Int32)), (.iadd, 0, 0, 0, .null), (.iload 4, 0, 0, 0, .null), (.iastore, 0, 2, 0, .null)] [] (WW' := [w_Lg G a0 (Lg_s_rows y4 ((upd (Lg_rows y4) (((Lg_lines s0) * (4 : Int32)) + (1 : Int32)).toNatClampNeg x4))), w_Rd G a1 q2, w_Ld G a2 s2]) (lv' := [some (.ref (a0 0)), some (.ref (a1 0)), some (.ref (a2 0)), some (.int x3), some (.int x4), some (.int ((Lg_lines s0) * (4 : Int32)))]) (pc' := 93) (st' := []) (by decide +kernel) rfl rfl ⟨trivial, ⟨rfl, rfl, zw_2_38⟩, trivial, trivial, trivial, trivial, ⟨rfl, rfl, h5⟩, trivial⟩ ?_
    refine zr_eq (WW2 := [w_Lg G a0 y6, w_Rd G a1 q2, w_Ld G a2 s2]) (lv2 := [some (.ref (a0 0)), some (.ref (a1 0)), some (.ref (a2 0)), some (.int x3), some (.int x4), some (.int ((Lg_lines s0) * (4 : Int32)))]) (st2 := []) (by rw [e6]) rfl rfl ?_
    obtain ⟨h7, hf⟩ := zck_of hf
    obtain ⟨y8, e8, hf⟩ := zlet_of hf
    refine zr_run [(.aload_n 0, 0, 0, 0, .null), (.getfield 19, 0, 0, 2, .null), (.iload 5, 0, 0, 0, .null), (.iconst 2, 0, 0, 0, .int (2 : Int32)), (.iadd, 0, 0, 0, .null), (.iconst (-1), 0, 0, 0, .int (-1 : Int32)), (.iastore, 0, 2, 0, .null)] [] (WW' := [w_Lg G a0 (Lg_s_rows y6 ((upd (Lg_rows y6) (((Lg_lines s0) * (4 : Int32)) + (2 : Int32)).toNatClampNeg (-1 : Int32)))), w_Rd G a1 q2, w_Ld G a2 s2]) (lv' := [some (.ref (a0 0)), some (.ref (a1 0)), some (.ref (a2 0)), some (.int x3), some (.int x4), some (.int ((Lg_lines s0) * (4 : Int32)))]) (pc' := 103) (st' := []) (by decide +kernel) rfl rfl ⟨trivial, ⟨rfl, rfl, zw_2_38⟩, trivial, trivial, trivial, trivial, ⟨rfl, rfl, h7⟩, trivial⟩ ?_
    refine zr_eq (WW2 := [w_Lg G a0 y8, w_Rd G a1 q2, w_Ld G a2 s2]) (lv2 := [some (.ref (a0 0)), some (.ref (a1 0)), some (.ref (a2 0)), some (.int x3), some (.int x4), some (.int ((Lg_lines s0) * (4 : Int32)))]) (st2 := []) (by rw [e8]) rfl rfl ?_
    obtain ⟨h9, hf⟩ := zck_of hf
    obtain ⟨y10, e10, hf⟩ := zlet_of hf
    refine zr_run [(.aload_n 0, 0, 0, 0, .null), (.getfield 19, 0, 0, 2, .null), (.iload 5, 0, 0, 0, .null), (.iconst 3, 0, 0, 0, .int (3 : Int32)), (.iadd, 0, 0, 0, .null), (.iconst 0, 0, 0, 0, .int (0 : Int32)), (.iastore, 0, 2, 0, .null)] [] (WW' := [w_Lg G a0 (Lg_s_rows y8 ((upd (Lg_rows y8) (((Lg_lines s0) * (4 : Int32)) + (3 : Int32)).toNatClampNeg (0 : Int32)))), w_Rd G a1 q2, w_Ld G a2 s2]) (lv' := [some (.ref (a0 0)), some (.ref (a1 0)), some (.ref (a2 0)), some (.int x3), some (.int x4), some (.int ((Lg_lines s0) * (4 : Int32)))]) (pc' := 113) (st' := []) (by decide +kernel) rfl rfl ⟨trivial, ⟨rfl, rfl, zw_2_38⟩, trivial, trivial, trivial, trivial, ⟨rfl, rfl, h9⟩, trivial⟩ ?_
    refine zr_eq (WW2 := [w_Lg G a0 y10, w_Rd G a1 q2, w_Ld G a2 s2]) (lv2 := [some (.ref (a0 0)), some (.ref (a1 0)), some (.ref (a2 0)), some (.int x3), some (.int x4), some (.int ((Lg_lines s0) * (4 : Int32)))]) (st2 := []) (by rw [e10]) rfl rfl ?_
    refine zr_run [(.iload_n 3, 0, 0, 0, .null)] [] (WW' := [w_Lg G a0 y10, w_Rd G a1 q2, w_Ld G a2 s2]) (lv' := [some (.ref (a0 0)), some (.ref (a1 0)), some (.ref (a2 0)), some (.int x3), some (.int x4), some (.int ((Lg_lines s0) * (4 : Int32)))]) (pc' := 114) (st' := [.int x3]) (by decide +kernel) rfl rfl ⟨trivial, trivial⟩ ?_
    refine zr_if_eq (off := 22) (tgt := 136) (by decide +kernel) (by decide) (fun hc => ?_) (fun hc => ?_)
    · have hf := zift hf hc
      obtain ⟨q11, e11, hf⟩ := zbi_of hf
      refine zr_run [(.aload_n 0, 0, 0, 0, .null), (.aload_n 1, 0, 0, 0, .null), (.aload_n 2, 0, 0, 0, .null), (.iload 5, 0, 0, 0, .null)] [] (WW' := [w_Lg G a0 y10, w_Rd G a1 q2, w_Ld G a2 s2]) (lv' := [some (.ref (a0 0)), some (.ref (a1 0)), some (.ref (a2 0)), some (.int x3), some (.int x4), some (.int ((Lg_lines s0) * (4 : Int32)))]) (pc' := 141) (st' := [.int ((Lg_lines s0) * (4 : Int32)), .ref (a2 0), .ref (a1 0), .ref (a0 0)]) (by decide +kernel) rfl rfl ⟨trivial, trivial, trivial, trivial, trivial⟩ ?_
      refine zr_callV (c_X4_readAct l G a0 a1 a2 y10 q2 s2 ((Lg_lines s0) * (4 : Int32)) q11 e11) (WW' := fun _ => [w_Lg G a0 q11.1, w_Rd G a1 q11.2, w_Ld G a2 s2]) (st := []) (st' := []) [0, 1, 2] rfl rfl (fun _ => Nat.le_of_ble_eq_true rfl) (fun _ => rfl) rfl rfl nm_X4_readAct zw_5_38 zw_5_40 zw_0_34 zw_1_11 zw_5_41 rfl rfl rfl (Nat.le_of_ble_eq_true rfl) ⟨Nat.le_of_ble_eq_true rfl, Nat.le_of_ble_eq_true rfl⟩ (by decide +kernel) (fun _ => ?_)
      refine zr_run [] [1, 2, 3, 4, 5] (WW' := [w_Lg G a0 q11.1, w_Rd G a1 q11.2, w_Ld G a2 s2]) (lv' := [some (.ref (a0 0)), none, none, none, none, none]) (pc' := 144) (st' := []) (by decide +kernel) rfl rfl trivial ?_
      exact t_X4_readLine_b144 l G a0 a1 a2 W0 r q11.1 q11.2 s2 hf
    · have hf := ziff hf hc
      obtain ⟨q13, e13, hf⟩ := zbi_of hf
      refine zr_run [(.aload_n 0, 0, 0, 0, .null), (.getfield 19, 0, 0, 2, .null), (.iload 5, 0, 0, 0, .null), (.iconst 3, 0, 0, 0, .int (3 : Int32)), (.iadd, 0, 0, 0, .null), (.aload_n 1, 0, 0, 0, .null), (.iconst 1, 0, 0, 0, .int (1 : Int32)), (.bipush 30, 0, 0, 0, .int (30 : Int32))] [] (WW' := [w_Lg G a0 y10, w_Rd G a1 q2, w_Ld G a2 s2]) (lv' := [some (.ref (a0 0)), some (.ref (a1 0)), some (.ref (a2 0)), some (.int x3), some (.int x4), some (.int ((Lg_lines s0) * (4 : Int32)))]) (pc' := 129) (st' := [.int (30 : Int32), .int (1 : Int32), .ref (a1 0), .int (((Lg_lines s0) * (4 : Int32)) + (3 : Int32)), .ref (a0 2)]) (by decide +kernel) rfl rfl ⟨trivial, ⟨rfl, rfl, zw_2_38⟩, trivial, trivial, trivial, trivial, trivial, trivial, trivial⟩ ?_
      refine zr_callV (c_X7_number l G a1 q2 (1 : Int32) (30 : Int32) q13 e13) (WW' := fun _ => [w_Lg G a0 y10, w_Rd G a1 q13.2, w_Ld G a2 s2]) (st := [.int (((Lg_lines s0) * (4 : Int32)) + (3 : Int32)), .ref (a0 2)]) (st' := [.int q13.1, .int (((Lg_lines s0) * (4 : Int32)) + (3 : Int32)), .ref (a0 2)]) [1] rfl rfl (fun _ => Nat.le_of_ble_eq_true rfl) (fun _ => rfl) rfl rfl nm_X7_number zw_5_37 zw_3_35 zw_3_36 zw_1_2 zw_3_37 rfl rfl rfl (Nat.le_of_ble_eq_true rfl) ⟨Nat.le_of_ble_eq_true rfl, Nat.le_of_ble_eq_true rfl⟩ (by decide +kernel) (fun _ => ?_)
      obtain ⟨h14, hf⟩ := zck_of hf
      obtain ⟨y15, e15, hf⟩ := zlet_of hf
      refine zr_run [(.iastore, 0, 2, 0, .null)] [] (WW' := [w_Lg G a0 (Lg_s_rows y10 ((upd (Lg_rows y10) (((Lg_lines s0) * (4 : Int32)) + (3 : Int32)).toNatClampNeg q13.1))), w_Rd G a1 q13.2, w_Ld G a2 s2]) (lv' := [some (.ref (a0 0)), some (.ref (a1 0)), some (.ref (a2 0)), some (.int x3), some (.int x4), some (.int ((Lg_lines s0) * (4 : Int32)))]) (pc' := 133) (st' := []) (by decide +kernel) rfl rfl ⟨⟨rfl, rfl, h14⟩, trivial⟩ ?_
      refine zr_eq (WW2 := [w_Lg G a0 y15, w_Rd G a1 q13.2, w_Ld G a2 s2]) (lv2 := [some (.ref (a0 0)), some (.ref (a1 0)), some (.ref (a2 0)), some (.int x3), some (.int x4), some (.int ((Lg_lines s0) * (4 : Int32)))]) (st2 := []) (by rw [e15]) rfl rfl ?_
      refine zr_goto (off := 11) (tgt := 144) (by decide +kernel) (by decide) ?_
      refine zr_run [] [1, 2, 3, 4, 5] (WW' := [w_Lg G a0 y15, w_Rd G a1 q13.2, w_Ld G a2 s2]) (lv' := [some (.ref (a0 0)), none, none, none, none, none]) (pc' := 144) (st' := []) (by decide +kernel) rfl rfl trivial ?_
      exact t_X4_readLine_b144 l G a0 a1 a2 W0 r y15 q13.2 s2 hf
  · have hf := ziff hf hc
    obtain rfl := Option.some.inj hf
    exact zr_vret (b0 := fun _ => 0) (by decide +kernel) rfl rfl rfl rfl rfl
set_option maxRecDepth 100000 in
set_option maxHeartbeats 4000000 in
theorem t_X4_readLine_b28 (l : Launch) (G : zj_G) (a0 : Nat → Nat) (a1 : Nat → Nat) (a2 : Nat → Nat) (W0 : List va_W) (r : LgT × RdT) (s0 : LgT) (s1 : RdT) (s2 : LdT)   (x3 : Int32) (z0 : Int32) (hf : f_X4_readLine_b28 s0 s1 s2 x3 z0 = some r) : zj_J l G M_X4_readLine W0 (zj_ret G M_X4_readLine W0 (none) (fun _ => [w_Lg G a0 r.1, w_Rd G a1 r.2, w_Ld G a2 s2])) 0 0 [w_Lg G a0 s0, w_Rd G a1 s1, w_Ld G a2 s2] [some (.ref (a0 0)), some (.ref (a1 0)), some (.ref (a2 0)), some (.int x3), none, none] 28 [.int z0] := by
  unfold f_X4_readLine_b28 at hf
  refine zr_run [(.istore 4, 0, 0, 0, .null), (.aload_n 1, 0, 0, 0, .null), (.getfield 42, 1, 0, 11, .null)] [] (WW' := [w_Lg G a0 s0, w_Rd G a1 s1, w_Ld G a2 s2]) (lv' := [some (.ref (a0 0)), some (.ref (a1 0)), some (.ref (a2 0)), some (.int x3), some (.int z0), none]) (pc' := 34) (st' := [.int (Rd_fault s1)]) (by decide +kernel) rfl rfl ⟨trivial, trivial, ⟨rfl, rfl, zw_1_111⟩, trivial⟩ ?_
  refine zr_if_ne (off := 17) (tgt := 51) (by decide +kernel) (by decide) (fun hc => ?_) (fun hc => ?_)
  · have hf := zift hf hc
    refine zr_run [(.aload_n 0, 0, 0, 0, .null), (.getfield 22, 0, 0, 3, .null), (.bipush 40, 0, 0, 0, .int (40 : Int32))] [] (WW' := [w_Lg G a0 s0, w_Rd G a1 s1, w_Ld G a2 s2]) (lv' := [some (.ref (a0 0)), some (.ref (a1 0)), some (.ref (a2 0)), some (.int x3), some (.int z0), none]) (pc' := 43) (st' := [.int (40 : Int32), .int (Lg_lines s0)]) (by decide +kernel) rfl rfl ⟨trivial, ⟨rfl, rfl, zw_2_39⟩, trivial, trivial⟩ ?_
    refine zr_icmp_lt (off := 8) (tgt := 51) (by decide +kernel) (by decide) (fun hc => ?_) (fun hc => ?_)
    · have hf := zift hf hc
      exact t_X4_readLine_b51 l G a0 a1 a2 W0 r s0 s1 s2 x3 z0 hf
    · have hf := ziff hf hc
      obtain ⟨q16, e16, hf⟩ := zbi_of hf
      refine zr_run [(.aload_n 1, 0, 0, 0, .null), (.iconst 4, 0, 0, 0, .int (4 : Int32))] [] (WW' := [w_Lg G a0 s0, w_Rd G a1 s1, w_Ld G a2 s2]) (lv' := [some (.ref (a0 0)), some (.ref (a1 0)), some (.ref (a2 0)), some (.int x3), some (.int z0), none]) (pc' := 48) (st' := [.int (4 : Int32), .ref (a1 0)]) (by decide +kernel) rfl rfl ⟨trivial, trivial, trivial⟩ ?_
      refine zr_callV (c_X7_fail l G a1 s1 (4 : Int32) q16 e16) (WW' := fun _ => [w_Lg G a0 s0, w_Rd G a1 q16, w_Ld G a2 s2]) (st := []) (st' := []) [1] rfl rfl (fun _ => Nat.le_of_ble_eq_true rfl) (fun _ => rfl) rfl rfl nm_X7_fail zw_5_35 zw_3_9 zw_3_10 zw_1_2 zw_3_11 rfl rfl rfl (Nat.le_of_ble_eq_true rfl) ⟨Nat.le_of_ble_eq_true rfl, Nat.le_of_ble_eq_true rfl⟩ (by decide +kernel) (fun _ => ?_)
      exact t_X4_readLine_b51 l G a0 a1 a2 W0 r s0 q16 s2 x3 z0 hf
  · have hf := ziff hf hc
    exact t_X4_readLine_b51 l G a0 a1 a2 W0 r s0 s1 s2 x3 z0 hf
set_option maxRecDepth 100000 in
set_option maxHeartbeats 4000000 in
theorem t_X4_readLine_b14 (l : Launch) (G : zj_G) (a0 : Nat → Nat) (a1 : Nat → Nat) (a2 : Nat → Nat) (W0 : List va_W) (r : LgT × RdT) (s0 : LgT) (s1 : RdT) (s2 : LdT)   (z0 : Int32) (hf : f_X4_readLine_b14 s0 s1 s2 z0 = some r) : zj_J l G M_X4_readLine W0 (zj_ret G M_X4_readLine W0 (none) (fun _ => [w_Lg G a0 r.1, w_Rd G a1 r.2, w_Ld G a2 s2])) 0 0 [w_Lg G a0 s0, w_Rd G a1 s1, w_Ld G a2 s2] [some (.ref (a0 0)), some (.ref (a1 0)), some (.ref (a2 0)), none, none, none] 14 [.int z0] := by
  unfold f_X4_readLine_b14 at hf
  refine zr_run [(.istore_n 3, 0, 0, 0, .null), (.iload_n 3, 0, 0, 0, .null)] [] (WW' := [w_Lg G a0 s0, w_Rd G a1 s1, w_Ld G a2 s2]) (lv' := [some (.ref (a0 0)), some (.ref (a1 0)), some (.ref (a2 0)), some (.int z0), none, none]) (pc' := 16) (st' := [.int z0]) (by decide +kernel) rfl rfl ⟨trivial, trivial, trivial⟩ ?_
  refine zr_if_eq (off := 7) (tgt := 23) (by decide +kernel) (by decide) (fun hc => ?_) (fun hc => ?_)
  · have hf := zift hf hc
    obtain ⟨q1, e1, hf⟩ := zbi_of hf
    refine zr_run [(.aload_n 2, 0, 0, 0, .null), (.aload_n 1, 0, 0, 0, .null)] [] (WW' := [w_Lg G a0 s0, w_Rd G a1 s1, w_Ld G a2 s2]) (lv' := [some (.ref (a0 0)), some (.ref (a1 0)), some (.ref (a2 0)), some (.int z0), none, none]) (pc' := 25) (st' := [.ref (a1 0), .ref (a2 0)]) (by decide +kernel) rfl rfl ⟨trivial, trivial, trivial⟩ ?_
    refine zr_callV (c_X3_knownMan l G a2 a1 s2 s1 q1 e1) (WW' := fun _ => [w_Lg G a0 s0, w_Rd G a1 q1.2, w_Ld G a2 s2]) (st := []) (st' := [.int q1.1]) [2, 1] rfl rfl (fun _ => Nat.le_of_ble_eq_true rfl) (fun _ => rfl) rfl rfl nm_X3_knownMan zw_5_34 zw_3_63 zw_3_64 zw_1_7 zw_3_65 rfl rfl rfl (Nat.le_of_ble_eq_true rfl) ⟨Nat.le_of_ble_eq_true rfl, Nat.le_of_ble_eq_true rfl⟩ (by decide +kernel) (fun _ => ?_)
    exact t_X4_readLine_b28 l G a0 a1 a2 W0 r s0 q1.2 s2 z0 q1.1 hf
  · have hf := ziff hf hc
    refine zr_run [(.iconst (-1), 0, 0, 0, .int (-1 : Int32))] [] (WW' := [w_Lg G a0 s0, w_Rd G a1 s1, w_Ld G a2 s2]) (lv' := [some (.ref (a0 0)), some (.ref (a1 0)), some (.ref (a2 0)), some (.int z0), none, none]) (pc' := 20) (st' := [.int (-1 : Int32)]) (by decide +kernel) rfl rfl ⟨trivial, trivial⟩ ?_
    refine zr_goto (off := 8) (tgt := 28) (by decide +kernel) (by decide) ?_
    exact t_X4_readLine_b28 l G a0 a1 a2 W0 r s0 s1 s2 z0 (-1 : Int32) hf
set_option maxRecDepth 100000 in
set_option maxHeartbeats 4000000 in
theorem c_X4_readLine (l : Launch) (G : zj_G) (a0 : Nat → Nat) (a1 : Nat → Nat) (a2 : Nat → Nat) (s0 : LgT) (s1 : RdT) (s2 : LdT)  (r : LgT × RdT) (hf : f_X4_readLine s0 s1 s2 = some r) : zj_C l G M_X4_readLine yX4_readLine [w_Lg G a0 s0, w_Rd G a1 s1, w_Ld G a2 s2] [.ref (a0 0), .ref (a1 0), .ref (a2 0)] (none) (fun _ => [w_Lg G a0 r.1, w_Rd G a1 r.2, w_Ld G a2 s2]) := by
  have key : ∀ W0 : List va_W, zj_J l G M_X4_readLine W0 (zj_ret G M_X4_readLine W0 (none) (fun _ => [w_Lg G a0 r.1, w_Rd G a1 r.2, w_Ld G a2 s2])) 0 0 [w_Lg G a0 s0, w_Rd G a1 s1, w_Ld G a2 s2] [some (.ref (a0 0)), some (.ref (a1 0)), some (.ref (a2 0)), none, none, none] 0 [] := by
    intro W0
    unfold f_X4_readLine at hf
    refine zr_run [(.aload_n 1, 0, 0, 0, .null), (.getfield 45, 1, 0, 8, .null), (.bipush 12, 0, 0, 0, .int (12 : Int32))] [] (WW' := [w_Lg G a0 s0, w_Rd G a1 s1, w_Ld G a2 s2]) (lv' := [some (.ref (a0 0)), some (.ref (a1 0)), some (.ref (a2 0)), none, none, none]) (pc' := 6) (st' := [.int (12 : Int32), .int (Rd_key s1)]) (by decide +kernel) rfl rfl ⟨trivial, ⟨rfl, rfl, zw_1_104⟩, trivial, trivial⟩ ?_
    refine zr_icmp_ne (off := 7) (tgt := 13) (by decide +kernel) (by decide) (fun hc => ?_) (fun hc => ?_)
    · have hf := zift hf hc
      refine zr_run [(.iconst 1, 0, 0, 0, .int (1 : Int32))] [] (WW' := [w_Lg G a0 s0, w_Rd G a1 s1, w_Ld G a2 s2]) (lv' := [some (.ref (a0 0)), some (.ref (a1 0)), some (.ref (a2 0)), none, none, none]) (pc' := 10) (st' := [.int (1 : Int32)]) (by decide +kernel) rfl rfl ⟨trivial, trivial⟩ ?_
      refine zr_goto (off := 4) (tgt := 14) (by decide +kernel) (by decide) ?_
      exact t_X4_readLine_b14 l G a0 a1 a2 W0 r s0 s1 s2 (1 : Int32) hf
    · have hf := ziff hf hc
      refine zr_run [(.iconst 0, 0, 0, 0, .int (0 : Int32))] [] (WW' := [w_Lg G a0 s0, w_Rd G a1 s1, w_Ld G a2 s2]) (lv' := [some (.ref (a0 0)), some (.ref (a1 0)), some (.ref (a2 0)), none, none, none]) (pc' := 14) (st' := [.int (0 : Int32)]) (by decide +kernel) rfl rfl ⟨trivial, trivial⟩ ?_
      exact t_X4_readLine_b14 l G a0 a1 a2 W0 r s0 s1 s2 (0 : Int32) hf
  exact zj_entry [some (.ref (a0 0)), some (.ref (a1 0)), some (.ref (a2 0)), none, none, none] (by decide +kernel) rfl (by decide) (Nat.le_of_ble_eq_true rfl) rfl rfl (key _)
def M_X4_read : zj_M := (RX4, cX4_read, 4, (some .boolean), { frames := 5, cells := 0, slots := 0, locals := 117 }, false)
theorem nm_X4_read : zj_nm yX4_read 2 := ⟨by decide +kernel, by decide +kernel, by decide +kernel⟩
def f_X4_read_b46  (s0 : LgT) (s1 : RdT) (s2 : LdT)   : Option (Int32 × LgT × RdT) := (if (Rd_fault s1) = 0 then some ((1 : Int32), s0, s1) else some ((0 : Int32), s0, s1))
def f_X4_read_H14  (s0 : LgT) (s1 : RdT) (s2 : LdT) (k14 : LgT → RdT → Int32 → Option (Int32 × LgT × RdT)) (x3 : Int32) : Option (Int32 × LgT × RdT) := (if x3 < (400 : Int32) then ((f_X7_more s1).bind fun q3 => (if q3.1 = 0 then f_X4_read_b46 s0 q3.2 s2 else ((f_X4_readLine s0 q3.2 s2).bind fun q4 => ((f_X7_expect q4.2 (59 : Int32)).bind fun q5 => k14 q4.1 q5 (x3 + (1 : Int32)))))) else f_X4_read_b46 s0 s1 s2)
def f_X4_read_L14  (s2 : LdT)  : Nat → LgT → RdT → Int32 → Option (Int32 × LgT × RdT)
  | 0 => fun _ _ _ => none
  | n + 1 => fun s0 s1 x3 => f_X4_read_H14 s0 s1 s2 (f_X4_read_L14 s2 n) x3
def f_X4_read  (s0 : LgT) (s1 : RdT) (s2 : LdT)  : Option (Int32 × LgT × RdT) := (zlet (Lg_s_lines s0 (0 : Int32)) fun y1 => ((f_X7_begin s1 (400 : Int32)).bind fun q2 => f_X4_read_L14 s2 zFU y1 q2 (0 : Int32)))
set_option maxRecDepth 100000 in
set_option maxHeartbeats 4000000 in
theorem t_X4_read_b46 (l : Launch) (G : zj_G) (a0 : Nat → Nat) (a1 : Nat → Nat) (a2 : Nat → Nat) (W0 : List va_W) (r : Int32 × LgT × RdT) (s0 : LgT) (s1 : RdT) (s2 : LdT)    (hf : f_X4_read_b46 s0 s1 s2 = some r) : zj_J l G M_X4_read W0 (zj_ret G M_X4_read W0 (some (.int r.1)) (fun _ => [w_Lg G a0 r.2.1, w_Rd G a1 r.2.2, w_Ld G a2 s2])) 0 0 [w_Lg G a0 s0, w_Rd G a1 s1, w_Ld G a2 s2] [none, some (.ref (a1 0)), none, none] 46 [] := by
  unfold f_X4_read_b46 at hf
  refine zr_run [(.aload_n 1, 0, 0, 0, .null), (.getfield 42, 1, 0, 11, .null)] [] (WW' := [w_Lg G a0 s0, w_Rd G a1 s1, w_Ld G a2 s2]) (lv' := [none, some (.ref (a1 0)), none, none]) (pc' := 50) (st' := [.int (Rd_fault s1)]) (by decide +kernel) rfl rfl ⟨trivial, ⟨rfl, rfl, zw_1_111⟩, trivial⟩ ?_
  refine zr_if_ne (off := 7) (tgt := 57) (by decide +kernel) (by decide) (fun hc => ?_) (fun hc => ?_)
  · have hf := zift hf hc
    refine zr_run [(.iconst 1, 0, 0, 0, .int (1 : Int32))] [] (WW' := [w_Lg G a0 s0, w_Rd G a1 s1, w_Ld G a2 s2]) (lv' := [none, some (.ref (a1 0)), none, none]) (pc' := 54) (st' := [.int (1 : Int32)]) (by decide +kernel) rfl rfl ⟨trivial, trivial⟩ ?_
    refine zr_goto (off := 4) (tgt := 58) (by decide +kernel) (by decide) ?_
    obtain rfl := Option.some.inj hf
    exact zr_zret (by decide) (b0 := fun _ => 0) (by decide +kernel) rfl rfl rfl rfl rfl
  · have hf := ziff hf hc
    refine zr_run [(.iconst 0, 0, 0, 0, .int (0 : Int32))] [] (WW' := [w_Lg G a0 s0, w_Rd G a1 s1, w_Ld G a2 s2]) (lv' := [none, some (.ref (a1 0)), none, none]) (pc' := 58) (st' := [.int (0 : Int32)]) (by decide +kernel) rfl rfl ⟨trivial, trivial⟩ ?_
    obtain rfl := Option.some.inj hf
    exact zr_zret (by decide) (b0 := fun _ => 0) (by decide +kernel) rfl rfl rfl rfl rfl
set_option maxRecDepth 100000 in
set_option maxHeartbeats 4000000 in
theorem t_X4_read_H14 (l : Launch) (G : zj_G) (a0 : Nat → Nat) (a1 : Nat → Nat) (a2 : Nat → Nat) (W0 : List va_W) (r : Int32 × LgT × RdT) (s0 : LgT) (s1 : RdT) (s2 : LdT) (k14 : LgT → RdT → Int32 → Option (Int32 × LgT × RdT)) (hk14 : ∀ (s0 : LgT) (s1 : RdT) (x3 : Int32), k14 s0 s1 x3 = some r → zj_J l G M_X4_read W0 (zj_ret G M_X4_read W0 (some (.int r.1)) (fun _ => [w_Lg G a0 r.2.1, w_Rd G a1 r.2.2, w_Ld G a2 s2])) 0 0 [w_Lg G a0 s0, w_Rd G a1 s1, w_Ld G a2 s2] [some (.ref (a0 0)), some (.ref (a1 0)), some (.ref (a2 0)), some (.int x3)] 14 []) (x3 : Int32) (hf : f_X4_read_H14 s0 s1 s2 k14 x3 = some r) : zj_J l G M_X4_read W0 (zj_ret G M_X4_read W0 (some (.int r.1)) (fun _ => [w_Lg G a0 r.2.1, w_Rd G a1 r.2.2, w_Ld G a2 s2])) 0 0 [w_Lg G a0 s0, w_Rd G a1 s1, w_Ld G a2 s2] [some (.ref (a0 0)), some (.ref (a1 0)), some (.ref (a2 0)), some (.int x3)] 14 [] := by
  unfold f_X4_read_H14 at hf
  refine zr_run [(.iload_n 3, 0, 0, 0, .null), (.sipush 400, 0, 0, 0, .int (400 : Int32))] [] (WW' := [w_Lg G a0 s0, w_Rd G a1 s1, w_Ld G a2 s2]) (lv' := [some (.ref (a0 0)), some (.ref (a1 0)), some (.ref (a2 0)), some (.int x3)]) (pc' := 18) (st' := [.int (400 : Int32), .int x3]) (by decide +kernel) rfl rfl ⟨trivial, trivial, trivial⟩ ?_
  refine zr_icmp_ge (off := 28) (tgt := 46) (by decide +kernel) (by decide) (fun hc => ?_) (fun hc => ?_)
  · have hf := zift hf hc
    obtain ⟨q3, e3, hf⟩ := zbi_of hf
    refine zr_run [(.aload_n 1, 0, 0, 0, .null)] [] (WW' := [w_Lg G a0 s0, w_Rd G a1 s1, w_Ld G a2 s2]) (lv' := [some (.ref (a0 0)), some (.ref (a1 0)), some (.ref (a2 0)), some (.int x3)]) (pc' := 22) (st' := [.ref (a1 0)]) (by decide +kernel) rfl rfl ⟨trivial, trivial⟩ ?_
    refine zr_callV (c_X7_more l G a1 s1 q3 e3) (WW' := fun _ => [w_Lg G a0 s0, w_Rd G a1 q3.2, w_Ld G a2 s2]) (st := []) (st' := [.int q3.1]) [1] rfl rfl (fun _ => Nat.le_of_ble_eq_true rfl) (fun _ => rfl) rfl rfl nm_X7_more zw_5_29 zw_3_5 zw_3_6 zw_1_2 zw_3_7 rfl rfl rfl (Nat.le_of_ble_eq_true rfl) ⟨Nat.le_of_ble_eq_true rfl, Nat.le_of_ble_eq_true rfl⟩ (by decide +kernel) (fun _ => ?_)
    refine zr_if_eq (off := 21) (tgt := 46) (by decide +kernel) (by decide) (fun hc => ?_) (fun hc => ?_)
    · have hf := zift hf hc
      refine zr_run [] [0, 2, 3] (WW' := [w_Lg G a0 s0, w_Rd G a1 q3.2, w_Ld G a2 s2]) (lv' := [none, some (.ref (a1 0)), none, none]) (pc' := 46) (st' := []) (by decide +kernel) rfl rfl trivial ?_
      exact t_X4_read_b46 l G a0 a1 a2 W0 r s0 q3.2 s2 hf
    · have hf := ziff hf hc
      obtain ⟨q4, e4, hf⟩ := zbi_of hf
      refine zr_run [(.aload_n 0, 0, 0, 0, .null), (.aload_n 1, 0, 0, 0, .null), (.aload_n 2, 0, 0, 0, .null)] [] (WW' := [w_Lg G a0 s0, w_Rd G a1 q3.2, w_Ld G a2 s2]) (lv' := [some (.ref (a0 0)), some (.ref (a1 0)), some (.ref (a2 0)), some (.int x3)]) (pc' := 31) (st' := [.ref (a2 0), .ref (a1 0), .ref (a0 0)]) (by decide +kernel) rfl rfl ⟨trivial, trivial, trivial, trivial⟩ ?_
      refine zr_callV (c_X4_readLine l G a0 a1 a2 s0 q3.2 s2 q4 e4) (WW' := fun _ => [w_Lg G a0 q4.1, w_Rd G a1 q4.2, w_Ld G a2 s2]) (st := []) (st' := []) [0, 1, 2] rfl rfl (fun _ => Nat.le_of_ble_eq_true rfl) (fun _ => rfl) rfl rfl nm_X4_readLine zw_5_30 zw_5_32 zw_0_33 zw_1_11 zw_5_33 rfl rfl rfl (Nat.le_of_ble_eq_true rfl) ⟨Nat.le_of_ble_eq_true rfl, Nat.le_of_ble_eq_true rfl⟩ (by decide +kernel) (fun _ => ?_)
      obtain ⟨q5, e5, hf⟩ := zbi_of hf
      refine zr_run [(.aload_n 1, 0, 0, 0, .null), (.bipush 59, 0, 0, 0, .int (59 : Int32))] [] (WW' := [w_Lg G a0 q4.1, w_Rd G a1 q4.2, w_Ld G a2 s2]) (lv' := [some (.ref (a0 0)), some (.ref (a1 0)), some (.ref (a2 0)), some (.int x3)]) (pc' := 37) (st' := [.int (59 : Int32), .ref (a1 0)]) (by decide +kernel) rfl rfl ⟨trivial, trivial, trivial⟩ ?_
      refine zr_callV (c_X7_expect l G a1 q4.2 (59 : Int32) q5 e5) (WW' := fun _ => [w_Lg G a0 q4.1, w_Rd G a1 q5, w_Ld G a2 s2]) (st := []) (st' := []) [1] rfl rfl (fun _ => Nat.le_of_ble_eq_true rfl) (fun _ => rfl) rfl rfl nm_X7_expect zw_5_44 zw_3_71 zw_3_72 zw_1_2 zw_3_73 rfl rfl rfl (Nat.le_of_ble_eq_true rfl) ⟨Nat.le_of_ble_eq_true rfl, Nat.le_of_ble_eq_true rfl⟩ (by decide +kernel) (fun _ => ?_)
      refine zr_run [(.iinc 3 1, 0, 0, 0, .int (1 : Int32))] [] (WW' := [w_Lg G a0 q4.1, w_Rd G a1 q5, w_Ld G a2 s2]) (lv' := [some (.ref (a0 0)), some (.ref (a1 0)), some (.ref (a2 0)), some (.int (x3 + (1 : Int32)))]) (pc' := 43) (st' := []) (by decide +kernel) rfl rfl ⟨trivial, trivial⟩ ?_
      refine zr_goto (off := -29) (tgt := 14) (by decide +kernel) (by decide) ?_
      exact hk14 q4.1 q5 (x3 + (1 : Int32)) hf
  · have hf := ziff hf hc
    refine zr_run [] [0, 2, 3] (WW' := [w_Lg G a0 s0, w_Rd G a1 s1, w_Ld G a2 s2]) (lv' := [none, some (.ref (a1 0)), none, none]) (pc' := 46) (st' := []) (by decide +kernel) rfl rfl trivial ?_
    exact t_X4_read_b46 l G a0 a1 a2 W0 r s0 s1 s2 hf
theorem t_X4_read_L14 (l : Launch) (G : zj_G) (a0 : Nat → Nat) (a1 : Nat → Nat) (a2 : Nat → Nat) (W0 : List va_W) (r : Int32 × LgT × RdT) (s2 : LdT)   : ∀ (n : Nat) (s0 : LgT) (s1 : RdT) (x3 : Int32), f_X4_read_L14 s2 n s0 s1 x3 = some r → zj_J l G M_X4_read W0 (zj_ret G M_X4_read W0 (some (.int r.1)) (fun _ => [w_Lg G a0 r.2.1, w_Rd G a1 r.2.2, w_Ld G a2 s2])) 0 0 [w_Lg G a0 s0, w_Rd G a1 s1, w_Ld G a2 s2] [some (.ref (a0 0)), some (.ref (a1 0)), some (.ref (a2 0)), some (.int x3)] 14 [] := by
  intro n
  induction n with
  | zero => intro s0 s1 x3 hf; exact nomatch (show none = some r from hf)
  | succ n ih => intro s0 s1 x3 hf; exact t_X4_read_H14 l G a0 a1 a2 W0 r s0 s1 s2  (f_X4_read_L14 s2 n)  ih x3  hf
set_option maxRecDepth 100000 in
set_option maxHeartbeats 4000000 in
theorem c_X4_read (l : Launch) (G : zj_G) (a0 : Nat → Nat) (a1 : Nat → Nat) (a2 : Nat → Nat) (s0 : LgT) (s1 : RdT) (s2 : LdT)  (r : Int32 × LgT × RdT) (hf : f_X4_read s0 s1 s2 = some r) : zj_C l G M_X4_read yX4_read [w_Lg G a0 s0, w_Rd G a1 s1, w_Ld G a2 s2] [.ref (a0 0), .ref (a1 0), .ref (a2 0)] (some (.int r.1)) (fun _ => [w_Lg G a0 r.2.1, w_Rd G a1 r.2.2, w_Ld G a2 s2]) := by
  have key : ∀ W0 : List va_W, zj_J l G M_X4_read W0 (zj_ret G M_X4_read W0 (some (.int r.1)) (fun _ => [w_Lg G a0 r.2.1, w_Rd G a1 r.2.2, w_Ld G a2 s2])) 0 0 [w_Lg G a0 s0, w_Rd G a1 s1, w_Ld G a2 s2] [some (.ref (a0 0)), some (.ref (a1 0)), some (.ref (a2 0)), none] 0 [] := by
    intro W0
    unfold f_X4_read at hf
    obtain ⟨y1, e1, hf⟩ := zlet_of hf
    refine zr_run [(.aload_n 0, 0, 0, 0, .null), (.iconst 0, 0, 0, 0, .int (0 : Int32)), (.putfield 22, 0, 0, 3, .null)] [] (WW' := [w_Lg G a0 (Lg_s_lines s0 (0 : Int32)), w_Rd G a1 s1, w_Ld G a2 s2]) (lv' := [some (.ref (a0 0)), some (.ref (a1 0)), some (.ref (a2 0)), none]) (pc' := 5) (st' := []) (by decide +kernel) rfl rfl ⟨trivial, trivial, ⟨rfl, rfl, rfl, trivial, rfl, rfl, zw_2_39⟩, trivial⟩ ?_
    refine zr_eq (WW2 := [w_Lg G a0 y1, w_Rd G a1 s1, w_Ld G a2 s2]) (lv2 := [some (.ref (a0 0)), some (.ref (a1 0)), some (.ref (a2 0)), none]) (st2 := []) (by rw [e1]) rfl rfl ?_
    obtain ⟨q2, e2, hf⟩ := zbi_of hf
    refine zr_run [(.aload_n 1, 0, 0, 0, .null), (.sipush 400, 0, 0, 0, .int (400 : Int32))] [] (WW' := [w_Lg G a0 y1, w_Rd G a1 s1, w_Ld G a2 s2]) (lv' := [some (.ref (a0 0)), some (.ref (a1 0)), some (.ref (a2 0)), none]) (pc' := 9) (st' := [.int (400 : Int32), .ref (a1 0)]) (by decide +kernel) rfl rfl ⟨trivial, trivial, trivial⟩ ?_
    refine zr_callV (c_X7_begin l G a1 s1 (400 : Int32) q2 e2) (WW' := fun _ => [w_Lg G a0 y1, w_Rd G a1 q2, w_Ld G a2 s2]) (st := []) (st' := []) [1] rfl rfl (fun _ => Nat.le_of_ble_eq_true rfl) (fun _ => rfl) rfl rfl nm_X7_begin zw_5_28 zw_2_233 zw_2_234 zw_1_2 zw_2_235 rfl rfl rfl (Nat.le_of_ble_eq_true rfl) ⟨Nat.le_of_ble_eq_true rfl, Nat.le_of_ble_eq_true rfl⟩ (by decide +kernel) (fun _ => ?_)
    refine zr_run [(.iconst 0, 0, 0, 0, .int (0 : Int32)), (.istore_n 3, 0, 0, 0, .null)] [] (WW' := [w_Lg G a0 y1, w_Rd G a1 q2, w_Ld G a2 s2]) (lv' := [some (.ref (a0 0)), some (.ref (a1 0)), some (.ref (a2 0)), some (.int (0 : Int32))]) (pc' := 14) (st' := []) (by decide +kernel) rfl rfl ⟨trivial, trivial, trivial⟩ ?_
    exact t_X4_read_L14 l G a0 a1 a2 W0 r s2 zFU y1 q2 (0 : Int32) hf
  exact zj_entry [some (.ref (a0 0)), some (.ref (a1 0)), some (.ref (a2 0)), none] (by decide +kernel) rfl (by decide) (Nat.le_of_ble_eq_true rfl) rfl rfl (key _)
def M_X4_above : zj_M := (RX4, cX4_above, 2, (some .int), { frames := 0, cells := 0, slots := 0, locals := 0 }, false)
theorem nm_X4_above : zj_nm yX4_above 2 := ⟨by decide +kernel, by decide +kernel, by decide +kernel⟩
def f_X4_above   (x0 : Int32) (x1 : Int32) : Option (Int32) := (if x1 = 0 then some (0 : Int32) else some (x0 + x1))
set_option maxRecDepth 100000 in
set_option maxHeartbeats 4000000 in
theorem c_X4_above (l : Launch) (G : zj_G)   (x0 : Int32) (x1 : Int32) (r : Int32) (hf : f_X4_above x0 x1 = some r) : zj_C l G M_X4_above yX4_above [] [.int x0, .int x1] (some (.int r)) (fun _ => []) := by
  have key : ∀ W0 : List va_W, zj_J l G M_X4_above W0 (zj_ret G M_X4_above W0 (some (.int r)) (fun _ => [])) 0 0 [] [some (.int x0), some (.int x1)] 0 [] := by
    intro W0
    unfold f_X4_above at hf
    refine zr_run [(.iload_n 1, 0, 0, 0, .null)] [] (WW' := []) (lv' := [some (.int x0), some (.int x1)]) (pc' := 1) (st' := [.int x1]) (by decide +kernel) rfl rfl ⟨trivial, trivial⟩ ?_
    refine zr_if_ne (off := 7) (tgt := 8) (by decide +kernel) (by decide) (fun hc => ?_) (fun hc => ?_)
    · have hf := zift hf hc
      refine zr_run [(.iconst 0, 0, 0, 0, .int (0 : Int32))] [] (WW' := []) (lv' := [some (.int x0), some (.int x1)]) (pc' := 5) (st' := [.int (0 : Int32)]) (by decide +kernel) rfl rfl ⟨trivial, trivial⟩ ?_
      refine zr_goto (off := 6) (tgt := 11) (by decide +kernel) (by decide) ?_
      obtain rfl := Option.some.inj hf
      exact zr_iret (b0 := fun _ => 0) (by decide +kernel) rfl rfl rfl rfl rfl
    · have hf := ziff hf hc
      refine zr_run [(.iload_n 0, 0, 0, 0, .null), (.iload_n 1, 0, 0, 0, .null), (.iadd, 0, 0, 0, .null)] [] (WW' := []) (lv' := [some (.int x0), some (.int x1)]) (pc' := 11) (st' := [.int (x0 + x1)]) (by decide +kernel) rfl rfl ⟨trivial, trivial, trivial, trivial⟩ ?_
      obtain rfl := Option.some.inj hf
      exact zr_iret (b0 := fun _ => 0) (by decide +kernel) rfl rfl rfl rfl rfl
  exact zj_entry [some (.int x0), some (.int x1)] (by decide +kernel) rfl (by decide) (Nat.le_of_ble_eq_true rfl) rfl rfl (key _)
def M_X4_liveLine : zj_M := (RX4, cX4_liveLine, 6, (some .int), { frames := 5, cells := 0, slots := 0, locals := 123 }, false)
theorem nm_X4_liveLine : zj_nm yX4_liveLine 3 := ⟨by decide +kernel, by decide +kernel, by decide +kernel⟩
def f_X4_liveLine  (s0 : LgT) (s1 : LdT) (s2 : FkT) (x3 : Int32) : Option (Int32 × FkT) := (if zb_in (x3 + (1 : Int32)) 160 = true then (if zb_in (x3 + (3 : Int32)) 160 = true then (if zb_in (x3 + (0 : Int32)) 160 = true then (if ((Lg_rows s0) (x3 + (0 : Int32)).toNatClampNeg) = (7 : Int32) then (if zb_in (x3 + (2 : Int32)) 160 = true then ((f_X1_swears s2 s1 ((Lg_rows s0) (x3 + (1 : Int32)).toNatClampNeg) ((Lg_rows s0) (x3 + (2 : Int32)).toNatClampNeg) ((Lg_rows s0) (x3 + (3 : Int32)).toNatClampNeg)).bind fun q5 => some (q5.1, q5.2)) else none) else (if ((Lg_rows s0) (x3 + (0 : Int32)).toNatClampNeg) = (8 : Int32) then ((f_X1_orders s2 s1 ((Lg_rows s0) (x3 + (1 : Int32)).toNatClampNeg) ((Lg_rows s0) (x3 + (3 : Int32)).toNatClampNeg)).bind fun q6 => ((f_X4_above (10 : Int32) q6.1).bind fun q7 => some (q7, q6.2))) else (if ((Lg_rows s0) (x3 + (0 : Int32)).toNatClampNeg) = (9 : Int32) then ((f_X1_slips s2 ((Lg_rows s0) (x3 + (1 : Int32)).toNatClampNeg)).bind fun q8 => ((f_X4_above (20 : Int32) q8.1).bind fun q9 => some (q9, q8.2))) else (if ((Lg_rows s0) (x3 + (0 : Int32)).toNatClampNeg) = (10 : Int32) then ((f_X1_enters s2 s1 ((Lg_rows s0) (x3 + (1 : Int32)).toNatClampNeg)).bind fun q10 => ((f_X4_above (30 : Int32) q10.1).bind fun q11 => some (q11, q10.2))) else (if ((Lg_rows s0) (x3 + (0 : Int32)).toNatClampNeg) = (11 : Int32) then ((f_X1_gets s2 ((Lg_rows s0) (x3 + (1 : Int32)).toNatClampNeg) ((Lg_rows s0) (x3 + (3 : Int32)).toNatClampNeg)).bind fun q12 => ((f_X4_above (40 : Int32) q12.1).bind fun q13 => some (q13, q12.2))) else ((f_X1_daysToCome s2).bind fun q14 => (if q14 < ((Lg_rows s0) (x3 + (3 : Int32)).toNatClampNeg) then some ((51 : Int32), s2) else ((f_X1_goDays s2 s1 ((Lg_rows s0) (x3 + (3 : Int32)).toNatClampNeg) ((Lg_rows s0) (x3 + (3 : Int32)).toNatClampNeg)).bind fun q15 => some ((0 : Int32), q15.2))))))))) else none) else none) else none)
set_option maxRecDepth 100000 in
set_option maxHeartbeats 4000000 in
theorem c_X4_liveLine (l : Launch) (G : zj_G) (a0 : Nat → Nat) (a1 : Nat → Nat) (a2 : Nat → Nat) (s0 : LgT) (s1 : LdT) (s2 : FkT) (x3 : Int32) (r : Int32 × FkT) (hf : f_X4_liveLine s0 s1 s2 x3 = some r) : zj_C l G M_X4_liveLine yX4_liveLine [w_Lg G a0 s0, w_Ld G a1 s1, w_Fk G a2 s2] [.ref (a0 0), .ref (a1 0), .ref (a2 0), .int x3] (some (.int r.1)) (fun _ => [w_Lg G a0 s0, w_Ld G a1 s1, w_Fk G a2 r.2]) := by
  have key : ∀ W0 : List va_W, zj_J l G M_X4_liveLine W0 (zj_ret G M_X4_liveLine W0 (some (.int r.1)) (fun _ => [w_Lg G a0 s0, w_Ld G a1 s1, w_Fk G a2 r.2])) 0 0 [w_Lg G a0 s0, w_Ld G a1 s1, w_Fk G a2 s2] [some (.ref (a0 0)), some (.ref (a1 0)), some (.ref (a2 0)), some (.int x3), none, none] 0 [] := by
    intro W0
    unfold f_X4_liveLine at hf
    obtain ⟨h1, hf⟩ := zck_of hf
    obtain ⟨h2, hf⟩ := zck_of hf
    obtain ⟨h3, hf⟩ := zck_of hf
    refine zr_run [(.aload_n 0, 0, 0, 0, .null), (.getfield 19, 0, 0, 2, .null), (.iload_n 3, 0, 0, 0, .null), (.iconst 1, 0, 0, 0, .int (1 : Int32)), (.iadd, 0, 0, 0, .null), (.iaload, 0, 2, 0, .null), (.istore 4, 0, 0, 0, .null), (.aload_n 0, 0, 0, 0, .null), (.getfield 19, 0, 0, 2, .null), (.iload_n 3, 0, 0, 0, .null), (.iconst 3, 0, 0, 0, .int (3 : Int32)), (.iadd, 0, 0, 0, .null), (.iaload, 0, 2, 0, .null), (.istore 5, 0, 0, 0, .null), (.aload_n 0, 0, 0, 0, .null), (.getfield 19, 0, 0, 2, .null), (.iload_n 3, 0, 0, 0, .null), (.iconst 0, 0, 0, 0, .int (0 : Int32)), (.iadd, 0, 0, 0, .null), (.iaload, 0, 2, 0, .null)] [] (WW' := [w_Lg G a0 s0, w_Ld G a1 s1, w_Fk G a2 s2]) (lv' := [some (.ref (a0 0)), some (.ref (a1 0)), some (.ref (a2 0)), some (.int x3), some (.int ((Lg_rows s0) (x3 + (1 : Int32)).toNatClampNeg)), some (.int ((Lg_rows s0) (x3 + (3 : Int32)).toNatClampNeg))]) (pc' := 28) (st' := [.int ((Lg_rows s0) (x3 + (0 : Int32)).toNatClampNeg)]) (by decide +kernel) rfl rfl ⟨trivial, ⟨rfl, rfl, zw_2_38⟩, trivial, trivial, trivial, ⟨rfl, rfl, h1⟩, trivial, trivial, ⟨rfl, rfl, zw_2_38⟩, trivial, trivial, trivial, ⟨rfl, rfl, h2⟩, trivial, trivial, ⟨rfl, rfl, zw_2_38⟩, trivial, trivial, trivial, ⟨rfl, rfl, h3⟩, trivial⟩ ?_
    by_cases hc0 : ((Lg_rows s0) (x3 + (0 : Int32)).toNatClampNeg) = (7 : Int32)
    · have hf := zift hf hc0
      refine zr_tabIn (v := (7 : Int32)) (tgt := 64) (dflt := 108) (lo := 7) (hi := 11) (offs := #[36, 54, 69, 81, 94]) (len := 36) (off := 36) hc0 (by decide +kernel) (by decide) (by decide) (by decide) ?_
      obtain ⟨h4, hf⟩ := zck_of hf
      obtain ⟨q5, e5, hf⟩ := zbi_of hf
      refine zr_run [(.aload_n 2, 0, 0, 0, .null), (.aload_n 1, 0, 0, 0, .null), (.iload 4, 0, 0, 0, .null), (.aload_n 0, 0, 0, 0, .null), (.getfield 19, 0, 0, 2, .null), (.iload_n 3, 0, 0, 0, .null), (.iconst 2, 0, 0, 0, .int (2 : Int32)), (.iadd, 0, 0, 0, .null), (.iaload, 0, 2, 0, .null), (.iload 5, 0, 0, 0, .null)] [] (WW' := [w_Lg G a0 s0, w_Ld G a1 s1, w_Fk G a2 s2]) (lv' := [some (.ref (a0 0)), some (.ref (a1 0)), some (.ref (a2 0)), some (.int x3), some (.int ((Lg_rows s0) (x3 + (1 : Int32)).toNatClampNeg)), some (.int ((Lg_rows s0) (x3 + (3 : Int32)).toNatClampNeg))]) (pc' := 78) (st' := [.int ((Lg_rows s0) (x3 + (3 : Int32)).toNatClampNeg), .int ((Lg_rows s0) (x3 + (2 : Int32)).toNatClampNeg), .int ((Lg_rows s0) (x3 + (1 : Int32)).toNatClampNeg), .ref (a1 0), .ref (a2 0)]) (by decide +kernel) rfl rfl ⟨trivial, trivial, trivial, trivial, ⟨rfl, rfl, zw_2_38⟩, trivial, trivial, trivial, ⟨rfl, rfl, h4⟩, trivial, trivial⟩ ?_
      refine zr_callV (c_X1_swears l G a2 a1 s2 s1 ((Lg_rows s0) (x3 + (1 : Int32)).toNatClampNeg) ((Lg_rows s0) (x3 + (2 : Int32)).toNatClampNeg) ((Lg_rows s0) (x3 + (3 : Int32)).toNatClampNeg) q5 e5) (WW' := fun _ => [w_Lg G a0 s0, w_Ld G a1 s1, w_Fk G a2 q5.2]) (st := []) (st' := [.int q5.1]) [2, 1] rfl rfl (fun _ => Nat.le_of_ble_eq_true rfl) (fun _ => rfl) rfl rfl nm_X1_swears zw_5_53 zw_3_185 zw_3_186 zw_1_8 zw_3_187 rfl rfl rfl (Nat.le_of_ble_eq_true rfl) ⟨Nat.le_of_ble_eq_true rfl, Nat.le_of_ble_eq_true rfl⟩ (by decide +kernel) (fun _ => ?_)
      obtain rfl := Option.some.inj hf
      exact zr_iret (b0 := fun _ => 0) (by decide +kernel) rfl rfl rfl rfl rfl
    · have hf := ziff hf hc0
      by_cases hc1 : ((Lg_rows s0) (x3 + (0 : Int32)).toNatClampNeg) = (8 : Int32)
      · have hf := zift hf hc1
        refine zr_tabIn (v := (8 : Int32)) (tgt := 82) (dflt := 108) (lo := 7) (hi := 11) (offs := #[36, 54, 69, 81, 94]) (len := 36) (off := 54) hc1 (by decide +kernel) (by decide) (by decide) (by decide) ?_
        obtain ⟨q6, e6, hf⟩ := zbi_of hf
        refine zr_run [(.bipush 10, 0, 0, 0, .int (10 : Int32)), (.aload_n 2, 0, 0, 0, .null), (.aload_n 1, 0, 0, 0, .null), (.iload 4, 0, 0, 0, .null), (.iload 5, 0, 0, 0, .null)] [] (WW' := [w_Lg G a0 s0, w_Ld G a1 s1, w_Fk G a2 s2]) (lv' := [some (.ref (a0 0)), some (.ref (a1 0)), some (.ref (a2 0)), some (.int x3), some (.int ((Lg_rows s0) (x3 + (1 : Int32)).toNatClampNeg)), some (.int ((Lg_rows s0) (x3 + (3 : Int32)).toNatClampNeg))]) (pc' := 90) (st' := [.int ((Lg_rows s0) (x3 + (3 : Int32)).toNatClampNeg), .int ((Lg_rows s0) (x3 + (1 : Int32)).toNatClampNeg), .ref (a1 0), .ref (a2 0), .int (10 : Int32)]) (by decide +kernel) rfl rfl ⟨trivial, trivial, trivial, trivial, trivial, trivial⟩ ?_
        refine zr_callV (c_X1_orders l G a2 a1 s2 s1 ((Lg_rows s0) (x3 + (1 : Int32)).toNatClampNeg) ((Lg_rows s0) (x3 + (3 : Int32)).toNatClampNeg) q6 e6) (WW' := fun _ => [w_Lg G a0 s0, w_Ld G a1 s1, w_Fk G a2 q6.2]) (st := [.int (10 : Int32)]) (st' := [.int q6.1, .int (10 : Int32)]) [2, 1] rfl rfl (fun _ => Nat.le_of_ble_eq_true rfl) (fun _ => rfl) rfl rfl nm_X1_orders zw_5_54 zw_3_207 zw_3_208 zw_1_8 zw_3_209 rfl rfl rfl (Nat.le_of_ble_eq_true rfl) ⟨Nat.le_of_ble_eq_true rfl, Nat.le_of_ble_eq_true rfl⟩ (by decide +kernel) (fun _ => ?_)
        obtain ⟨q7, e7, hf⟩ := zbi_of hf
        refine zr_callS (c_X4_above l G (10 : Int32) q6.1 q7 e7) (WW' := fun _ => [w_Lg G a0 s0, w_Ld G a1 s1, w_Fk G a2 q6.2]) (st := []) (st' := [.int q7]) [] rfl rfl (fun _ => Nat.le_of_ble_eq_true rfl) (fun _ => rfl) rfl rfl nm_X4_above zw_5_55 zw_5_56 zw_1_11 zw_5_57 rfl (Nat.le_of_ble_eq_true rfl) ⟨Nat.le_of_ble_eq_true rfl, Nat.le_of_ble_eq_true rfl⟩ (by decide +kernel) (fun _ => ?_)
        obtain rfl := Option.some.inj hf
        exact zr_iret (b0 := fun _ => 0) (by decide +kernel) rfl rfl rfl rfl rfl
      · have hf := ziff hf hc1
        by_cases hc2 : ((Lg_rows s0) (x3 + (0 : Int32)).toNatClampNeg) = (9 : Int32)
        · have hf := zift hf hc2
          refine zr_tabIn (v := (9 : Int32)) (tgt := 97) (dflt := 108) (lo := 7) (hi := 11) (offs := #[36, 54, 69, 81, 94]) (len := 36) (off := 69) hc2 (by decide +kernel) (by decide) (by decide) (by decide) ?_
          obtain ⟨q8, e8, hf⟩ := zbi_of hf
          refine zr_run [(.bipush 20, 0, 0, 0, .int (20 : Int32)), (.aload_n 2, 0, 0, 0, .null), (.iload 4, 0, 0, 0, .null)] [] (WW' := [w_Lg G a0 s0, w_Ld G a1 s1, w_Fk G a2 s2]) (lv' := [some (.ref (a0 0)), some (.ref (a1 0)), some (.ref (a2 0)), some (.int x3), some (.int ((Lg_rows s0) (x3 + (1 : Int32)).toNatClampNeg)), some (.int ((Lg_rows s0) (x3 + (3 : Int32)).toNatClampNeg))]) (pc' := 102) (st' := [.int ((Lg_rows s0) (x3 + (1 : Int32)).toNatClampNeg), .ref (a2 0), .int (20 : Int32)]) (by decide +kernel) rfl rfl ⟨trivial, trivial, trivial, trivial⟩ ?_
          refine zr_callV (c_X1_slips l G a2 s2 ((Lg_rows s0) (x3 + (1 : Int32)).toNatClampNeg) q8 e8) (WW' := fun _ => [w_Lg G a0 s0, w_Ld G a1 s1, w_Fk G a2 q8.2]) (st := [.int (20 : Int32)]) (st' := [.int q8.1, .int (20 : Int32)]) [2] rfl rfl (fun _ => Nat.le_of_ble_eq_true rfl) (fun _ => rfl) rfl rfl nm_X1_slips zw_5_58 zw_3_215 zw_3_216 zw_1_8 zw_3_217 rfl rfl rfl (Nat.le_of_ble_eq_true rfl) ⟨Nat.le_of_ble_eq_true rfl, Nat.le_of_ble_eq_true rfl⟩ (by decide +kernel) (fun _ => ?_)
          obtain ⟨q9, e9, hf⟩ := zbi_of hf
          refine zr_callS (c_X4_above l G (20 : Int32) q8.1 q9 e9) (WW' := fun _ => [w_Lg G a0 s0, w_Ld G a1 s1, w_Fk G a2 q8.2]) (st := []) (st' := [.int q9]) [] rfl rfl (fun _ => Nat.le_of_ble_eq_true rfl) (fun _ => rfl) rfl rfl nm_X4_above zw_5_55 zw_5_56 zw_1_11 zw_5_57 rfl (Nat.le_of_ble_eq_true rfl) ⟨Nat.le_of_ble_eq_true rfl, Nat.le_of_ble_eq_true rfl⟩ (by decide +kernel) (fun _ => ?_)
          obtain rfl := Option.some.inj hf
          exact zr_iret (b0 := fun _ => 0) (by decide +kernel) rfl rfl rfl rfl rfl
        · have hf := ziff hf hc2
          by_cases hc3 : ((Lg_rows s0) (x3 + (0 : Int32)).toNatClampNeg) = (10 : Int32)
          · have hf := zift hf hc3
            refine zr_tabIn (v := (10 : Int32)) (tgt := 109) (dflt := 108) (lo := 7) (hi := 11) (offs := #[36, 54, 69, 81, 94]) (len := 36) (off := 81) hc3 (by decide +kernel) (by decide) (by decide) (by decide) ?_
            obtain ⟨q10, e10, hf⟩ := zbi_of hf
            refine zr_run [(.bipush 30, 0, 0, 0, .int (30 : Int32)), (.aload_n 2, 0, 0, 0, .null), (.aload_n 1, 0, 0, 0, .null), (.iload 4, 0, 0, 0, .null)] [] (WW' := [w_Lg G a0 s0, w_Ld G a1 s1, w_Fk G a2 s2]) (lv' := [some (.ref (a0 0)), some (.ref (a1 0)), some (.ref (a2 0)), some (.int x3), some (.int ((Lg_rows s0) (x3 + (1 : Int32)).toNatClampNeg)), some (.int ((Lg_rows s0) (x3 + (3 : Int32)).toNatClampNeg))]) (pc' := 115) (st' := [.int ((Lg_rows s0) (x3 + (1 : Int32)).toNatClampNeg), .ref (a1 0), .ref (a2 0), .int (30 : Int32)]) (by decide +kernel) rfl rfl ⟨trivial, trivial, trivial, trivial, trivial⟩ ?_
            refine zr_callV (c_X1_enters l G a2 a1 s2 s1 ((Lg_rows s0) (x3 + (1 : Int32)).toNatClampNeg) q10 e10) (WW' := fun _ => [w_Lg G a0 s0, w_Ld G a1 s1, w_Fk G a2 q10.2]) (st := [.int (30 : Int32)]) (st' := [.int q10.1, .int (30 : Int32)]) [2, 1] rfl rfl (fun _ => Nat.le_of_ble_eq_true rfl) (fun _ => rfl) rfl rfl nm_X1_enters zw_5_59 zw_3_223 zw_3_224 zw_1_8 zw_3_225 rfl rfl rfl (Nat.le_of_ble_eq_true rfl) ⟨Nat.le_of_ble_eq_true rfl, Nat.le_of_ble_eq_true rfl⟩ (by decide +kernel) (fun _ => ?_)
            obtain ⟨q11, e11, hf⟩ := zbi_of hf
            refine zr_callS (c_X4_above l G (30 : Int32) q10.1 q11 e11) (WW' := fun _ => [w_Lg G a0 s0, w_Ld G a1 s1, w_Fk G a2 q10.2]) (st := []) (st' := [.int q11]) [] rfl rfl (fun _ => Nat.le_of_ble_eq_true rfl) (fun _ => rfl) rfl rfl nm_X4_above zw_5_55 zw_5_56 zw_1_11 zw_5_57 rfl (Nat.le_of_ble_eq_true rfl) ⟨Nat.le_of_ble_eq_true rfl, Nat.le_of_ble_eq_true rfl⟩ (by decide +kernel) (fun _ => ?_)
            obtain rfl := Option.some.inj hf
            exact zr_iret (b0 := fun _ => 0) (by decide +kernel) rfl rfl rfl rfl rfl
          · have hf := ziff hf hc3
            by_cases hc4 : ((Lg_rows s0) (x3 + (0 : Int32)).toNatClampNeg) = (11 : Int32)
            · have hf := zift hf hc4
              refine zr_tabIn (v := (11 : Int32)) (tgt := 122) (dflt := 108) (lo := 7) (hi := 11) (offs := #[36, 54, 69, 81, 94]) (len := 36) (off := 94) hc4 (by decide +kernel) (by decide) (by decide) (by decide) ?_
              obtain ⟨q12, e12, hf⟩ := zbi_of hf
              refine zr_run [(.bipush 40, 0, 0, 0, .int (40 : Int32)), (.aload_n 2, 0, 0, 0, .null), (.iload 4, 0, 0, 0, .null), (.iload 5, 0, 0, 0, .null)] [] (WW' := [w_Lg G a0 s0, w_Ld G a1 s1, w_Fk G a2 s2]) (lv' := [some (.ref (a0 0)), some (.ref (a1 0)), some (.ref (a2 0)), some (.int x3), some (.int ((Lg_rows s0) (x3 + (1 : Int32)).toNatClampNeg)), some (.int ((Lg_rows s0) (x3 + (3 : Int32)).toNatClampNeg))]) (pc' := 129) (st' := [.int ((Lg_rows s0) (x3 + (3 : Int32)).toNatClampNeg), .int ((Lg_rows s0) (x3 + (1 : Int32)).toNatClampNeg), .ref (a2 0), .int (40 : Int32)]) (by decide +kernel) rfl rfl ⟨trivial, trivial, trivial, trivial, trivial⟩ ?_
              refine zr_callV (c_X1_gets l G a2 s2 ((Lg_rows s0) (x3 + (1 : Int32)).toNatClampNeg) ((Lg_rows s0) (x3 + (3 : Int32)).toNatClampNeg) q12 e12) (WW' := fun _ => [w_Lg G a0 s0, w_Ld G a1 s1, w_Fk G a2 q12.2]) (st := [.int (40 : Int32)]) (st' := [.int q12.1, .int (40 : Int32)]) [2] rfl rfl (fun _ => Nat.le_of_ble_eq_true rfl) (fun _ => rfl) rfl rfl nm_X1_gets zw_5_60 zw_3_232 zw_3_233 zw_1_8 zw_3_234 rfl rfl rfl (Nat.le_of_ble_eq_true rfl) ⟨Nat.le_of_ble_eq_true rfl, Nat.le_of_ble_eq_true rfl⟩ (by decide +kernel) (fun _ => ?_)
              obtain ⟨q13, e13, hf⟩ := zbi_of hf
              refine zr_callS (c_X4_above l G (40 : Int32) q12.1 q13 e13) (WW' := fun _ => [w_Lg G a0 s0, w_Ld G a1 s1, w_Fk G a2 q12.2]) (st := []) (st' := [.int q13]) [] rfl rfl (fun _ => Nat.le_of_ble_eq_true rfl) (fun _ => rfl) rfl rfl nm_X4_above zw_5_55 zw_5_56 zw_1_11 zw_5_57 rfl (Nat.le_of_ble_eq_true rfl) ⟨Nat.le_of_ble_eq_true rfl, Nat.le_of_ble_eq_true rfl⟩ (by decide +kernel) (fun _ => ?_)
              obtain rfl := Option.some.inj hf
              exact zr_iret (b0 := fun _ => 0) (by decide +kernel) rfl rfl rfl rfl rfl
            · have hf := ziff hf hc4
              refine zr_tabOut (tgt := 136) (dflt := 108) (lo := 7) (hi := 11) (offs := #[36, 54, 69, 81, 94]) (len := 36) (by decide +kernel) (by have q0 := lv_neT hc0 (a := 7) (by decide); have q1 := lv_neT hc1 (a := 8) (by decide); have q2 := lv_neT hc2 (a := 9) (by decide); have q3 := lv_neT hc3 (a := 10) (by decide); have q4 := lv_neT hc4 (a := 11) (by decide); omega) (by decide) ?_
              obtain ⟨q14, e14, hf⟩ := zbi_of hf
              refine zr_run [(.aload_n 2, 0, 0, 0, .null)] [] (WW' := [w_Lg G a0 s0, w_Ld G a1 s1, w_Fk G a2 s2]) (lv' := [some (.ref (a0 0)), some (.ref (a1 0)), some (.ref (a2 0)), some (.int x3), some (.int ((Lg_rows s0) (x3 + (1 : Int32)).toNatClampNeg)), some (.int ((Lg_rows s0) (x3 + (3 : Int32)).toNatClampNeg))]) (pc' := 137) (st' := [.ref (a2 0)]) (by decide +kernel) rfl rfl ⟨trivial, trivial⟩ ?_
              refine zr_callV (c_X1_daysToCome l G a2 s2 q14 e14) (WW' := fun _ => [w_Lg G a0 s0, w_Ld G a1 s1, w_Fk G a2 s2]) (st := []) (st' := [.int q14]) [2] rfl rfl (fun _ => Nat.le_of_ble_eq_true rfl) (fun _ => rfl) rfl rfl nm_X1_daysToCome zw_5_61 zw_4_7 zw_4_8 zw_1_8 zw_4_9 rfl rfl rfl (Nat.le_of_ble_eq_true rfl) ⟨Nat.le_of_ble_eq_true rfl, Nat.le_of_ble_eq_true rfl⟩ (by decide +kernel) (fun _ => ?_)
              refine zr_run [(.iload 5, 0, 0, 0, .null)] [] (WW' := [w_Lg G a0 s0, w_Ld G a1 s1, w_Fk G a2 s2]) (lv' := [some (.ref (a0 0)), some (.ref (a1 0)), some (.ref (a2 0)), some (.int x3), some (.int ((Lg_rows s0) (x3 + (1 : Int32)).toNatClampNeg)), some (.int ((Lg_rows s0) (x3 + (3 : Int32)).toNatClampNeg))]) (pc' := 142) (st' := [.int ((Lg_rows s0) (x3 + (3 : Int32)).toNatClampNeg), .int q14]) (by decide +kernel) rfl rfl ⟨trivial, trivial⟩ ?_
              refine zr_icmp_ge (off := 6) (tgt := 148) (by decide +kernel) (by decide) (fun hc => ?_) (fun hc => ?_)
              · have hf := zift hf hc
                refine zr_run [(.bipush 51, 0, 0, 0, .int (51 : Int32))] [] (WW' := [w_Lg G a0 s0, w_Ld G a1 s1, w_Fk G a2 s2]) (lv' := [some (.ref (a0 0)), some (.ref (a1 0)), some (.ref (a2 0)), some (.int x3), some (.int ((Lg_rows s0) (x3 + (1 : Int32)).toNatClampNeg)), some (.int ((Lg_rows s0) (x3 + (3 : Int32)).toNatClampNeg))]) (pc' := 147) (st' := [.int (51 : Int32)]) (by decide +kernel) rfl rfl ⟨trivial, trivial⟩ ?_
                obtain rfl := Option.some.inj hf
                exact zr_iret (b0 := fun _ => 0) (by decide +kernel) rfl rfl rfl rfl rfl
              · have hf := ziff hf hc
                obtain ⟨q15, e15, hf⟩ := zbi_of hf
                refine zr_run [(.aload_n 2, 0, 0, 0, .null), (.aload_n 1, 0, 0, 0, .null), (.iload 5, 0, 0, 0, .null), (.iload 5, 0, 0, 0, .null)] [] (WW' := [w_Lg G a0 s0, w_Ld G a1 s1, w_Fk G a2 s2]) (lv' := [some (.ref (a0 0)), some (.ref (a1 0)), some (.ref (a2 0)), some (.int x3), some (.int ((Lg_rows s0) (x3 + (1 : Int32)).toNatClampNeg)), some (.int ((Lg_rows s0) (x3 + (3 : Int32)).toNatClampNeg))]) (pc' := 154) (st' := [.int ((Lg_rows s0) (x3 + (3 : Int32)).toNatClampNeg), .int ((Lg_rows s0) (x3 + (3 : Int32)).toNatClampNeg), .ref (a1 0), .ref (a2 0)]) (by decide +kernel) rfl rfl ⟨trivial, trivial, trivial, trivial, trivial⟩ ?_
                refine zr_callV (c_X1_goDays l G a2 a1 s2 s1 ((Lg_rows s0) (x3 + (3 : Int32)).toNatClampNeg) ((Lg_rows s0) (x3 + (3 : Int32)).toNatClampNeg) q15 e15) (WW' := fun _ => [w_Lg G a0 s0, w_Ld G a1 s1, w_Fk G a2 q15.2]) (st := []) (st' := [.int q15.1]) [2, 1] rfl rfl (fun _ => Nat.le_of_ble_eq_true rfl) (fun _ => rfl) rfl rfl nm_X1_goDays zw_5_62 zw_4_3 zw_4_4 zw_1_8 zw_4_5 rfl rfl rfl (Nat.le_of_ble_eq_true rfl) ⟨Nat.le_of_ble_eq_true rfl, Nat.le_of_ble_eq_true rfl⟩ (by decide +kernel) (fun _ => ?_)
                refine zr_run [(.pop, 0, 0, 0, .null), (.iconst 0, 0, 0, 0, .int (0 : Int32))] [] (WW' := [w_Lg G a0 s0, w_Ld G a1 s1, w_Fk G a2 q15.2]) (lv' := [some (.ref (a0 0)), some (.ref (a1 0)), some (.ref (a2 0)), some (.int x3), some (.int ((Lg_rows s0) (x3 + (1 : Int32)).toNatClampNeg)), some (.int ((Lg_rows s0) (x3 + (3 : Int32)).toNatClampNeg))]) (pc' := 159) (st' := [.int (0 : Int32)]) (by decide +kernel) rfl rfl ⟨trivial, trivial, trivial⟩ ?_
                obtain rfl := Option.some.inj hf
                exact zr_iret (b0 := fun _ => 0) (by decide +kernel) rfl rfl rfl rfl rfl
  exact zj_entry [some (.ref (a0 0)), some (.ref (a1 0)), some (.ref (a2 0)), some (.int x3), none, none] (by decide +kernel) rfl (by decide) (Nat.le_of_ble_eq_true rfl) rfl rfl (key _)
def M_X4_live : zj_M := (RX4, cX4_live, 4, (some .int), { frames := 6, cells := 0, slots := 0, locals := 148 }, false)
theorem nm_X4_live : zj_nm yX4_live 2 := ⟨by decide +kernel, by decide +kernel, by decide +kernel⟩
def f_X4_live_b51  (s0 : LgT) (s1 : LdT) (s2 : FkT)  (x3 : Int32) : Option (Int32 × LgT × FkT) := (zlet (Lg_s_verdict s0 ((upd (Lg_verdict s0) (0 : Int32).toNatClampNeg x3))) fun y4 => (zlet (Lg_s_verdict y4 ((upd (Lg_verdict y4) (1 : Int32).toNatClampNeg (Lg_lived y4)))) fun y5 => ((f_X1_today s2).bind fun q6 => (zlet (Lg_s_verdict y5 ((upd (Lg_verdict y5) (2 : Int32).toNatClampNeg q6))) fun y7 => ((f_X1_menWho s2 (Ld_men s1) (3 : Int32)).bind fun q8 => (zlet (Lg_s_verdict y7 ((upd (Lg_verdict y7) (3 : Int32).toNatClampNeg q8))) fun y9 => (if x3 = 0 then some ((-1 : Int32), y9, s2) else some ((Lg_lived y9), y9, s2))))))))
def f_X4_live_H7  (s0 : LgT) (s1 : LdT) (s2 : FkT) (k7 : LgT → FkT → Int32 → Option (Int32 × LgT × FkT)) (x3 : Int32) : Option (Int32 × LgT × FkT) := (if (Lg_lived s0) < (Lg_lines s0) then ((f_X4_liveLine s0 s1 s2 ((Lg_lived s0) * (4 : Int32))).bind fun q2 => (if q2.1 = 0 then (zlet (Lg_s_lived s0 ((Lg_lived s0) + (1 : Int32))) fun y3 => k7 y3 q2.2 q2.1) else f_X4_live_b51 s0 s1 q2.2 q2.1)) else f_X4_live_b51 s0 s1 s2 x3)
def f_X4_live_L7  (s1 : LdT)  : Nat → LgT → FkT → Int32 → Option (Int32 × LgT × FkT)
  | 0 => fun _ _ _ => none
  | n + 1 => fun s0 s2 x3 => f_X4_live_H7 s0 s1 s2 (f_X4_live_L7 s1 n) x3
def f_X4_live  (s0 : LgT) (s1 : LdT) (s2 : FkT)  : Option (Int32 × LgT × FkT) := (zlet (Lg_s_lived s0 (0 : Int32)) fun y1 => f_X4_live_L7 s1 zFU y1 s2 (0 : Int32))
set_option maxRecDepth 100000 in
set_option maxHeartbeats 4000000 in
theorem t_X4_live_b51 (l : Launch) (G : zj_G) (a0 : Nat → Nat) (a1 : Nat → Nat) (a2 : Nat → Nat) (W0 : List va_W) (r : Int32 × LgT × FkT) (s0 : LgT) (s1 : LdT) (s2 : FkT)   (x3 : Int32) (hf : f_X4_live_b51 s0 s1 s2 x3 = some r) : zj_J l G M_X4_live W0 (zj_ret G M_X4_live W0 (some (.int r.1)) (fun _ => [w_Lg G a0 r.2.1, w_Ld G a1 s1, w_Fk G a2 r.2.2])) 0 0 [w_Lg G a0 s0, w_Ld G a1 s1, w_Fk G a2 s2] [some (.ref (a0 0)), some (.ref (a1 0)), some (.ref (a2 0)), some (.int x3)] 51 [] := by
  unfold f_X4_live_b51 at hf
  obtain ⟨y4, e4, hf⟩ := zlet_of hf
  refine zr_run [(.aload_n 0, 0, 0, 0, .null), (.getfield 9, 0, 0, 0, .null), (.iconst 0, 0, 0, 0, .int (0 : Int32)), (.iload_n 3, 0, 0, 0, .null), (.iastore, 0, 1, 0, .null)] [] (WW' := [w_Lg G a0 (Lg_s_verdict s0 ((upd (Lg_verdict s0) (0 : Int32).toNatClampNeg x3))), w_Ld G a1 s1, w_Fk G a2 s2]) (lv' := [some (.ref (a0 0)), some (.ref (a1 0)), some (.ref (a2 0)), some (.int x3)]) (pc' := 58) (st' := []) (by decide +kernel) rfl rfl ⟨trivial, ⟨rfl, rfl, zw_2_34⟩, trivial, trivial, ⟨rfl, rfl, (by decide)⟩, trivial⟩ ?_
  refine zr_eq (WW2 := [w_Lg G a0 y4, w_Ld G a1 s1, w_Fk G a2 s2]) (lv2 := [some (.ref (a0 0)), some (.ref (a1 0)), some (.ref (a2 0)), some (.int x3)]) (st2 := []) (by rw [e4]) rfl rfl ?_
  obtain ⟨y5, e5, hf⟩ := zlet_of hf
  refine zr_run [(.aload_n 0, 0, 0, 0, .null), (.getfield 9, 0, 0, 0, .null), (.iconst 1, 0, 0, 0, .int (1 : Int32)), (.aload_n 0, 0, 0, 0, .null), (.getfield 15, 0, 0, 1, .null), (.iastore, 0, 1, 0, .null)] [] (WW' := [w_Lg G a0 (Lg_s_verdict y4 ((upd (Lg_verdict y4) (1 : Int32).toNatClampNeg (Lg_lived y4)))), w_Ld G a1 s1, w_Fk G a2 s2]) (lv' := [some (.ref (a0 0)), some (.ref (a1 0)), some (.ref (a2 0)), some (.int x3)]) (pc' := 68) (st' := []) (by decide +kernel) rfl rfl ⟨trivial, ⟨rfl, rfl, zw_2_34⟩, trivial, trivial, ⟨rfl, rfl, zw_2_36⟩, ⟨rfl, rfl, (by decide)⟩, trivial⟩ ?_
  refine zr_eq (WW2 := [w_Lg G a0 y5, w_Ld G a1 s1, w_Fk G a2 s2]) (lv2 := [some (.ref (a0 0)), some (.ref (a1 0)), some (.ref (a2 0)), some (.int x3)]) (st2 := []) (by rw [e5]) rfl rfl ?_
  obtain ⟨q6, e6, hf⟩ := zbi_of hf
  refine zr_run [(.aload_n 0, 0, 0, 0, .null), (.getfield 9, 0, 0, 0, .null), (.iconst 2, 0, 0, 0, .int (2 : Int32)), (.aload_n 2, 0, 0, 0, .null)] [] (WW' := [w_Lg G a0 y5, w_Ld G a1 s1, w_Fk G a2 s2]) (lv' := [some (.ref (a0 0)), some (.ref (a1 0)), some (.ref (a2 0)), some (.int x3)]) (pc' := 74) (st' := [.ref (a2 0), .int (2 : Int32), .ref (a0 1)]) (by decide +kernel) rfl rfl ⟨trivial, ⟨rfl, rfl, zw_2_34⟩, trivial, trivial, trivial⟩ ?_
  refine zr_callV (c_X1_today l G a2 s2 q6 e6) (WW' := fun _ => [w_Lg G a0 y5, w_Ld G a1 s1, w_Fk G a2 s2]) (st := [.int (2 : Int32), .ref (a0 1)]) (st' := [.int q6, .int (2 : Int32), .ref (a0 1)]) [2] rfl rfl (fun _ => Nat.le_of_ble_eq_true rfl) (fun _ => rfl) rfl rfl nm_X1_today zw_5_63 zw_3_157 zw_3_158 zw_1_8 zw_3_159 rfl rfl rfl (Nat.le_of_ble_eq_true rfl) ⟨Nat.le_of_ble_eq_true rfl, Nat.le_of_ble_eq_true rfl⟩ (by decide +kernel) (fun _ => ?_)
  obtain ⟨y7, e7, hf⟩ := zlet_of hf
  refine zr_run [(.iastore, 0, 1, 0, .null)] [] (WW' := [w_Lg G a0 (Lg_s_verdict y5 ((upd (Lg_verdict y5) (2 : Int32).toNatClampNeg q6))), w_Ld G a1 s1, w_Fk G a2 s2]) (lv' := [some (.ref (a0 0)), some (.ref (a1 0)), some (.ref (a2 0)), some (.int x3)]) (pc' := 78) (st' := []) (by decide +kernel) rfl rfl ⟨⟨rfl, rfl, (by decide)⟩, trivial⟩ ?_
  refine zr_eq (WW2 := [w_Lg G a0 y7, w_Ld G a1 s1, w_Fk G a2 s2]) (lv2 := [some (.ref (a0 0)), some (.ref (a1 0)), some (.ref (a2 0)), some (.int x3)]) (st2 := []) (by rw [e7]) rfl rfl ?_
  obtain ⟨q8, e8, hf⟩ := zbi_of hf
  refine zr_run [(.aload_n 0, 0, 0, 0, .null), (.getfield 9, 0, 0, 0, .null), (.iconst 3, 0, 0, 0, .int (3 : Int32)), (.aload_n 2, 0, 0, 0, .null), (.aload_n 1, 0, 0, 0, .null), (.getfield 85, 1, 0, 2, .null), (.iconst 3, 0, 0, 0, .int (3 : Int32))] [] (WW' := [w_Lg G a0 y7, w_Ld G a1 s1, w_Fk G a2 s2]) (lv' := [some (.ref (a0 0)), some (.ref (a1 0)), some (.ref (a2 0)), some (.int x3)]) (pc' := 89) (st' := [.int (3 : Int32), .int (Ld_men s1), .ref (a2 0), .int (3 : Int32), .ref (a0 1)]) (by decide +kernel) rfl rfl ⟨trivial, ⟨rfl, rfl, zw_2_34⟩, trivial, trivial, trivial, ⟨rfl, rfl, zw_1_161⟩, trivial, trivial⟩ ?_
  refine zr_callV (c_X1_menWho l G a2 s2 (Ld_men s1) (3 : Int32) q8 e8) (WW' := fun _ => [w_Lg G a0 y7, w_Ld G a1 s1, w_Fk G a2 s2]) (st := [.int (3 : Int32), .ref (a0 1)]) (st' := [.int q8, .int (3 : Int32), .ref (a0 1)]) [2] rfl rfl (fun _ => Nat.le_of_ble_eq_true rfl) (fun _ => rfl) rfl rfl nm_X1_menWho zw_5_64 zw_3_161 zw_3_162 zw_1_8 zw_3_163 rfl rfl rfl (Nat.le_of_ble_eq_true rfl) ⟨Nat.le_of_ble_eq_true rfl, Nat.le_of_ble_eq_true rfl⟩ (by decide +kernel) (fun _ => ?_)
  obtain ⟨y9, e9, hf⟩ := zlet_of hf
  refine zr_run [(.iastore, 0, 1, 0, .null)] [] (WW' := [w_Lg G a0 (Lg_s_verdict y7 ((upd (Lg_verdict y7) (3 : Int32).toNatClampNeg q8))), w_Ld G a1 s1, w_Fk G a2 s2]) (lv' := [some (.ref (a0 0)), some (.ref (a1 0)), some (.ref (a2 0)), some (.int x3)]) (pc' := 93) (st' := []) (by decide +kernel) rfl rfl ⟨⟨rfl, rfl, (by decide)⟩, trivial⟩ ?_
  refine zr_eq (WW2 := [w_Lg G a0 y9, w_Ld G a1 s1, w_Fk G a2 s2]) (lv2 := [some (.ref (a0 0)), some (.ref (a1 0)), some (.ref (a2 0)), some (.int x3)]) (st2 := []) (by rw [e9]) rfl rfl ?_
  refine zr_run [(.iload_n 3, 0, 0, 0, .null)] [] (WW' := [w_Lg G a0 y9, w_Ld G a1 s1, w_Fk G a2 s2]) (lv' := [some (.ref (a0 0)), some (.ref (a1 0)), some (.ref (a2 0)), some (.int x3)]) (pc' := 94) (st' := [.int x3]) (by decide +kernel) rfl rfl ⟨trivial, trivial⟩ ?_
  refine zr_if_ne (off := 7) (tgt := 101) (by decide +kernel) (by decide) (fun hc => ?_) (fun hc => ?_)
  · have hf := zift hf hc
    refine zr_run [(.iconst (-1), 0, 0, 0, .int (-1 : Int32))] [] (WW' := [w_Lg G a0 y9, w_Ld G a1 s1, w_Fk G a2 s2]) (lv' := [some (.ref (a0 0)), some (.ref (a1 0)), some (.ref (a2 0)), some (.int x3)]) (pc' := 98) (st' := [.int (-1 : Int32)]) (by decide +kernel) rfl rfl ⟨trivial, trivial⟩ ?_
    refine zr_goto (off := 7) (tgt := 105) (by decide +kernel) (by decide) ?_
    obtain rfl := Option.some.inj hf
    exact zr_iret (b0 := fun _ => 0) (by decide +kernel) rfl rfl rfl rfl rfl
  · have hf := ziff hf hc
    refine zr_run [(.aload_n 0, 0, 0, 0, .null), (.getfield 15, 0, 0, 1, .null)] [] (WW' := [w_Lg G a0 y9, w_Ld G a1 s1, w_Fk G a2 s2]) (lv' := [some (.ref (a0 0)), some (.ref (a1 0)), some (.ref (a2 0)), some (.int x3)]) (pc' := 105) (st' := [.int (Lg_lived y9)]) (by decide +kernel) rfl rfl ⟨trivial, ⟨rfl, rfl, zw_2_36⟩, trivial⟩ ?_
    obtain rfl := Option.some.inj hf
    exact zr_iret (b0 := fun _ => 0) (by decide +kernel) rfl rfl rfl rfl rfl
set_option maxRecDepth 100000 in
set_option maxHeartbeats 4000000 in
theorem t_X4_live_H7 (l : Launch) (G : zj_G) (a0 : Nat → Nat) (a1 : Nat → Nat) (a2 : Nat → Nat) (W0 : List va_W) (r : Int32 × LgT × FkT) (s0 : LgT) (s1 : LdT) (s2 : FkT) (k7 : LgT → FkT → Int32 → Option (Int32 × LgT × FkT)) (hk7 : ∀ (s0 : LgT) (s2 : FkT) (x3 : Int32), k7 s0 s2 x3 = some r → zj_J l G M_X4_live W0 (zj_ret G M_X4_live W0 (some (.int r.1)) (fun _ => [w_Lg G a0 r.2.1, w_Ld G a1 s1, w_Fk G a2 r.2.2])) 0 0 [w_Lg G a0 s0, w_Ld G a1 s1, w_Fk G a2 s2] [some (.ref (a0 0)), some (.ref (a1 0)), some (.ref (a2 0)), some (.int x3)] 7 []) (x3 : Int32) (hf : f_X4_live_H7 s0 s1 s2 k7 x3 = some r) : zj_J l G M_X4_live W0 (zj_ret G M_X4_live W0 (some (.int r.1)) (fun _ => [w_Lg G a0 r.2.1, w_Ld G a1 s1, w_Fk G a2 r.2.2])) 0 0 [w_Lg G a0 s0, w_Ld G a1 s1, w_Fk G a2 s2] [some (.ref (a0 0)), some (.ref (a1 0)), some (.ref (a2 0)), some (.int x3)] 7 [] := by
  unfold f_X4_live_H7 at hf
  refine zr_run [(.aload_n 0, 0, 0, 0, .null), (.getfield 15, 0, 0, 1, .null), (.aload_n 0, 0, 0, 0, .null), (.getfield 22, 0, 0, 3, .null)] [] (WW' := [w_Lg G a0 s0, w_Ld G a1 s1, w_Fk G a2 s2]) (lv' := [some (.ref (a0 0)), some (.ref (a1 0)), some (.ref (a2 0)), some (.int x3)]) (pc' := 15) (st' := [.int (Lg_lines s0), .int (Lg_lived s0)]) (by decide +kernel) rfl rfl ⟨trivial, ⟨rfl, rfl, zw_2_36⟩, trivial, ⟨rfl, rfl, zw_2_39⟩, trivial⟩ ?_
  refine zr_icmp_ge (off := 36) (tgt := 51) (by decide +kernel) (by decide) (fun hc => ?_) (fun hc => ?_)
  · have hf := zift hf hc
    obtain ⟨q2, e2, hf⟩ := zbi_of hf
    refine zr_run [(.aload_n 0, 0, 0, 0, .null), (.aload_n 1, 0, 0, 0, .null), (.aload_n 2, 0, 0, 0, .null), (.aload_n 0, 0, 0, 0, .null), (.getfield 15, 0, 0, 1, .null), (.iconst 4, 0, 0, 0, .int (4 : Int32)), (.imul, 0, 0, 0, .null)] [] (WW' := [w_Lg G a0 s0, w_Ld G a1 s1, w_Fk G a2 s2]) (lv' := [some (.ref (a0 0)), some (.ref (a1 0)), some (.ref (a2 0)), some (.int x3)]) (pc' := 27) (st' := [.int ((Lg_lived s0) * (4 : Int32)), .ref (a2 0), .ref (a1 0), .ref (a0 0)]) (by decide +kernel) rfl rfl ⟨trivial, trivial, trivial, trivial, ⟨rfl, rfl, zw_2_36⟩, trivial, trivial, trivial⟩ ?_
    refine zr_callV (c_X4_liveLine l G a0 a1 a2 s0 s1 s2 ((Lg_lived s0) * (4 : Int32)) q2 e2) (WW' := fun _ => [w_Lg G a0 s0, w_Ld G a1 s1, w_Fk G a2 q2.2]) (st := []) (st' := [.int q2.1]) [0, 1, 2] rfl rfl (fun _ => Nat.le_of_ble_eq_true rfl) (fun _ => rfl) rfl rfl nm_X4_liveLine zw_5_49 zw_5_51 zw_0_35 zw_1_11 zw_5_52 rfl rfl rfl (Nat.le_of_ble_eq_true rfl) ⟨Nat.le_of_ble_eq_true rfl, Nat.le_of_ble_eq_true rfl⟩ (by decide +kernel) (fun _ => ?_)
    refine zr_run [(.istore_n 3, 0, 0, 0, .null), (.iload_n 3, 0, 0, 0, .null)] [] (WW' := [w_Lg G a0 s0, w_Ld G a1 s1, w_Fk G a2 q2.2]) (lv' := [some (.ref (a0 0)), some (.ref (a1 0)), some (.ref (a2 0)), some (.int q2.1)]) (pc' := 32) (st' := [.int q2.1]) (by decide +kernel) rfl rfl ⟨trivial, trivial, trivial⟩ ?_
    refine zr_if_eq (off := 6) (tgt := 38) (by decide +kernel) (by decide) (fun hc => ?_) (fun hc => ?_)
    · have hf := zift hf hc
      obtain ⟨y3, e3, hf⟩ := zlet_of hf
      refine zr_run [(.aload_n 0, 0, 0, 0, .null), (.dup, 0, 0, 0, .null), (.getfield 15, 0, 0, 1, .null), (.iconst 1, 0, 0, 0, .int (1 : Int32)), (.iadd, 0, 0, 0, .null), (.putfield 15, 0, 0, 1, .null)] [] (WW' := [w_Lg G a0 (Lg_s_lived s0 ((Lg_lived s0) + (1 : Int32))), w_Ld G a1 s1, w_Fk G a2 q2.2]) (lv' := [some (.ref (a0 0)), some (.ref (a1 0)), some (.ref (a2 0)), some (.int q2.1)]) (pc' := 48) (st' := []) (by decide +kernel) rfl rfl ⟨trivial, trivial, ⟨rfl, rfl, zw_2_36⟩, trivial, trivial, ⟨rfl, rfl, rfl, trivial, rfl, rfl, zw_2_36⟩, trivial⟩ ?_
      refine zr_eq (WW2 := [w_Lg G a0 y3, w_Ld G a1 s1, w_Fk G a2 q2.2]) (lv2 := [some (.ref (a0 0)), some (.ref (a1 0)), some (.ref (a2 0)), some (.int q2.1)]) (st2 := []) (by rw [e3]) rfl rfl ?_
      refine zr_goto (off := -41) (tgt := 7) (by decide +kernel) (by decide) ?_
      exact hk7 y3 q2.2 q2.1 hf
    · have hf := ziff hf hc
      refine zr_goto (off := 16) (tgt := 51) (by decide +kernel) (by decide) ?_
      exact t_X4_live_b51 l G a0 a1 a2 W0 r s0 s1 q2.2 q2.1 hf
  · have hf := ziff hf hc
    exact t_X4_live_b51 l G a0 a1 a2 W0 r s0 s1 s2 x3 hf
theorem t_X4_live_L7 (l : Launch) (G : zj_G) (a0 : Nat → Nat) (a1 : Nat → Nat) (a2 : Nat → Nat) (W0 : List va_W) (r : Int32 × LgT × FkT) (s1 : LdT)   : ∀ (n : Nat) (s0 : LgT) (s2 : FkT) (x3 : Int32), f_X4_live_L7 s1 n s0 s2 x3 = some r → zj_J l G M_X4_live W0 (zj_ret G M_X4_live W0 (some (.int r.1)) (fun _ => [w_Lg G a0 r.2.1, w_Ld G a1 s1, w_Fk G a2 r.2.2])) 0 0 [w_Lg G a0 s0, w_Ld G a1 s1, w_Fk G a2 s2] [some (.ref (a0 0)), some (.ref (a1 0)), some (.ref (a2 0)), some (.int x3)] 7 [] := by
  intro n
  induction n with
  | zero => intro s0 s2 x3 hf; exact nomatch (show none = some r from hf)
  | succ n ih => intro s0 s2 x3 hf; exact t_X4_live_H7 l G a0 a1 a2 W0 r s0 s1 s2  (f_X4_live_L7 s1 n)  ih x3  hf
set_option maxRecDepth 100000 in
set_option maxHeartbeats 4000000 in
theorem c_X4_live (l : Launch) (G : zj_G) (a0 : Nat → Nat) (a1 : Nat → Nat) (a2 : Nat → Nat) (s0 : LgT) (s1 : LdT) (s2 : FkT)  (r : Int32 × LgT × FkT) (hf : f_X4_live s0 s1 s2 = some r) : zj_C l G M_X4_live yX4_live [w_Lg G a0 s0, w_Ld G a1 s1, w_Fk G a2 s2] [.ref (a0 0), .ref (a1 0), .ref (a2 0)] (some (.int r.1)) (fun _ => [w_Lg G a0 r.2.1, w_Ld G a1 s1, w_Fk G a2 r.2.2]) := by
  have key : ∀ W0 : List va_W, zj_J l G M_X4_live W0 (zj_ret G M_X4_live W0 (some (.int r.1)) (fun _ => [w_Lg G a0 r.2.1, w_Ld G a1 s1, w_Fk G a2 r.2.2])) 0 0 [w_Lg G a0 s0, w_Ld G a1 s1, w_Fk G a2 s2] [some (.ref (a0 0)), some (.ref (a1 0)), some (.ref (a2 0)), none] 0 [] := by
    intro W0
    unfold f_X4_live at hf
    obtain ⟨y1, e1, hf⟩ := zlet_of hf
    refine zr_run [(.iconst 0, 0, 0, 0, .int (0 : Int32)), (.istore_n 3, 0, 0, 0, .null), (.aload_n 0, 0, 0, 0, .null), (.iconst 0, 0, 0, 0, .int (0 : Int32)), (.putfield 15, 0, 0, 1, .null)] [] (WW' := [w_Lg G a0 (Lg_s_lived s0 (0 : Int32)), w_Ld G a1 s1, w_Fk G a2 s2]) (lv' := [some (.ref (a0 0)), some (.ref (a1 0)), some (.ref (a2 0)), some (.int (0 : Int32))]) (pc' := 7) (st' := []) (by decide +kernel) rfl rfl ⟨trivial, trivial, trivial, trivial, ⟨rfl, rfl, rfl, trivial, rfl, rfl, zw_2_36⟩, trivial⟩ ?_
    refine zr_eq (WW2 := [w_Lg G a0 y1, w_Ld G a1 s1, w_Fk G a2 s2]) (lv2 := [some (.ref (a0 0)), some (.ref (a1 0)), some (.ref (a2 0)), some (.int (0 : Int32))]) (st2 := []) (by rw [e1]) rfl rfl ?_
    exact t_X4_live_L7 l G a0 a1 a2 W0 r s1 zFU y1 s2 (0 : Int32) hf
  exact zj_entry [some (.ref (a0 0)), some (.ref (a1 0)), some (.ref (a2 0)), none] (by decide +kernel) rfl (by decide) (Nat.le_of_ble_eq_true rfl) rfl rfl (key _)
