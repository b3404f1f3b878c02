def M_X3_freshName : zj_M := (RX3, cX3_freshName, 4, (some .long), { frames := 2, cells := 0, slots := 0, locals := 44 }, false)
theorem nm_X3_freshName : zj_nm yX3_freshName 1 := ⟨by decide +kernel, by decide +kernel, by decide +kernel⟩
def f_X3_freshName_b39  (s0 : LdT) (s1 : RdT)   : Option (Int64 × RdT) := ((f_X7_fail s1 (3 : Int32)).bind fun q4 => some ((0 : Int64), q4))
def f_X3_freshName  (s0 : LdT) (s1 : RdT)  : Option (Int64 × RdT) := (if (Rd_kind s1) = (3 : Int32) then ((f_X3_placeNamed s0 (Rd_name s1)).bind fun q1 => (if q1 = (-1 : Int32) then ((f_X3_manNamed s0 (Rd_name s1)).bind fun q2 => (if q2 = (-1 : Int32) then ((f_X7_advance s1).bind fun q3 => some ((Rd_name s1), q3)) else f_X3_freshName_b39 s0 s1)) else f_X3_freshName_b39 s0 s1)) else ((f_X7_fail s1 (1 : Int32)).bind fun q5 => some ((0 : Int64), q5)))
set_option maxRecDepth 100000 in
set_option maxHeartbeats 4000000 in
theorem t_X3_freshName_b39 (l : Launch) (G : zj_G) (a0 : Nat → Nat) (a1 : Nat → Nat) (W0 : List va_W) (r : Int64 × RdT) (s0 : LdT) (s1 : RdT)    (hf : f_X3_freshName_b39 s0 s1 = some r) : zj_J l G M_X3_freshName W0 (zj_ret G M_X3_freshName W0 (some (.long r.1)) (fun _ => [w_Ld G a0 s0, w_Rd G a1 r.2])) 0 0 [w_Ld G a0 s0, w_Rd G a1 s1] [none, some (.ref (a1 0)), none, none] 39 [] := by
  unfold f_X3_freshName_b39 at hf
  obtain ⟨q4, e4, hf⟩ := zbi_of hf
  refine zr_run [(.aload_n 1, 0, 0, 0, .null), (.iconst 3, 0, 0, 0, .int (3 : Int32))] [] (WW' := [w_Ld G a0 s0, w_Rd G a1 s1]) (lv' := [none, some (.ref (a1 0)), none, none]) (pc' := 41) (st' := [.int (3 : Int32), .ref (a1 0)]) (by decide +kernel) rfl rfl ⟨trivial, trivial, trivial⟩ ?_
  refine zr_callV (c_X7_fail l G a1 s1 (3 : Int32) q4 e4) (WW' := fun _ => [w_Ld G a0 s0, w_Rd G a1 q4]) (st := []) (st' := []) [1] rfl rfl (fun _ => Nat.le_of_ble_eq_true rfl) (fun _ => rfl) rfl rfl nm_X7_fail zw_3_20 zw_3_9 zw_3_10 zw_1_2 zw_3_11 rfl rfl rfl (Nat.le_of_ble_eq_true rfl) ⟨Nat.le_of_ble_eq_true rfl, Nat.le_of_ble_eq_true rfl⟩ (by decide +kernel) (fun _ => ?_)
  refine zr_run [(.lconst 0, 0, 0, 0, .long (0 : Int64))] [] (WW' := [w_Ld G a0 s0, w_Rd G a1 q4]) (lv' := [none, some (.ref (a1 0)), none, none]) (pc' := 45) (st' := [.long (0 : Int64)]) (by decide +kernel) rfl rfl ⟨trivial, trivial⟩ ?_
  obtain rfl := Option.some.inj hf
  exact zr_lret (b0 := fun _ => 0) (by decide +kernel) rfl rfl rfl rfl rfl
set_option maxRecDepth 100000 in
set_option maxHeartbeats 4000000 in
theorem c_X3_freshName (l : Launch) (G : zj_G) (a0 : Nat → Nat) (a1 : Nat → Nat) (s0 : LdT) (s1 : RdT)  (r : Int64 × RdT) (hf : f_X3_freshName s0 s1 = some r) : zj_C l G M_X3_freshName yX3_freshName [w_Ld G a0 s0, w_Rd G a1 s1] [.ref (a0 0), .ref (a1 0)] (some (.long r.1)) (fun _ => [w_Ld G a0 s0, w_Rd G a1 r.2]) := by
  have key : ∀ W0 : List va_W, zj_J l G M_X3_freshName W0 (zj_ret G M_X3_freshName W0 (some (.long r.1)) (fun _ => [w_Ld G a0 s0, w_Rd G a1 r.2])) 0 0 [w_Ld G a0 s0, w_Rd G a1 s1] [some (.ref (a0 0)), some (.ref (a1 0)), none, none] 0 [] := by
    intro W0
    unfold f_X3_freshName at hf
    refine zr_run [(.aload_n 1, 0, 0, 0, .null), (.getfield 147, 1, 0, 6, .null), (.iconst 3, 0, 0, 0, .int (3 : Int32))] [] (WW' := [w_Ld G a0 s0, w_Rd G a1 s1]) (lv' := [some (.ref (a0 0)), some (.ref (a1 0)), none, none]) (pc' := 5) (st' := [.int (3 : Int32), .int (Rd_kind s1)]) (by decide +kernel) rfl rfl ⟨trivial, ⟨rfl, rfl, zw_1_101⟩, trivial, trivial⟩ ?_
    refine zr_icmp_eq (off := 10) (tgt := 15) (by decide +kernel) (by decide) (fun hc => ?_) (fun hc => ?_)
    · have hf := zift hf hc
      obtain ⟨q1, e1, hf⟩ := zbi_of hf
      refine zr_run [(.aload_n 0, 0, 0, 0, .null), (.aload_n 1, 0, 0, 0, .null), (.getfield 150, 1, 0, 10, .null)] [] (WW' := [w_Ld G a0 s0, w_Rd G a1 s1]) (lv' := [some (.ref (a0 0)), some (.ref (a1 0)), none, none]) (pc' := 20) (st' := [.long (Rd_name s1), .ref (a0 0)]) (by decide +kernel) rfl rfl ⟨trivial, trivial, ⟨rfl, rfl, zw_1_109⟩, trivial⟩ ?_
      refine zr_callV (c_X3_placeNamed l G a0 s0 (Rd_name s1) q1 e1) (WW' := fun _ => [w_Ld G a0 s0, w_Rd G a1 s1]) (st := []) (st' := [.int q1]) [0] rfl rfl (fun _ => Nat.le_of_ble_eq_true rfl) (fun _ => rfl) rfl rfl nm_X3_placeNamed zw_3_26 zw_3_27 zw_3_28 zw_1_7 zw_3_29 rfl rfl rfl (Nat.le_of_ble_eq_true rfl) ⟨Nat.le_of_ble_eq_true rfl, Nat.le_of_ble_eq_true rfl⟩ (by decide +kernel) (fun _ => ?_)
      refine zr_run [(.iconst (-1), 0, 0, 0, .int (-1 : Int32))] [] (WW' := [w_Ld G a0 s0, w_Rd G a1 s1]) (lv' := [some (.ref (a0 0)), some (.ref (a1 0)), none, none]) (pc' := 24) (st' := [.int (-1 : Int32), .int q1]) (by decide +kernel) rfl rfl ⟨trivial, trivial⟩ ?_
      refine zr_icmp_ne (off := 15) (tgt := 39) (by decide +kernel) (by decide) (fun hc => ?_) (fun hc => ?_)
      · have hf := zift hf hc
        obtain ⟨q2, e2, hf⟩ := zbi_of hf
        refine zr_run [(.aload_n 0, 0, 0, 0, .null), (.aload_n 1, 0, 0, 0, .null), (.getfield 150, 1, 0, 10, .null)] [] (WW' := [w_Ld G a0 s0, w_Rd G a1 s1]) (lv' := [some (.ref (a0 0)), some (.ref (a1 0)), none, none]) (pc' := 32) (st' := [.long (Rd_name s1), .ref (a0 0)]) (by decide +kernel) rfl rfl ⟨trivial, trivial, ⟨rfl, rfl, zw_1_109⟩, trivial⟩ ?_
        refine zr_callV (c_X3_manNamed l G a0 s0 (Rd_name s1) q2 e2) (WW' := fun _ => [w_Ld G a0 s0, w_Rd G a1 s1]) (st := []) (st' := [.int q2]) [0] rfl rfl (fun _ => Nat.le_of_ble_eq_true rfl) (fun _ => rfl) rfl rfl nm_X3_manNamed zw_3_30 zw_3_31 zw_3_32 zw_1_7 zw_3_33 rfl rfl rfl (Nat.le_of_ble_eq_true rfl) ⟨Nat.le_of_ble_eq_true rfl, Nat.le_of_ble_eq_true rfl⟩ (by decide +kernel) (fun _ => ?_)
        refine zr_run [(.iconst (-1), 0, 0, 0, .int (-1 : Int32))] [] (WW' := [w_Ld G a0 s0, w_Rd G a1 s1]) (lv' := [some (.ref (a0 0)), some (.ref (a1 0)), none, none]) (pc' := 36) (st' := [.int (-1 : Int32), .int q2]) (by decide +kernel) rfl rfl ⟨trivial, trivial⟩ ?_
        refine zr_icmp_eq (off := 10) (tgt := 46) (by decide +kernel) (by decide) (fun hc => ?_) (fun hc => ?_)
        · have hf := zift hf hc
          obtain ⟨q3, e3, hf⟩ := zbi_of hf
          refine zr_run [(.aload_n 1, 0, 0, 0, .null), (.getfield 150, 1, 0, 10, .null), (.lstore_n 2, 0, 0, 0, .null), (.aload_n 1, 0, 0, 0, .null)] [] (WW' := [w_Ld G a0 s0, w_Rd G a1 s1]) (lv' := [some (.ref (a0 0)), some (.ref (a1 0)), some (.long (Rd_name s1)), none]) (pc' := 52) (st' := [.ref (a1 0)]) (by decide +kernel) rfl rfl ⟨trivial, ⟨rfl, rfl, zw_1_109⟩, trivial, trivial, trivial⟩ ?_
          refine zr_callV (c_X7_advance l G a1 s1 q3 e3) (WW' := fun _ => [w_Ld G a0 s0, w_Rd G a1 q3]) (st := []) (st' := []) [1] rfl rfl (fun _ => Nat.le_of_ble_eq_true rfl) (fun _ => rfl) rfl rfl nm_X7_advance zw_3_21 zw_2_237 zw_2_238 zw_1_2 zw_2_239 rfl rfl rfl (Nat.le_of_ble_eq_true rfl) ⟨Nat.le_of_ble_eq_true rfl, Nat.le_of_ble_eq_true rfl⟩ (by decide +kernel) (fun _ => ?_)
          refine zr_run [(.lload_n 2, 0, 0, 0, .null)] [] (WW' := [w_Ld G a0 s0, w_Rd G a1 q3]) (lv' := [some (.ref (a0 0)), some (.ref (a1 0)), some (.long (Rd_name s1)), none]) (pc' := 56) (st' := [.long (Rd_name s1)]) (by decide +kernel) rfl rfl ⟨trivial, trivial⟩ ?_
          obtain rfl := Option.some.inj hf
          exact zr_lret (b0 := fun _ => 0) (by decide +kernel) rfl rfl rfl rfl rfl
        · have hf := ziff hf hc
          refine zr_run [] [0] (WW' := [w_Ld G a0 s0, w_Rd G a1 s1]) (lv' := [none, some (.ref (a1 0)), none, none]) (pc' := 39) (st' := []) (by decide +kernel) rfl rfl trivial ?_
          exact t_X3_freshName_b39 l G a0 a1 W0 r s0 s1 hf
      · have hf := ziff hf hc
        refine zr_run [] [0] (WW' := [w_Ld G a0 s0, w_Rd G a1 s1]) (lv' := [none, some (.ref (a1 0)), none, none]) (pc' := 39) (st' := []) (by decide +kernel) rfl rfl trivial ?_
        exact t_X3_freshName_b39 l G a0 a1 W0 r s0 s1 hf
    · have hf := ziff hf hc
      obtain ⟨q5, e5, hf⟩ := zbi_of hf
      refine zr_run [(.aload_n 1, 0, 0, 0, .null), (.iconst 1, 0, 0, 0, .int (1 : Int32))] [] (WW' := [w_Ld G a0 s0, w_Rd G a1 s1]) (lv' := [some (.ref (a0 0)), some (.ref (a1 0)), none, none]) (pc' := 10) (st' := [.int (1 : Int32), .ref (a1 0)]) (by decide +kernel) rfl rfl ⟨trivial, trivial, trivial⟩ ?_
      refine zr_callV (c_X7_fail l G a1 s1 (1 : Int32) q5 e5) (WW' := fun _ => [w_Ld G a0 s0, w_Rd G a1 q5]) (st := []) (st' := []) [1] rfl rfl (fun _ => Nat.le_of_ble_eq_true rfl) (fun _ => rfl) rfl rfl nm_X7_fail zw_3_20 zw_3_9 zw_3_10 zw_1_2 zw_3_11 rfl rfl rfl (Nat.le_of_ble_eq_true rfl) ⟨Nat.le_of_ble_eq_true rfl, Nat.le_of_ble_eq_true rfl⟩ (by decide +kernel) (fun _ => ?_)
      refine zr_run [(.lconst 0, 0, 0, 0, .long (0 : Int64))] [] (WW' := [w_Ld G a0 s0, w_Rd G a1 q5]) (lv' := [some (.ref (a0 0)), some (.ref (a1 0)), none, none]) (pc' := 14) (st' := [.long (0 : Int64)]) (by decide +kernel) rfl rfl ⟨trivial, trivial⟩ ?_
      obtain rfl := Option.some.inj hf
      exact zr_lret (b0 := fun _ => 0) (by decide +kernel) rfl rfl rfl rfl rfl
  exact zj_entry [some (.ref (a0 0)), some (.ref (a1 0)), none, none] (by decide +kernel) rfl (by decide) (Nat.le_of_ble_eq_true rfl) rfl rfl (key _)
def M_X3_readPlace : zj_M := (RX3, cX3_readPlace, 4, none, { frames := 3, cells := 0, slots := 0, locals := 67 }, false)
theorem nm_X3_readPlace : zj_nm yX3_readPlace 1 := ⟨by decide +kernel, by decide +kernel, by decide +kernel⟩
def f_X3_readPlace_b125  (s0 : LdT) (s1 : RdT)  (x2 : Int32) (z0 : Int32) (z1 : Int32) : Option (LdT × RdT) := (if zb_in z1 40 = true then (zlet (Ld_s_placeRows s0 ((upd (Ld_placeRows s0) z1.toNatClampNeg z0))) fun y15 => (zlet (Ld_s_places y15 ((Ld_places y15) + (1 : Int32))) fun y16 => (if x2 = (2 : Int32) then (zlet (Ld_s_ports y16 ((Ld_ports y16) + (1 : Int32))) fun y17 => some (y17, s1)) else some (y16, s1)))) else none)
def f_X3_readPlace_b101  (s0 : LdT) (s1 : RdT)  (x2 : Int32) (x3 : Int32) (z0 : Int32) (z1 : Int32) : Option (LdT × RdT) := (if zb_in z1 40 = true then (zlet (Ld_s_placeRows s0 ((upd (Ld_placeRows s0) z1.toNatClampNeg z0))) fun y12 => (if x2 = (2 : Int32) then ((f_X7_number s1 (1 : Int32) (6 : Int32)).bind fun q13 => f_X3_readPlace_b125 y12 q13.2 x2 q13.1 (x3 + (3 : Int32))) else f_X3_readPlace_b125 y12 s1 x2 (0 : Int32) (x3 + (3 : Int32)))) else none)
def f_X3_readPlace_b77  (s0 : LdT) (s1 : RdT)  (x2 : Int32) (x3 : Int32) (z0 : Int32) (z1 : Int32) : Option (LdT × RdT) := (if zb_in z1 40 = true then (zlet (Ld_s_placeRows s0 ((upd (Ld_placeRows s0) z1.toNatClampNeg z0))) fun y9 => (if x2 = (2 : Int32) then ((f_X7_number s1 (0 : Int32) (99 : Int32)).bind fun q10 => f_X3_readPlace_b101 y9 q10.2 x2 x3 q10.1 (x3 + (2 : Int32))) else f_X3_readPlace_b101 y9 s1 x2 x3 (0 : Int32) (x3 + (2 : Int32)))) else none)
def f_X3_readPlace  (s0 : LdT) (s1 : RdT)  : Option (LdT × RdT) := (if (Ld_places s0) < (10 : Int32) then ((f_X7_advance s1).bind fun q1 => ((f_X3_freshName s0 q1).bind fun q2 => (if zb_in (Ld_places s0) 10 = true then (zlet (Ld_s_placeNames s0 ((vp_updL (Ld_placeNames s0) (Ld_places s0).toNatClampNeg q2.1))) fun y4 => (if zb_in (((Ld_places s0) * (4 : Int32)) + (0 : Int32)) 40 = true then (zlet (Ld_s_placeRows y4 ((upd (Ld_placeRows y4) (((Ld_places s0) * (4 : Int32)) + (0 : Int32)).toNatClampNeg (Rd_key s1)))) fun y6 => (if (Rd_key s1) = (2 : Int32) then ((f_X7_number q2.2 (0 : Int32) (12 : Int32)).bind fun q7 => f_X3_readPlace_b77 y6 q7.2 (Rd_key s1) ((Ld_places s0) * (4 : Int32)) q7.1 (((Ld_places s0) * (4 : Int32)) + (1 : Int32))) else f_X3_readPlace_b77 y6 q2.2 (Rd_key s1) ((Ld_places s0) * (4 : Int32)) (0 : Int32) (((Ld_places s0) * (4 : Int32)) + (1 : Int32)))) else none)) else none))) else ((f_X7_fail s1 (4 : Int32)).bind fun q18 => some (s0, q18)))
set_option maxRecDepth 100000 in
set_option maxHeartbeats 4000000 in
theorem t_X3_readPlace_b125 (l : Launch) (G : zj_G) (a0 : Nat → Nat) (a1 : Nat → Nat) (W0 : List va_W) (r : LdT × RdT) (s0 : LdT) (s1 : RdT)   (x2 : Int32) (z0 : Int32) (z1 : Int32) (hf : f_X3_readPlace_b125 s0 s1 x2 z0 z1 = some r) : zj_J l G M_X3_readPlace W0 (zj_ret G M_X3_readPlace W0 (none) (fun _ => [w_Ld G a0 r.1, w_Rd G a1 r.2])) 0 0 [w_Ld G a0 s0, w_Rd G a1 s1] [some (.ref (a0 0)), none, some (.int x2), none] 125 [.int z0, .int z1, .ref (a0 3)] := by
  unfold f_X3_readPlace_b125 at hf
  obtain ⟨h14, hf⟩ := zck_of hf
  obtain ⟨y15, e15, hf⟩ := zlet_of hf
  refine zr_run [(.iastore, 0, 3, 0, .null)] [] (WW' := [w_Ld G a0 (Ld_s_placeRows s0 ((upd (Ld_placeRows s0) z1.toNatClampNeg z0))), w_Rd G a1 s1]) (lv' := [some (.ref (a0 0)), none, some (.int x2), none]) (pc' := 126) (st' := []) (by decide +kernel) rfl rfl ⟨⟨rfl, rfl, h14⟩, trivial⟩ ?_
  refine zr_eq (WW2 := [w_Ld G a0 y15, w_Rd G a1 s1]) (lv2 := [some (.ref (a0 0)), none, some (.int x2), none]) (st2 := []) (by rw [e15]) rfl rfl ?_
  obtain ⟨y16, e16, hf⟩ := zlet_of hf
  refine zr_run [(.aload_n 0, 0, 0, 0, .null), (.dup, 0, 0, 0, .null), (.getfield 9, 0, 0, 0, .null), (.iconst 1, 0, 0, 0, .int (1 : Int32)), (.iadd, 0, 0, 0, .null), (.putfield 9, 0, 0, 0, .null)] [] (WW' := [w_Ld G a0 (Ld_s_places y15 ((Ld_places y15) + (1 : Int32))), w_Rd G a1 s1]) (lv' := [some (.ref (a0 0)), none, some (.int x2), none]) (pc' := 136) (st' := []) (by decide +kernel) rfl rfl ⟨trivial, trivial, ⟨rfl, rfl, zw_1_152⟩, trivial, trivial, ⟨rfl, rfl, rfl, trivial, rfl, rfl, zw_1_152⟩, trivial⟩ ?_
  refine zr_eq (WW2 := [w_Ld G a0 y16, w_Rd G a1 s1]) (lv2 := [some (.ref (a0 0)), none, some (.int x2), none]) (st2 := []) (by rw [e16]) rfl rfl ?_
  refine zr_run [(.iload_n 2, 0, 0, 0, .null), (.iconst 2, 0, 0, 0, .int (2 : Int32))] [] (WW' := [w_Ld G a0 y16, w_Rd G a1 s1]) (lv' := [some (.ref (a0 0)), none, some (.int x2), none]) (pc' := 138) (st' := [.int (2 : Int32), .int x2]) (by decide +kernel) rfl rfl ⟨trivial, trivial, trivial⟩ ?_
  refine zr_icmp_ne (off := 13) (tgt := 151) (by decide +kernel) (by decide) (fun hc => ?_) (fun hc => ?_)
  · have hf := zift hf hc
    obtain ⟨y17, e17, hf⟩ := zlet_of hf
    refine zr_run [(.aload_n 0, 0, 0, 0, .null), (.dup, 0, 0, 0, .null), (.getfield 21, 0, 0, 3, .null), (.iconst 1, 0, 0, 0, .int (1 : Int32)), (.iadd, 0, 0, 0, .null), (.putfield 21, 0, 0, 3, .null)] [] (WW' := [w_Ld G a0 (Ld_s_ports y16 ((Ld_ports y16) + (1 : Int32))), w_Rd G a1 s1]) (lv' := [some (.ref (a0 0)), none, some (.int x2), none]) (pc' := 151) (st' := []) (by decide +kernel) rfl rfl ⟨trivial, trivial, ⟨rfl, rfl, zw_1_163⟩, trivial, trivial, ⟨rfl, rfl, rfl, trivial, rfl, rfl, zw_1_163⟩, trivial⟩ ?_
    refine zr_eq (WW2 := [w_Ld G a0 y17, w_Rd G a1 s1]) (lv2 := [some (.ref (a0 0)), none, some (.int x2), none]) (st2 := []) (by rw [e17]) rfl rfl ?_
    obtain rfl := Option.some.inj hf
    exact zr_vret (b0 := fun _ => 0) (by decide +kernel) rfl rfl rfl rfl rfl
  · have hf := ziff hf hc
    obtain rfl := Option.some.inj hf
    exact zr_vret (b0 := fun _ => 0) (by decide +kernel) rfl rfl rfl rfl rfl
set_option maxRecDepth 100000 in
set_option maxHeartbeats 4000000 in
theorem t_X3_readPlace_b101 (l : Launch) (G : zj_G) (a0 : Nat → Nat) (a1 : Nat → Nat) (W0 : List va_W) (r : LdT × RdT) (s0 : LdT) (s1 : RdT)   (x2 : Int32) (x3 : Int32) (z0 : Int32) (z1 : Int32) (hf : f_X3_readPlace_b101 s0 s1 x2 x3 z0 z1 = some r) : zj_J l G M_X3_readPlace W0 (zj_ret G M_X3_readPlace W0 (none) (fun _ => [w_Ld G a0 r.1, w_Rd G a1 r.2])) 0 0 [w_Ld G a0 s0, w_Rd G a1 s1] [some (.ref (a0 0)), some (.ref (a1 0)), some (.int x2), some (.int x3)] 101 [.int z0, .int z1, .ref (a0 3)] := by
  unfold f_X3_readPlace_b101 at hf
  obtain ⟨h11, hf⟩ := zck_of hf
  obtain ⟨y12, e12, hf⟩ := zlet_of hf
  refine zr_run [(.iastore, 0, 3, 0, .null)] [] (WW' := [w_Ld G a0 (Ld_s_placeRows s0 ((upd (Ld_placeRows s0) z1.toNatClampNeg z0))), w_Rd G a1 s1]) (lv' := [some (.ref (a0 0)), some (.ref (a1 0)), some (.int x2), some (.int x3)]) (pc' := 102) (st' := []) (by decide +kernel) rfl rfl ⟨⟨rfl, rfl, h11⟩, trivial⟩ ?_
  refine zr_eq (WW2 := [w_Ld G a0 y12, w_Rd G a1 s1]) (lv2 := [some (.ref (a0 0)), some (.ref (a1 0)), some (.int x2), some (.int x3)]) (st2 := []) (by rw [e12]) rfl rfl ?_
  refine zr_run [(.aload_n 0, 0, 0, 0, .null), (.getfield 34, 0, 0, 7, .null), (.iload_n 3, 0, 0, 0, .null), (.iconst 3, 0, 0, 0, .int (3 : Int32)), (.iadd, 0, 0, 0, .null), (.iload_n 2, 0, 0, 0, .null), (.iconst 2, 0, 0, 0, .int (2 : Int32))] [] (WW' := [w_Ld G a0 y12, w_Rd G a1 s1]) (lv' := [some (.ref (a0 0)), some (.ref (a1 0)), some (.int x2), some (.int x3)]) (pc' := 111) (st' := [.int (2 : Int32), .int x2, .int (x3 + (3 : Int32)), .ref (a0 3)]) (by decide +kernel) rfl rfl ⟨trivial, ⟨rfl, rfl, zw_1_171⟩, trivial, trivial, trivial, trivial, trivial, trivial⟩ ?_
  refine zr_icmp_ne (off := 13) (tgt := 124) (by decide +kernel) (by decide) (fun hc => ?_) (fun hc => ?_)
  · have hf := zift hf hc
    obtain ⟨q13, e13, hf⟩ := zbi_of hf
    refine zr_run [(.aload_n 1, 0, 0, 0, .null), (.iconst 1, 0, 0, 0, .int (1 : Int32)), (.bipush 6, 0, 0, 0, .int (6 : Int32))] [] (WW' := [w_Ld G a0 y12, w_Rd G a1 s1]) (lv' := [some (.ref (a0 0)), some (.ref (a1 0)), some (.int x2), some (.int x3)]) (pc' := 118) (st' := [.int (6 : Int32), .int (1 : Int32), .ref (a1 0), .int (x3 + (3 : Int32)), .ref (a0 3)]) (by decide +kernel) rfl rfl ⟨trivial, trivial, trivial, trivial⟩ ?_
    refine zr_callV (c_X7_number l G a1 s1 (1 : Int32) (6 : Int32) q13 e13) (WW' := fun _ => [w_Ld G a0 y12, w_Rd G a1 q13.2]) (st := [.int (x3 + (3 : Int32)), .ref (a0 3)]) (st' := [.int q13.1, .int (x3 + (3 : Int32)), .ref (a0 3)]) [1] rfl rfl (fun _ => Nat.le_of_ble_eq_true rfl) (fun _ => rfl) rfl rfl nm_X7_number zw_3_34 zw_3_35 zw_3_36 zw_1_2 zw_3_37 rfl rfl rfl (Nat.le_of_ble_eq_true rfl) ⟨Nat.le_of_ble_eq_true rfl, Nat.le_of_ble_eq_true rfl⟩ (by decide +kernel) (fun _ => ?_)
    refine zr_goto (off := 4) (tgt := 125) (by decide +kernel) (by decide) ?_
    refine zr_run [] [1, 3] (WW' := [w_Ld G a0 y12, w_Rd G a1 q13.2]) (lv' := [some (.ref (a0 0)), none, some (.int x2), none]) (pc' := 125) (st' := [.int q13.1, .int (x3 + (3 : Int32)), .ref (a0 3)]) (by decide +kernel) rfl rfl trivial ?_
    exact t_X3_readPlace_b125 l G a0 a1 W0 r y12 q13.2 x2 q13.1 (x3 + (3 : Int32)) hf
  · have hf := ziff hf hc
    refine zr_run [(.iconst 0, 0, 0, 0, .int (0 : Int32))] [1, 3] (WW' := [w_Ld G a0 y12, w_Rd G a1 s1]) (lv' := [some (.ref (a0 0)), none, some (.int x2), none]) (pc' := 125) (st' := [.int (0 : Int32), .int (x3 + (3 : Int32)), .ref (a0 3)]) (by decide +kernel) rfl rfl ⟨trivial, trivial⟩ ?_
    exact t_X3_readPlace_b125 l G a0 a1 W0 r y12 s1 x2 (0 : Int32) (x3 + (3 : Int32)) hf
set_option maxRecDepth 100000 in
set_option maxHeartbeats 4000000 in
theorem t_X3_readPlace_b77 (l : Launch) (G : zj_G) (a0 : Nat → Nat) (a1 : Nat → Nat) (W0 : List va_W) (r : LdT × RdT) (s0 : LdT) (s1 : RdT)   (x2 : Int32) (x3 : Int32) (z0 : Int32) (z1 : Int32) (hf : f_X3_readPlace_b77 s0 s1 x2 x3 z0 z1 = some r) : zj_J l G M_X3_readPlace W0 (zj_ret G M_X3_readPlace W0 (none) (fun _ => [w_Ld G a0 r.1, w_Rd G a1 r.2])) 0 0 [w_Ld G a0 s0, w_Rd G a1 s1] [some (.ref (a0 0)), some (.ref (a1 0)), some (.int x2), some (.int x3)] 77 [.int z0, .int z1, .ref (a0 3)] := by
  unfold f_X3_readPlace_b77 at hf
  obtain ⟨h8, hf⟩ := zck_of hf
  obtain ⟨y9, e9, hf⟩ := zlet_of hf
  refine zr_run [(.iastore, 0, 3, 0, .null)] [] (WW' := [w_Ld G a0 (Ld_s_placeRows s0 ((upd (Ld_placeRows s0) z1.toNatClampNeg z0))), w_Rd G a1 s1]) (lv' := [some (.ref (a0 0)), some (.ref (a1 0)), some (.int x2), some (.int x3)]) (pc' := 78) (st' := []) (by decide +kernel) rfl rfl ⟨⟨rfl, rfl, h8⟩, trivial⟩ ?_
  refine zr_eq (WW2 := [w_Ld G a0 y9, w_Rd G a1 s1]) (lv2 := [some (.ref (a0 0)), some (.ref (a1 0)), some (.int x2), some (.int x3)]) (st2 := []) (by rw [e9]) rfl rfl ?_
  refine zr_run [(.aload_n 0, 0, 0, 0, .null), (.getfield 34, 0, 0, 7, .null), (.iload_n 3, 0, 0, 0, .null), (.iconst 2, 0, 0, 0, .int (2 : Int32)), (.iadd, 0, 0, 0, .null), (.iload_n 2, 0, 0, 0, .null), (.iconst 2, 0, 0, 0, .int (2 : Int32))] [] (WW' := [w_Ld G a0 y9, w_Rd G a1 s1]) (lv' := [some (.ref (a0 0)), some (.ref (a1 0)), some (.int x2), some (.int x3)]) (pc' := 87) (st' := [.int (2 : Int32), .int x2, .int (x3 + (2 : Int32)), .ref (a0 3)]) (by decide +kernel) rfl rfl ⟨trivial, ⟨rfl, rfl, zw_1_171⟩, trivial, trivial, trivial, trivial, trivial, trivial⟩ ?_
  refine zr_icmp_ne (off := 13) (tgt := 100) (by decide +kernel) (by decide) (fun hc => ?_) (fun hc => ?_)
  · have hf := zift hf hc
    obtain ⟨q10, e10, hf⟩ := zbi_of hf
    refine zr_run [(.aload_n 1, 0, 0, 0, .null), (.iconst 0, 0, 0, 0, .int (0 : Int32)), (.bipush 99, 0, 0, 0, .int (99 : Int32))] [] (WW' := [w_Ld G a0 y9, w_Rd G a1 s1]) (lv' := [some (.ref (a0 0)), some (.ref (a1 0)), some (.int x2), some (.int x3)]) (pc' := 94) (st' := [.int (99 : Int32), .int (0 : Int32), .ref (a1 0), .int (x3 + (2 : Int32)), .ref (a0 3)]) (by decide +kernel) rfl rfl ⟨trivial, trivial, trivial, trivial⟩ ?_
    refine zr_callV (c_X7_number l G a1 s1 (0 : Int32) (99 : Int32) q10 e10) (WW' := fun _ => [w_Ld G a0 y9, w_Rd G a1 q10.2]) (st := [.int (x3 + (2 : Int32)), .ref (a0 3)]) (st' := [.int q10.1, .int (x3 + (2 : Int32)), .ref (a0 3)]) [1] rfl rfl (fun _ => Nat.le_of_ble_eq_true rfl) (fun _ => rfl) rfl rfl nm_X7_number zw_3_34 zw_3_35 zw_3_36 zw_1_2 zw_3_37 rfl rfl rfl (Nat.le_of_ble_eq_true rfl) ⟨Nat.le_of_ble_eq_true rfl, Nat.le_of_ble_eq_true rfl⟩ (by decide +kernel) (fun _ => ?_)
    refine zr_goto (off := 4) (tgt := 101) (by decide +kernel) (by decide) ?_
    exact t_X3_readPlace_b101 l G a0 a1 W0 r y9 q10.2 x2 x3 q10.1 (x3 + (2 : Int32)) hf
  · have hf := ziff hf hc
    refine zr_run [(.iconst 0, 0, 0, 0, .int (0 : Int32))] [] (WW' := [w_Ld G a0 y9, w_Rd G a1 s1]) (lv' := [some (.ref (a0 0)), some (.ref (a1 0)), some (.int x2), some (.int x3)]) (pc' := 101) (st' := [.int (0 : Int32), .int (x3 + (2 : Int32)), .ref (a0 3)]) (by decide +kernel) rfl rfl ⟨trivial, trivial⟩ ?_
    exact t_X3_readPlace_b101 l G a0 a1 W0 r y9 s1 x2 x3 (0 : Int32) (x3 + (2 : Int32)) hf
set_option maxRecDepth 100000 in
set_option maxHeartbeats 4000000 in
theorem c_X3_readPlace (l : Launch) (G : zj_G) (a0 : Nat → Nat) (a1 : Nat → Nat) (s0 : LdT) (s1 : RdT)  (r : LdT × RdT) (hf : f_X3_readPlace s0 s1 = some r) : zj_C l G M_X3_readPlace yX3_readPlace [w_Ld G a0 s0, w_Rd G a1 s1] [.ref (a0 0), .ref (a1 0)] (none) (fun _ => [w_Ld G a0 r.1, w_Rd G a1 r.2]) := by
  have key : ∀ W0 : List va_W, zj_J l G M_X3_readPlace W0 (zj_ret G M_X3_readPlace W0 (none) (fun _ => [w_Ld G a0 r.1, w_Rd G a1 r.2])) 0 0 [w_Ld G a0 s0, w_Rd G a1 s1] [some (.ref (a0 0)), some (.ref (a1 0)), none, none] 0 [] := by
    intro W0
    unfold f_X3_readPlace at hf
    refine zr_run [(.aload_n 0, 0, 0, 0, .null), (.getfield 9, 0, 0, 0, .null), (.bipush 10, 0, 0, 0, .int (10 : Int32))] [] (WW' := [w_Ld G a0 s0, w_Rd G a1 s1]) (lv' := [some (.ref (a0 0)), some (.ref (a1 0)), none, none]) (pc' := 6) (st' := [.int (10 : Int32), .int (Ld_places s0)]) (by decide +kernel) rfl rfl ⟨trivial, ⟨rfl, rfl, zw_1_152⟩, trivial, trivial⟩ ?_
    refine zr_icmp_lt (off := 9) (tgt := 15) (by decide +kernel) (by decide) (fun hc => ?_) (fun hc => ?_)
    · have hf := zift hf hc
      obtain ⟨q1, e1, hf⟩ := zbi_of hf
      refine zr_run [(.aload_n 1, 0, 0, 0, .null), (.getfield 106, 1, 0, 8, .null), (.istore_n 2, 0, 0, 0, .null), (.aload_n 0, 0, 0, 0, .null), (.getfield 9, 0, 0, 0, .null), (.iconst 4, 0, 0, 0, .int (4 : Int32)), (.imul, 0, 0, 0, .null), (.istore_n 3, 0, 0, 0, .null), (.aload_n 1, 0, 0, 0, .null)] [] (WW' := [w_Ld G a0 s0, w_Rd G a1 s1]) (lv' := [some (.ref (a0 0)), some (.ref (a1 0)), some (.int (Rd_key s1)), some (.int ((Ld_places s0) * (4 : Int32)))]) (pc' := 28) (st' := [.ref (a1 0)]) (by decide +kernel) rfl rfl ⟨trivial, ⟨rfl, rfl, zw_1_106⟩, trivial, trivial, ⟨rfl, rfl, zw_1_152⟩, trivial, trivial, trivial, trivial, trivial⟩ ?_
      refine zr_callV (c_X7_advance l G a1 s1 q1 e1) (WW' := fun _ => [w_Ld G a0 s0, w_Rd G a1 q1]) (st := []) (st' := []) [1] rfl rfl (fun _ => Nat.le_of_ble_eq_true rfl) (fun _ => rfl) rfl rfl nm_X7_advance zw_3_21 zw_2_237 zw_2_238 zw_1_2 zw_2_239 rfl rfl rfl (Nat.le_of_ble_eq_true rfl) ⟨Nat.le_of_ble_eq_true rfl, Nat.le_of_ble_eq_true rfl⟩ (by decide +kernel) (fun _ => ?_)
      obtain ⟨q2, e2, hf⟩ := zbi_of hf
      refine zr_run [(.aload_n 0, 0, 0, 0, .null), (.getfield 27, 0, 0, 5, .null), (.aload_n 0, 0, 0, 0, .null), (.getfield 9, 0, 0, 0, .null), (.aload_n 0, 0, 0, 0, .null), (.aload_n 1, 0, 0, 0, .null)] [] (WW' := [w_Ld G a0 s0, w_Rd G a1 q1]) (lv' := [some (.ref (a0 0)), some (.ref (a1 0)), some (.int (Rd_key s1)), some (.int ((Ld_places s0) * (4 : Int32)))]) (pc' := 41) (st' := [.ref (a1 0), .ref (a0 0), .int (Ld_places s0), .ref (a0 1)]) (by decide +kernel) rfl rfl ⟨trivial, ⟨rfl, rfl, zw_1_167⟩, trivial, ⟨rfl, rfl, zw_1_152⟩, trivial, trivial, trivial⟩ ?_
      refine zr_callV (c_X3_freshName l G a0 a1 s0 q1 q2 e2) (WW' := fun _ => [w_Ld G a0 s0, w_Rd G a1 q2.2]) (st := [.int (Ld_places s0), .ref (a0 1)]) (st' := [.long q2.1, .int (Ld_places s0), .ref (a0 1)]) [0, 1] rfl rfl (fun _ => Nat.le_of_ble_eq_true rfl) (fun _ => rfl) rfl rfl nm_X3_freshName zw_3_22 zw_3_24 zw_0_3 zw_1_7 zw_3_25 rfl rfl rfl (Nat.le_of_ble_eq_true rfl) ⟨Nat.le_of_ble_eq_true rfl, Nat.le_of_ble_eq_true rfl⟩ (by decide +kernel) (fun _ => ?_)
      obtain ⟨h3, hf⟩ := zck_of hf
      obtain ⟨y4, e4, hf⟩ := zlet_of hf
      refine zr_run [(.lastore, 0, 1, 0, .null)] [] (WW' := [w_Ld G a0 (Ld_s_placeNames s0 ((vp_updL (Ld_placeNames s0) (Ld_places s0).toNatClampNeg q2.1))), w_Rd G a1 q2.2]) (lv' := [some (.ref (a0 0)), some (.ref (a1 0)), some (.int (Rd_key s1)), some (.int ((Ld_places s0) * (4 : Int32)))]) (pc' := 45) (st' := []) (by decide +kernel) rfl rfl ⟨⟨rfl, rfl, h3⟩, trivial⟩ ?_
      refine zr_eq (WW2 := [w_Ld G a0 y4, w_Rd G a1 q2.2]) (lv2 := [some (.ref (a0 0)), some (.ref (a1 0)), some (.int (Rd_key s1)), some (.int ((Ld_places s0) * (4 : Int32)))]) (st2 := []) (by rw [e4]) rfl rfl ?_
      obtain ⟨h5, hf⟩ := zck_of hf
      obtain ⟨y6, e6, hf⟩ := zlet_of hf
      refine zr_run [(.aload_n 0, 0, 0, 0, .null), (.getfield 34, 0, 0, 7, .null), (.iload_n 3, 0, 0, 0, .null), (.iconst 0, 0, 0, 0, .int (0 : Int32)), (.iadd, 0, 0, 0, .null), (.iload_n 2, 0, 0, 0, .null), (.iastore, 0, 3, 0, .null)] [] (WW' := [w_Ld G a0 (Ld_s_placeRows y4 ((upd (Ld_placeRows y4) (((Ld_places s0) * (4 : Int32)) + (0 : Int32)).toNatClampNeg (Rd_key s1)))), w_Rd G a1 q2.2]) (lv' := [some (.ref (a0 0)), some (.ref (a1 0)), some (.int (Rd_key s1)), some (.int ((Ld_places s0) * (4 : Int32)))]) (pc' := 54) (st' := []) (by decide +kernel) rfl rfl ⟨trivial, ⟨rfl, rfl, zw_1_171⟩, trivial, trivial, trivial, trivial, ⟨rfl, rfl, h5⟩, trivial⟩ ?_
      refine zr_eq (WW2 := [w_Ld G a0 y6, w_Rd G a1 q2.2]) (lv2 := [some (.ref (a0 0)), some (.ref (a1 0)), some (.int (Rd_key s1)), some (.int ((Ld_places s0) * (4 : Int32)))]) (st2 := []) (by rw [e6]) rfl rfl ?_
      refine zr_run [(.aload_n 0, 0, 0, 0, .null), (.getfield 34, 0, 0, 7, .null), (.iload_n 3, 0, 0, 0, .null), (.iconst 1, 0, 0, 0, .int (1 : Int32)), (.iadd, 0, 0, 0, .null), (.iload_n 2, 0, 0, 0, .null), (.iconst 2, 0, 0, 0, .int (2 : Int32))] [] (WW' := [w_Ld G a0 y6, w_Rd G a1 q2.2]) (lv' := [some (.ref (a0 0)), some (.ref (a1 0)), some (.int (Rd_key s1)), some (.int ((Ld_places s0) * (4 : Int32)))]) (pc' := 63) (st' := [.int (2 : Int32), .int (Rd_key s1), .int (((Ld_places s0) * (4 : Int32)) + (1 : Int32)), .ref (a0 3)]) (by decide +kernel) rfl rfl ⟨trivial, ⟨rfl, rfl, zw_1_171⟩, trivial, trivial, trivial, trivial, trivial, trivial⟩ ?_
      refine zr_icmp_ne (off := 13) (tgt := 76) (by decide +kernel) (by decide) (fun hc => ?_) (fun hc => ?_)
      · have hf := zift hf hc
        obtain ⟨q7, e7, hf⟩ := zbi_of hf
        refine zr_run [(.aload_n 1, 0, 0, 0, .null), (.iconst 0, 0, 0, 0, .int (0 : Int32)), (.bipush 12, 0, 0, 0, .int (12 : Int32))] [] (WW' := [w_Ld G a0 y6, w_Rd G a1 q2.2]) (lv' := [some (.ref (a0 0)), some (.ref (a1 0)), some (.int (Rd_key s1)), some (.int ((Ld_places s0) * (4 : Int32)))]) (pc' := 70) (st' := [.int (12 : Int32), .int (0 : Int32), .ref (a1 0), .int (((Ld_places s0) * (4 : Int32)) + (1 : Int32)), .ref (a0 3)]) (by decide +kernel) rfl rfl ⟨trivial, trivial, trivial, trivial⟩ ?_
        refine zr_callV (c_X7_number l G a1 q2.2 (0 : Int32) (12 : Int32) q7 e7) (WW' := fun _ => [w_Ld G a0 y6, w_Rd G a1 q7.2]) (st := [.int (((Ld_places s0) * (4 : Int32)) + (1 : Int32)), .ref (a0 3)]) (st' := [.int q7.1, .int (((Ld_places s0) * (4 : Int32)) + (1 : Int32)), .ref (a0 3)]) [1] rfl rfl (fun _ => Nat.le_of_ble_eq_true rfl) (fun _ => rfl) rfl rfl nm_X7_number zw_3_34 zw_3_35 zw_3_36 zw_1_2 zw_3_37 rfl rfl rfl (Nat.le_of_ble_eq_true rfl) ⟨Nat.le_of_ble_eq_true rfl, Nat.le_of_ble_eq_true rfl⟩ (by decide +kernel) (fun _ => ?_)
        refine zr_goto (off := 4) (tgt := 77) (by decide +kernel) (by decide) ?_
        exact t_X3_readPlace_b77 l G a0 a1 W0 r y6 q7.2 (Rd_key s1) ((Ld_places s0) * (4 : Int32)) q7.1 (((Ld_places s0) * (4 : Int32)) + (1 : Int32)) hf
      · have hf := ziff hf hc
        refine zr_run [(.iconst 0, 0, 0, 0, .int (0 : Int32))] [] (WW' := [w_Ld G a0 y6, w_Rd G a1 q2.2]) (lv' := [some (.ref (a0 0)), some (.ref (a1 0)), some (.int (Rd_key s1)), some (.int ((Ld_places s0) * (4 : Int32)))]) (pc' := 77) (st' := [.int (0 : Int32), .int (((Ld_places s0) * (4 : Int32)) + (1 : Int32)), .ref (a0 3)]) (by decide +kernel) rfl rfl ⟨trivial, trivial⟩ ?_
        exact t_X3_readPlace_b77 l G a0 a1 W0 r y6 q2.2 (Rd_key s1) ((Ld_places s0) * (4 : Int32)) (0 : Int32) (((Ld_places s0) * (4 : Int32)) + (1 : Int32)) hf
    · have hf := ziff hf hc
      obtain ⟨q18, e18, hf⟩ := zbi_of hf
      refine zr_run [(.aload_n 1, 0, 0, 0, .null), (.iconst 4, 0, 0, 0, .int (4 : Int32))] [] (WW' := [w_Ld G a0 s0, w_Rd G a1 s1]) (lv' := [some (.ref (a0 0)), some (.ref (a1 0)), none, none]) (pc' := 11) (st' := [.int (4 : Int32), .ref (a1 0)]) (by decide +kernel) rfl rfl ⟨trivial, trivial, trivial⟩ ?_
      refine zr_callV (c_X7_fail l G a1 s1 (4 : Int32) q18 e18) (WW' := fun _ => [w_Ld G a0 s0, w_Rd G a1 q18]) (st := []) (st' := []) [1] rfl rfl (fun _ => Nat.le_of_ble_eq_true rfl) (fun _ => rfl) rfl rfl nm_X7_fail zw_3_20 zw_3_9 zw_3_10 zw_1_2 zw_3_11 rfl rfl rfl (Nat.le_of_ble_eq_true rfl) ⟨Nat.le_of_ble_eq_true rfl, Nat.le_of_ble_eq_true rfl⟩ (by decide +kernel) (fun _ => ?_)
      obtain rfl := Option.some.inj hf
      exact zr_vret (b0 := fun _ => 0) (by decide +kernel) rfl rfl rfl rfl rfl
  exact zj_entry [some (.ref (a0 0)), some (.ref (a1 0)), none, none] (by decide +kernel) rfl (by decide) (Nat.le_of_ble_eq_true rfl) rfl rfl (key _)
def M_X3_knownPlace : zj_M := (RX3, cX3_knownPlace, 3, (some .int), { frames := 1, cells := 0, slots := 0, locals := 23 }, false)
theorem nm_X3_knownPlace : zj_nm yX3_knownPlace 1 := ⟨by decide +kernel, by decide +kernel, by decide +kernel⟩
def f_X3_knownPlace_b34  (s0 : LdT) (s1 : RdT)  (z0 : Int32) : Option (Int32 × RdT) := (if z0 = (-1 : Int32) then ((f_X7_fail s1 (3 : Int32)).bind fun q2 => some (z0, q2)) else some (z0, s1))
def f_X3_knownPlace  (s0 : LdT) (s1 : RdT)  : Option (Int32 × RdT) := (if (Rd_kind s1) = (3 : Int32) then (if (Rd_fault s1) = 0 then ((f_X3_placeNamed s0 (Rd_name s1)).bind fun q1 => f_X3_knownPlace_b34 s0 s1 q1) else f_X3_knownPlace_b34 s0 s1 (-1 : Int32)) else ((f_X7_fail s1 (1 : Int32)).bind fun q3 => some ((-1 : Int32), q3)))
set_option maxRecDepth 100000 in
set_option maxHeartbeats 4000000 in
theorem t_X3_knownPlace_b34 (l : Launch) (G : zj_G) (a0 : Nat → Nat) (a1 : Nat → Nat) (W0 : List va_W) (r : Int32 × RdT) (s0 : LdT) (s1 : RdT)   (z0 : Int32) (hf : f_X3_knownPlace_b34 s0 s1 z0 = some r) : zj_J l G M_X3_knownPlace W0 (zj_ret G M_X3_knownPlace W0 (some (.int r.1)) (fun _ => [w_Ld G a0 s0, w_Rd G a1 r.2])) 0 0 [w_Ld G a0 s0, w_Rd G a1 s1] [none, some (.ref (a1 0)), none] 34 [.int z0] := by
  unfold f_X3_knownPlace_b34 at hf
  refine zr_run [(.istore_n 2, 0, 0, 0, .null), (.iload_n 2, 0, 0, 0, .null), (.iconst (-1), 0, 0, 0, .int (-1 : Int32))] [] (WW' := [w_Ld G a0 s0, w_Rd G a1 s1]) (lv' := [none, some (.ref (a1 0)), some (.int z0)]) (pc' := 37) (st' := [.int (-1 : Int32), .int z0]) (by decide +kernel) rfl rfl ⟨trivial, trivial, trivial, trivial⟩ ?_
  refine zr_icmp_ne (off := 8) (tgt := 45) (by decide +kernel) (by decide) (fun hc => ?_) (fun hc => ?_)
  · have hf := zift hf hc
    obtain ⟨q2, e2, hf⟩ := zbi_of hf
    refine zr_run [(.aload_n 1, 0, 0, 0, .null), (.iconst 3, 0, 0, 0, .int (3 : Int32))] [] (WW' := [w_Ld G a0 s0, w_Rd G a1 s1]) (lv' := [none, some (.ref (a1 0)), some (.int z0)]) (pc' := 42) (st' := [.int (3 : Int32), .ref (a1 0)]) (by decide +kernel) rfl rfl ⟨trivial, trivial, trivial⟩ ?_
    refine zr_callV (c_X7_fail l G a1 s1 (3 : Int32) q2 e2) (WW' := fun _ => [w_Ld G a0 s0, w_Rd G a1 q2]) (st := []) (st' := []) [1] rfl rfl (fun _ => Nat.le_of_ble_eq_true rfl) (fun _ => rfl) rfl rfl nm_X7_fail zw_3_20 zw_3_9 zw_3_10 zw_1_2 zw_3_11 rfl rfl rfl (Nat.le_of_ble_eq_true rfl) ⟨Nat.le_of_ble_eq_true rfl, Nat.le_of_ble_eq_true rfl⟩ (by decide +kernel) (fun _ => ?_)
    refine zr_run [(.iload_n 2, 0, 0, 0, .null)] [] (WW' := [w_Ld G a0 s0, w_Rd G a1 q2]) (lv' := [none, some (.ref (a1 0)), some (.int z0)]) (pc' := 46) (st' := [.int z0]) (by decide +kernel) rfl rfl ⟨trivial, trivial⟩ ?_
    obtain rfl := Option.some.inj hf
    exact zr_iret (b0 := fun _ => 0) (by decide +kernel) rfl rfl rfl rfl rfl
  · have hf := ziff hf hc
    refine zr_run [(.iload_n 2, 0, 0, 0, .null)] [] (WW' := [w_Ld G a0 s0, w_Rd G a1 s1]) (lv' := [none, some (.ref (a1 0)), some (.int z0)]) (pc' := 46) (st' := [.int z0]) (by decide +kernel) rfl rfl ⟨trivial, trivial⟩ ?_
    obtain rfl := Option.some.inj hf
    exact zr_iret (b0 := fun _ => 0) (by decide +kernel) rfl rfl rfl rfl rfl
set_option maxRecDepth 100000 in
set_option maxHeartbeats 4000000 in
theorem c_X3_knownPlace (l : Launch) (G : zj_G) (a0 : Nat → Nat) (a1 : Nat → Nat) (s0 : LdT) (s1 : RdT)  (r : Int32 × RdT) (hf : f_X3_knownPlace s0 s1 = some r) : zj_C l G M_X3_knownPlace yX3_knownPlace [w_Ld G a0 s0, w_Rd G a1 s1] [.ref (a0 0), .ref (a1 0)] (some (.int r.1)) (fun _ => [w_Ld G a0 s0, w_Rd G a1 r.2]) := by
  have key : ∀ W0 : List va_W, zj_J l G M_X3_knownPlace W0 (zj_ret G M_X3_knownPlace W0 (some (.int r.1)) (fun _ => [w_Ld G a0 s0, w_Rd G a1 r.2])) 0 0 [w_Ld G a0 s0, w_Rd G a1 s1] [some (.ref (a0 0)), some (.ref (a1 0)), none] 0 [] := by
    intro W0
    unfold f_X3_knownPlace at hf
    refine zr_run [(.aload_n 1, 0, 0, 0, .null), (.getfield 147, 1, 0, 6, .null), (.iconst 3, 0, 0, 0, .int (3 : Int32))] [] (WW' := [w_Ld G a0 s0, w_Rd G a1 s1]) (lv' := [some (.ref (a0 0)), some (.ref (a1 0)), none]) (pc' := 5) (st' := [.int (3 : Int32), .int (Rd_kind s1)]) (by decide +kernel) rfl rfl ⟨trivial, ⟨rfl, rfl, zw_1_101⟩, trivial, trivial⟩ ?_
    refine zr_icmp_eq (off := 10) (tgt := 15) (by decide +kernel) (by decide) (fun hc => ?_) (fun hc => ?_)
    · have hf := zift hf hc
      refine zr_run [(.aload_n 1, 0, 0, 0, .null), (.getfield 97, 1, 0, 11, .null)] [] (WW' := [w_Ld G a0 s0, w_Rd G a1 s1]) (lv' := [some (.ref (a0 0)), some (.ref (a1 0)), none]) (pc' := 19) (st' := [.int (Rd_fault s1)]) (by decide +kernel) rfl rfl ⟨trivial, ⟨rfl, rfl, zw_1_114⟩, trivial⟩ ?_
      refine zr_if_ne (off := 14) (tgt := 33) (by decide +kernel) (by decide) (fun hc => ?_) (fun hc => ?_)
      · have hf := zift hf hc
        obtain ⟨q1, e1, hf⟩ := zbi_of hf
        refine zr_run [(.aload_n 0, 0, 0, 0, .null), (.aload_n 1, 0, 0, 0, .null), (.getfield 150, 1, 0, 10, .null)] [] (WW' := [w_Ld G a0 s0, w_Rd G a1 s1]) (lv' := [some (.ref (a0 0)), some (.ref (a1 0)), none]) (pc' := 27) (st' := [.long (Rd_name s1), .ref (a0 0)]) (by decide +kernel) rfl rfl ⟨trivial, trivial, ⟨rfl, rfl, zw_1_109⟩, trivial⟩ ?_
        refine zr_callV (c_X3_placeNamed l G a0 s0 (Rd_name s1) q1 e1) (WW' := fun _ => [w_Ld G a0 s0, w_Rd G a1 s1]) (st := []) (st' := [.int q1]) [0] rfl rfl (fun _ => Nat.le_of_ble_eq_true rfl) (fun _ => rfl) rfl rfl nm_X3_placeNamed zw_3_26 zw_3_27 zw_3_28 zw_1_7 zw_3_29 rfl rfl rfl (Nat.le_of_ble_eq_true rfl) ⟨Nat.le_of_ble_eq_true rfl, Nat.le_of_ble_eq_true rfl⟩ (by decide +kernel) (fun _ => ?_)
        refine zr_goto (off := 4) (tgt := 34) (by decide +kernel) (by decide) ?_
        refine zr_run [] [0] (WW' := [w_Ld G a0 s0, w_Rd G a1 s1]) (lv' := [none, some (.ref (a1 0)), none]) (pc' := 34) (st' := [.int q1]) (by decide +kernel) rfl rfl trivial ?_
        exact t_X3_knownPlace_b34 l G a0 a1 W0 r s0 s1 q1 hf
      · have hf := ziff hf hc
        refine zr_run [(.iconst (-1), 0, 0, 0, .int (-1 : Int32))] [0] (WW' := [w_Ld G a0 s0, w_Rd G a1 s1]) (lv' := [none, some (.ref (a1 0)), none]) (pc' := 34) (st' := [.int (-1 : Int32)]) (by decide +kernel) rfl rfl ⟨trivial, trivial⟩ ?_
        exact t_X3_knownPlace_b34 l G a0 a1 W0 r s0 s1 (-1 : Int32) hf
    · have hf := ziff hf hc
      obtain ⟨q3, e3, hf⟩ := zbi_of hf
      refine zr_run [(.aload_n 1, 0, 0, 0, .null), (.iconst 1, 0, 0, 0, .int (1 : Int32))] [] (WW' := [w_Ld G a0 s0, w_Rd G a1 s1]) (lv' := [some (.ref (a0 0)), some (.ref (a1 0)), none]) (pc' := 10) (st' := [.int (1 : Int32), .ref (a1 0)]) (by decide +kernel) rfl rfl ⟨trivial, trivial, trivial⟩ ?_
      refine zr_callV (c_X7_fail l G a1 s1 (1 : Int32) q3 e3) (WW' := fun _ => [w_Ld G a0 s0, w_Rd G a1 q3]) (st := []) (st' := []) [1] rfl rfl (fun _ => Nat.le_of_ble_eq_true rfl) (fun _ => rfl) rfl rfl nm_X7_fail zw_3_20 zw_3_9 zw_3_10 zw_1_2 zw_3_11 rfl rfl rfl (Nat.le_of_ble_eq_true rfl) ⟨Nat.le_of_ble_eq_true rfl, Nat.le_of_ble_eq_true rfl⟩ (by decide +kernel) (fun _ => ?_)
      refine zr_run [(.iconst (-1), 0, 0, 0, .int (-1 : Int32))] [] (WW' := [w_Ld G a0 s0, w_Rd G a1 q3]) (lv' := [some (.ref (a0 0)), some (.ref (a1 0)), none]) (pc' := 14) (st' := [.int (-1 : Int32)]) (by decide +kernel) rfl rfl ⟨trivial, trivial⟩ ?_
      obtain rfl := Option.some.inj hf
      exact zr_iret (b0 := fun _ => 0) (by decide +kernel) rfl rfl rfl rfl rfl
  exact zj_entry [some (.ref (a0 0)), some (.ref (a1 0)), none] (by decide +kernel) rfl (by decide) (Nat.le_of_ble_eq_true rfl) rfl rfl (key _)
def M_X3_readRoad : zj_M := (RX3, cX3_readRoad, 5, none, { frames := 3, cells := 0, slots := 0, locals := 67 }, false)
theorem nm_X3_readRoad : zj_nm yX3_readRoad 1 := ⟨by decide +kernel, by decide +kernel, by decide +kernel⟩
def f_X3_readRoad_b171  (s0 : LdT) (s1 : RdT)  (x2 : Int32) (x3 : Int32) : Option (LdT × RdT) := (if zb_in ((x2 * (10 : Int32)) + x3) 100 = true then (zlet (Ld_s_between s0 ((upd (Ld_between s0) ((x2 * (10 : Int32)) + x3).toNatClampNeg (Ld_roads s0)))) fun y24 => (if zb_in ((x3 * (10 : Int32)) + x2) 100 = true then (zlet (Ld_s_between y24 ((upd (Ld_between y24) ((x3 * (10 : Int32)) + x2).toNatClampNeg (Ld_roads y24)))) fun y26 => (zlet (Ld_s_roads y26 ((Ld_roads y26) + (1 : Int32))) fun y27 => some (y27, s1))) else none)) else none)
def f_X3_readRoad  (s0 : LdT) (s1 : RdT)  : Option (LdT × RdT) := (if (Ld_roads s0) < (16 : Int32) then ((f_X7_advance s1).bind fun q1 => ((f_X3_knownPlace s0 q1).bind fun q2 => (if q2.1 = (-1 : Int32) then some (s0, q2.2) else ((f_X7_advance q2.2).bind fun q3 => ((f_X3_knownPlace s0 q3).bind fun q4 => (if q4.1 = (-1 : Int32) then some (s0, q4.2) else (if q2.1 = q4.1 then ((f_X7_fail q4.2 (3 : Int32)).bind fun q5 => some (s0, q5)) else ((f_X3_roadBetween s0 q2.1 q4.1).bind fun q6 => (if q6 = (-1 : Int32) then ((f_X7_advance q4.2).bind fun q7 => (if zb_in (((Ld_roads s0) * (5 : Int32)) + (0 : Int32)) 80 = true then (zlet (Ld_s_roadRows s0 ((upd (Ld_roadRows s0) (((Ld_roads s0) * (5 : Int32)) + (0 : Int32)).toNatClampNeg q2.1))) fun y9 => (if zb_in (((Ld_roads s0) * (5 : Int32)) + (1 : Int32)) 80 = true then (zlet (Ld_s_roadRows y9 ((upd (Ld_roadRows y9) (((Ld_roads s0) * (5 : Int32)) + (1 : Int32)).toNatClampNeg q4.1))) fun y11 => ((f_X7_number q7 (1 : Int32) (30 : Int32)).bind fun q12 => (if zb_in (((Ld_roads s0) * (5 : Int32)) + (2 : Int32)) 80 = true then (zlet (Ld_s_roadRows y11 ((upd (Ld_roadRows y11) (((Ld_roads s0) * (5 : Int32)) + (2 : Int32)).toNatClampNeg q12.1))) fun y14 => ((f_X7_number q12.2 (0 : Int32) (12 : Int32)).bind fun q15 => (if zb_in (((Ld_roads s0) * (5 : Int32)) + (3 : Int32)) 80 = true then (zlet (Ld_s_roadRows y14 ((upd (Ld_roadRows y14) (((Ld_roads s0) * (5 : Int32)) + (3 : Int32)).toNatClampNeg q15.1))) fun y17 => (if zb_in (((Ld_roads s0) * (5 : Int32)) + (4 : Int32)) 80 = true then (zlet (Ld_s_roadRows y17 ((upd (Ld_roadRows y17) (((Ld_roads s0) * (5 : Int32)) + (4 : Int32)).toNatClampNeg (0 : Int32)))) fun y19 => (if (Rd_fault q15.2) = 0 then (if (Rd_key q15.2) = (4 : Int32) then (if zb_in (((Ld_roads s0) * (5 : Int32)) + (4 : Int32)) 80 = true then (zlet (Ld_s_roadRows y19 ((upd (Ld_roadRows y19) (((Ld_roads s0) * (5 : Int32)) + (4 : Int32)).toNatClampNeg (1 : Int32)))) fun y21 => ((f_X7_advance q15.2).bind fun q22 => f_X3_readRoad_b171 y21 q22 q2.1 q4.1)) else none) else f_X3_readRoad_b171 y19 q15.2 q2.1 q4.1) else f_X3_readRoad_b171 y19 q15.2 q2.1 q4.1)) else none)) else none))) else none))) else none)) else none)) else ((f_X7_fail q4.2 (3 : Int32)).bind fun q28 => some (s0, q28))))))))))) else ((f_X7_fail s1 (4 : Int32)).bind fun q29 => some (s0, q29)))
set_option maxRecDepth 100000 in
set_option maxHeartbeats 4000000 in
theorem t_X3_readRoad_b171 (l : Launch) (G : zj_G) (a0 : Nat → Nat) (a1 : Nat → Nat) (W0 : List va_W) (r : LdT × RdT) (s0 : LdT) (s1 : RdT)   (x2 : Int32) (x3 : Int32) (hf : f_X3_readRoad_b171 s0 s1 x2 x3 = some r) : zj_J l G M_X3_readRoad W0 (zj_ret G M_X3_readRoad W0 (none) (fun _ => [w_Ld G a0 r.1, w_Rd G a1 r.2])) 0 0 [w_Ld G a0 s0, w_Rd G a1 s1] [some (.ref (a0 0)), none, some (.int x2), some (.int x3), none] 171 [] := by
  unfold f_X3_readRoad_b171 at hf
  obtain ⟨h23, hf⟩ := zck_of hf
  obtain ⟨y24, e24, hf⟩ := zlet_of hf
  refine zr_run [(.aload_n 0, 0, 0, 0, .null), (.getfield 44, 0, 0, 10, .null), (.iload_n 2, 0, 0, 0, .null), (.bipush 10, 0, 0, 0, .int (10 : Int32)), (.imul, 0, 0, 0, .null), (.iload_n 3, 0, 0, 0, .null), (.iadd, 0, 0, 0, .null), (.aload_n 0, 0, 0, 0, .null), (.getfield 15, 0, 0, 1, .null), (.iastore, 0, 6, 0, .null)] [] (WW' := [w_Ld G a0 (Ld_s_between s0 ((upd (Ld_between s0) ((x2 * (10 : Int32)) + x3).toNatClampNeg (Ld_roads s0)))), w_Rd G a1 s1]) (lv' := [some (.ref (a0 0)), none, some (.int x2), some (.int x3), none]) (pc' := 186) (st' := []) (by decide +kernel) rfl rfl ⟨trivial, ⟨rfl, rfl, zw_1_174⟩, trivial, trivial, trivial, trivial, trivial, trivial, ⟨rfl, rfl, zw_1_155⟩, ⟨rfl, rfl, h23⟩, trivial⟩ ?_
  refine zr_eq (WW2 := [w_Ld G a0 y24, w_Rd G a1 s1]) (lv2 := [some (.ref (a0 0)), none, some (.int x2), some (.int x3), none]) (st2 := []) (by rw [e24]) rfl rfl ?_
  obtain ⟨h25, hf⟩ := zck_of hf
  obtain ⟨y26, e26, hf⟩ := zlet_of hf
  refine zr_run [(.aload_n 0, 0, 0, 0, .null), (.getfield 44, 0, 0, 10, .null), (.iload_n 3, 0, 0, 0, .null), (.bipush 10, 0, 0, 0, .int (10 : Int32)), (.imul, 0, 0, 0, .null), (.iload_n 2, 0, 0, 0, .null), (.iadd, 0, 0, 0, .null), (.aload_n 0, 0, 0, 0, .null), (.getfield 15, 0, 0, 1, .null), (.iastore, 0, 6, 0, .null)] [] (WW' := [w_Ld G a0 (Ld_s_between y24 ((upd (Ld_between y24) ((x3 * (10 : Int32)) + x2).toNatClampNeg (Ld_roads y24)))), w_Rd G a1 s1]) (lv' := [some (.ref (a0 0)), none, some (.int x2), some (.int x3), none]) (pc' := 201) (st' := []) (by decide +kernel) rfl rfl ⟨trivial, ⟨rfl, rfl, zw_1_174⟩, trivial, trivial, trivial, trivial, trivial, trivial, ⟨rfl, rfl, zw_1_155⟩, ⟨rfl, rfl, h25⟩, trivial⟩ ?_
  refine zr_eq (WW2 := [w_Ld G a0 y26, w_Rd G a1 s1]) (lv2 := [some (.ref (a0 0)), none, some (.int x2), some (.int x3), none]) (st2 := []) (by rw [e26]) rfl rfl ?_
  obtain ⟨y27, e27, hf⟩ := zlet_of hf
  refine zr_run [(.aload_n 0, 0, 0, 0, .null), (.dup, 0, 0, 0, .null), (.getfield 15, 0, 0, 1, .null), (.iconst 1, 0, 0, 0, .int (1 : Int32)), (.iadd, 0, 0, 0, .null), (.putfield 15, 0, 0, 1, .null)] [] (WW' := [w_Ld G a0 (Ld_s_roads y26 ((Ld_roads y26) + (1 : Int32))), w_Rd G a1 s1]) (lv' := [some (.ref (a0 0)), none, some (.int x2), some (.int x3), none]) (pc' := 211) (st' := []) (by decide +kernel) rfl rfl ⟨trivial, trivial, ⟨rfl, rfl, zw_1_155⟩, trivial, trivial, ⟨rfl, rfl, rfl, trivial, rfl, rfl, zw_1_155⟩, trivial⟩ ?_
  refine zr_eq (WW2 := [w_Ld G a0 y27, w_Rd G a1 s1]) (lv2 := [some (.ref (a0 0)), none, some (.int x2), some (.int x3), none]) (st2 := []) (by rw [e27]) rfl rfl ?_
  obtain rfl := Option.some.inj hf
  exact zr_vret (b0 := fun _ => 0) (by decide +kernel) rfl rfl rfl rfl rfl
set_option maxRecDepth 100000 in
set_option maxHeartbeats 4000000 in
theorem c_X3_readRoad (l : Launch) (G : zj_G) (a0 : Nat → Nat) (a1 : Nat → Nat) (s0 : LdT) (s1 : RdT)  (r : LdT × RdT) (hf : f_X3_readRoad s0 s1 = some r) : zj_C l G M_X3_readRoad yX3_readRoad [w_Ld G a0 s0, w_Rd G a1 s1] [.ref (a0 0), .ref (a1 0)] (none) (fun _ => [w_Ld G a0 r.1, w_Rd G a1 r.2]) := by
  have key : ∀ W0 : List va_W, zj_J l G M_X3_readRoad W0 (zj_ret G M_X3_readRoad W0 (none) (fun _ => [w_Ld G a0 r.1, w_Rd G a1 r.2])) 0 0 [w_Ld G a0 s0, w_Rd G a1 s1] [some (.ref (a0 0)), some (.ref (a1 0)), none, none, none] 0 [] := by
    intro W0
    unfold f_X3_readRoad at hf
    refine zr_run [(.aload_n 0, 0, 0, 0, .null), (.getfield 15, 0, 0, 1, .null), (.bipush 16, 0, 0, 0, .int (16 : Int32))] [] (WW' := [w_Ld G a0 s0, w_Rd G a1 s1]) (lv' := [some (.ref (a0 0)), some (.ref (a1 0)), none, none, none]) (pc' := 6) (st' := [.int (16 : Int32), .int (Ld_roads s0)]) (by decide +kernel) rfl rfl ⟨trivial, ⟨rfl, rfl, zw_1_155⟩, trivial, trivial⟩ ?_
    refine zr_icmp_lt (off := 9) (tgt := 15) (by decide +kernel) (by decide) (fun hc => ?_) (fun hc => ?_)
    · have hf := zift hf hc
      obtain ⟨q1, e1, hf⟩ := zbi_of hf
      refine zr_run [(.aload_n 1, 0, 0, 0, .null)] [] (WW' := [w_Ld G a0 s0, w_Rd G a1 s1]) (lv' := [some (.ref (a0 0)), some (.ref (a1 0)), none, none, none]) (pc' := 16) (st' := [.ref (a1 0)]) (by decide +kernel) rfl rfl ⟨trivial, trivial⟩ ?_
      refine zr_callV (c_X7_advance l G a1 s1 q1 e1) (WW' := fun _ => [w_Ld G a0 s0, w_Rd G a1 q1]) (st := []) (st' := []) [1] rfl rfl (fun _ => Nat.le_of_ble_eq_true rfl) (fun _ => rfl) rfl rfl nm_X7_advance zw_3_21 zw_2_237 zw_2_238 zw_1_2 zw_2_239 rfl rfl rfl (Nat.le_of_ble_eq_true rfl) ⟨Nat.le_of_ble_eq_true rfl, Nat.le_of_ble_eq_true rfl⟩ (by decide +kernel) (fun _ => ?_)
      obtain ⟨q2, e2, hf⟩ := zbi_of hf
      refine zr_run [(.aload_n 0, 0, 0, 0, .null), (.aload_n 1, 0, 0, 0, .null)] [] (WW' := [w_Ld G a0 s0, w_Rd G a1 q1]) (lv' := [some (.ref (a0 0)), some (.ref (a1 0)), none, none, none]) (pc' := 21) (st' := [.ref (a1 0), .ref (a0 0)]) (by decide +kernel) rfl rfl ⟨trivial, trivial, trivial⟩ ?_
      refine zr_callV (c_X3_knownPlace l G a0 a1 s0 q1 q2 e2) (WW' := fun _ => [w_Ld G a0 s0, w_Rd G a1 q2.2]) (st := []) (st' := [.int q2.1]) [0, 1] rfl rfl (fun _ => Nat.le_of_ble_eq_true rfl) (fun _ => rfl) rfl rfl nm_X3_knownPlace zw_3_42 zw_3_43 zw_3_44 zw_1_7 zw_3_45 rfl rfl rfl (Nat.le_of_ble_eq_true rfl) ⟨Nat.le_of_ble_eq_true rfl, Nat.le_of_ble_eq_true rfl⟩ (by decide +kernel) (fun _ => ?_)
      refine zr_run [(.istore_n 2, 0, 0, 0, .null), (.iload_n 2, 0, 0, 0, .null), (.iconst (-1), 0, 0, 0, .int (-1 : Int32))] [] (WW' := [w_Ld G a0 s0, w_Rd G a1 q2.2]) (lv' := [some (.ref (a0 0)), some (.ref (a1 0)), some (.int q2.1), none, none]) (pc' := 27) (st' := [.int (-1 : Int32), .int q2.1]) (by decide +kernel) rfl rfl ⟨trivial, trivial, trivial, trivial⟩ ?_
      refine zr_icmp_ne (off := 4) (tgt := 31) (by decide +kernel) (by decide) (fun hc => ?_) (fun hc => ?_)
      · have hf := zift hf hc
        obtain rfl := Option.some.inj hf
        exact zr_vret (b0 := fun _ => 0) (by decide +kernel) rfl rfl rfl rfl rfl
      · have hf := ziff hf hc
        obtain ⟨q3, e3, hf⟩ := zbi_of hf
        refine zr_run [(.aload_n 1, 0, 0, 0, .null)] [] (WW' := [w_Ld G a0 s0, w_Rd G a1 q2.2]) (lv' := [some (.ref (a0 0)), some (.ref (a1 0)), some (.int q2.1), none, none]) (pc' := 32) (st' := [.ref (a1 0)]) (by decide +kernel) rfl rfl ⟨trivial, trivial⟩ ?_
        refine zr_callV (c_X7_advance l G a1 q2.2 q3 e3) (WW' := fun _ => [w_Ld G a0 s0, w_Rd G a1 q3]) (st := []) (st' := []) [1] rfl rfl (fun _ => Nat.le_of_ble_eq_true rfl) (fun _ => rfl) rfl rfl nm_X7_advance zw_3_21 zw_2_237 zw_2_238 zw_1_2 zw_2_239 rfl rfl rfl (Nat.le_of_ble_eq_true rfl) ⟨Nat.le_of_ble_eq_true rfl, Nat.le_of_ble_eq_true rfl⟩ (by decide +kernel) (fun _ => ?_)
        obtain ⟨q4, e4, hf⟩ := zbi_of hf
        refine zr_run [(.aload_n 0, 0, 0, 0, .null), (.aload_n 1, 0, 0, 0, .null)] [] (WW' := [w_Ld G a0 s0, w_Rd G a1 q3]) (lv' := [some (.ref (a0 0)), some (.ref (a1 0)), some (.int q2.1), none, none]) (pc' := 37) (st' := [.ref (a1 0), .ref (a0 0)]) (by decide +kernel) rfl rfl ⟨trivial, trivial, trivial⟩ ?_
        refine zr_callV (c_X3_knownPlace l G a0 a1 s0 q3 q4 e4) (WW' := fun _ => [w_Ld G a0 s0, w_Rd G a1 q4.2]) (st := []) (st' := [.int q4.1]) [0, 1] rfl rfl (fun _ => Nat.le_of_ble_eq_true rfl) (fun _ => rfl) rfl rfl nm_X3_knownPlace zw_3_42 zw_3_43 zw_3_44 zw_1_7 zw_3_45 rfl rfl rfl (Nat.le_of_ble_eq_true rfl) ⟨Nat.le_of_ble_eq_true rfl, Nat.le_of_ble_eq_true rfl⟩ (by decide +kernel) (fun _ => ?_)
        refine zr_run [(.istore_n 3, 0, 0, 0, .null), (.iload_n 3, 0, 0, 0, .null), (.iconst (-1), 0, 0, 0, .int (-1 : Int32))] [] (WW' := [w_Ld G a0 s0, w_Rd G a1 q4.2]) (lv' := [some (.ref (a0 0)), some (.ref (a1 0)), some (.int q2.1), some (.int q4.1), none]) (pc' := 43) (st' := [.int (-1 : Int32), .int q4.1]) (by decide +kernel) rfl rfl ⟨trivial, trivial, trivial, trivial⟩ ?_
        refine zr_icmp_ne (off := 4) (tgt := 47) (by decide +kernel) (by decide) (fun hc => ?_) (fun hc => ?_)
        · have hf := zift hf hc
          obtain rfl := Option.some.inj hf
          exact zr_vret (b0 := fun _ => 0) (by decide +kernel) rfl rfl rfl rfl rfl
        · have hf := ziff hf hc
          refine zr_run [(.iload_n 2, 0, 0, 0, .null), (.iload_n 3, 0, 0, 0, .null)] [] (WW' := [w_Ld G a0 s0, w_Rd G a1 q4.2]) (lv' := [some (.ref (a0 0)), some (.ref (a1 0)), some (.int q2.1), some (.int q4.1), none]) (pc' := 49) (st' := [.int q4.1, .int q2.1]) (by decide +kernel) rfl rfl ⟨trivial, trivial, trivial⟩ ?_
          refine zr_icmp_eq (off := 13) (tgt := 62) (by decide +kernel) (by decide) (fun hc => ?_) (fun hc => ?_)
          · have hf := zift hf hc
            obtain ⟨q5, e5, hf⟩ := zbi_of hf
            refine zr_run [(.aload_n 1, 0, 0, 0, .null), (.iconst 3, 0, 0, 0, .int (3 : Int32))] [] (WW' := [w_Ld G a0 s0, w_Rd G a1 q4.2]) (lv' := [some (.ref (a0 0)), some (.ref (a1 0)), some (.int q2.1), some (.int q4.1), none]) (pc' := 64) (st' := [.int (3 : Int32), .ref (a1 0)]) (by decide +kernel) rfl rfl ⟨trivial, trivial, trivial⟩ ?_
            refine zr_callV (c_X7_fail l G a1 q4.2 (3 : Int32) q5 e5) (WW' := fun _ => [w_Ld G a0 s0, w_Rd G a1 q5]) (st := []) (st' := []) [1] rfl rfl (fun _ => Nat.le_of_ble_eq_true rfl) (fun _ => rfl) rfl rfl nm_X7_fail zw_3_20 zw_3_9 zw_3_10 zw_1_2 zw_3_11 rfl rfl rfl (Nat.le_of_ble_eq_true rfl) ⟨Nat.le_of_ble_eq_true rfl, Nat.le_of_ble_eq_true rfl⟩ (by decide +kernel) (fun _ => ?_)
            obtain rfl := Option.some.inj hf
            exact zr_vret (b0 := fun _ => 0) (by decide +kernel) rfl rfl rfl rfl rfl
          · have hf := ziff hf hc
            obtain ⟨q6, e6, hf⟩ := zbi_of hf
            refine zr_run [(.aload_n 0, 0, 0, 0, .null), (.iload_n 2, 0, 0, 0, .null), (.iload_n 3, 0, 0, 0, .null)] [] (WW' := [w_Ld G a0 s0, w_Rd G a1 q4.2]) (lv' := [some (.ref (a0 0)), some (.ref (a1 0)), some (.int q2.1), some (.int q4.1), none]) (pc' := 55) (st' := [.int q4.1, .int q2.1, .ref (a0 0)]) (by decide +kernel) rfl rfl ⟨trivial, trivial, trivial, trivial⟩ ?_
            refine zr_callV (c_X3_roadBetween l G a0 s0 q2.1 q4.1 q6 e6) (WW' := fun _ => [w_Ld G a0 s0, w_Rd G a1 q4.2]) (st := []) (st' := [.int q6]) [0] rfl rfl (fun _ => Nat.le_of_ble_eq_true rfl) (fun _ => rfl) rfl rfl nm_X3_roadBetween zw_3_46 zw_3_47 zw_3_48 zw_1_7 zw_3_47n rfl rfl rfl (Nat.le_of_ble_eq_true rfl) ⟨Nat.le_of_ble_eq_true rfl, Nat.le_of_ble_eq_true rfl⟩ (by decide +kernel) (fun _ => ?_)
            refine zr_run [(.iconst (-1), 0, 0, 0, .int (-1 : Int32))] [] (WW' := [w_Ld G a0 s0, w_Rd G a1 q4.2]) (lv' := [some (.ref (a0 0)), some (.ref (a1 0)), some (.int q2.1), some (.int q4.1), none]) (pc' := 59) (st' := [.int (-1 : Int32), .int q6]) (by decide +kernel) rfl rfl ⟨trivial, trivial⟩ ?_
            refine zr_icmp_eq (off := 9) (tgt := 68) (by decide +kernel) (by decide) (fun hc => ?_) (fun hc => ?_)
            · have hf := zift hf hc
              obtain ⟨q7, e7, hf⟩ := zbi_of hf
              refine zr_run [(.aload_n 1, 0, 0, 0, .null)] [] (WW' := [w_Ld G a0 s0, w_Rd G a1 q4.2]) (lv' := [some (.ref (a0 0)), some (.ref (a1 0)), some (.int q2.1), some (.int q4.1), none]) (pc' := 69) (st' := [.ref (a1 0)]) (by decide +kernel) rfl rfl ⟨trivial, trivial⟩ ?_
              refine zr_callV (c_X7_advance l G a1 q4.2 q7 e7) (WW' := fun _ => [w_Ld G a0 s0, w_Rd G a1 q7]) (st := []) (st' := []) [1] rfl rfl (fun _ => Nat.le_of_ble_eq_true rfl) (fun _ => rfl) rfl rfl nm_X7_advance zw_3_21 zw_2_237 zw_2_238 zw_1_2 zw_2_239 rfl rfl rfl (Nat.le_of_ble_eq_true rfl) ⟨Nat.le_of_ble_eq_true rfl, Nat.le_of_ble_eq_true rfl⟩ (by decide +kernel) (fun _ => ?_)
              obtain ⟨h8, hf⟩ := zck_of hf
              obtain ⟨y9, e9, hf⟩ := zlet_of hf
              refine zr_run [(.aload_n 0, 0, 0, 0, .null), (.getfield 15, 0, 0, 1, .null), (.iconst 5, 0, 0, 0, .int (5 : Int32)), (.imul, 0, 0, 0, .null), (.istore 4, 0, 0, 0, .null), (.aload_n 0, 0, 0, 0, .null), (.getfield 38, 0, 0, 8, .null), (.iload 4, 0, 0, 0, .null), (.iconst 0, 0, 0, 0, .int (0 : Int32)), (.iadd, 0, 0, 0, .null), (.iload_n 2, 0, 0, 0, .null), (.iastore, 0, 4, 0, .null)] [] (WW' := [w_Ld G a0 (Ld_s_roadRows s0 ((upd (Ld_roadRows s0) (((Ld_roads s0) * (5 : Int32)) + (0 : Int32)).toNatClampNeg q2.1))), w_Rd G a1 q7]) (lv' := [some (.ref (a0 0)), some (.ref (a1 0)), some (.int q2.1), some (.int q4.1), some (.int ((Ld_roads s0) * (5 : Int32)))]) (pc' := 90) (st' := []) (by decide +kernel) rfl rfl ⟨trivial, ⟨rfl, rfl, zw_1_155⟩, trivial, trivial, trivial, trivial, ⟨rfl, rfl, zw_1_172⟩, trivial, trivial, trivial, trivial, ⟨rfl, rfl, h8⟩, trivial⟩ ?_
              refine zr_eq (WW2 := [w_Ld G a0 y9, w_Rd G a1 q7]) (lv2 := [some (.ref (a0 0)), some (.ref (a1 0)), some (.int q2.1), some (.int q4.1), some (.int ((Ld_roads s0) * (5 : Int32)))]) (st2 := []) (by rw [e9]) rfl rfl ?_
              obtain ⟨h10, hf⟩ := zck_of hf
              obtain ⟨y11, e11, hf⟩ := zlet_of hf
              refine zr_run [(.aload_n 0, 0, 0, 0, .null), (.getfield 38, 0, 0, 8, .null), (.iload 4, 0, 0, 0, .null), (.iconst 1, 0, 0, 0, .int (1 : Int32)), (.iadd, 0, 0, 0, .null), (.iload_n 3, 0, 0, 0, .null), (.iastore, 0, 4, 0, .null)] [] (WW' := [w_Ld G a0 (Ld_s_roadRows y9 ((upd (Ld_roadRows y9) (((Ld_roads s0) * (5 : Int32)) + (1 : Int32)).toNatClampNeg q4.1))), w_Rd G a1 q7]) (lv' := [some (.ref (a0 0)), some (.ref (a1 0)), some (.int q2.1), some (.int q4.1), some (.int ((Ld_roads s0) * (5 : Int32)))]) (pc' := 100) (st' := []) (by decide +kernel) rfl rfl ⟨trivial, ⟨rfl, rfl, zw_1_172⟩, trivial, trivial, trivial, trivial, ⟨rfl, rfl, h10⟩, trivial⟩ ?_
              refine zr_eq (WW2 := [w_Ld G a0 y11, w_Rd G a1 q7]) (lv2 := [some (.ref (a0 0)), some (.ref (a1 0)), some (.int q2.1), some (.int q4.1), some (.int ((Ld_roads s0) * (5 : Int32)))]) (st2 := []) (by rw [e11]) rfl rfl ?_
              obtain ⟨q12, e12, hf⟩ := zbi_of hf
              refine zr_run [(.aload_n 0, 0, 0, 0, .null), (.getfield 38, 0, 0, 8, .null), (.iload 4, 0, 0, 0, .null), (.iconst 2, 0, 0, 0, .int (2 : Int32)), (.iadd, 0, 0, 0, .null), (.aload_n 1, 0, 0, 0, .null), (.iconst 1, 0, 0, 0, .int (1 : Int32)), (.bipush 30, 0, 0, 0, .int (30 : Int32))] [] (WW' := [w_Ld G a0 y11, w_Rd G a1 q7]) (lv' := [some (.ref (a0 0)), some (.ref (a1 0)), some (.int q2.1), some (.int q4.1), some (.int ((Ld_roads s0) * (5 : Int32)))]) (pc' := 112) (st' := [.int (30 : Int32), .int (1 : Int32), .ref (a1 0), .int (((Ld_roads s0) * (5 : Int32)) + (2 : Int32)), .ref (a0 4)]) (by decide +kernel) rfl rfl ⟨trivial, ⟨rfl, rfl, zw_1_172⟩, trivial, trivial, trivial, trivial, trivial, trivial, trivial⟩ ?_
              refine zr_callV (c_X7_number l G a1 q7 (1 : Int32) (30 : Int32) q12 e12) (WW' := fun _ => [w_Ld G a0 y11, w_Rd G a1 q12.2]) (st := [.int (((Ld_roads s0) * (5 : Int32)) + (2 : Int32)), .ref (a0 4)]) (st' := [.int q12.1, .int (((Ld_roads s0) * (5 : Int32)) + (2 : Int32)), .ref (a0 4)]) [1] rfl rfl (fun _ => Nat.le_of_ble_eq_true rfl) (fun _ => rfl) rfl rfl nm_X7_number zw_3_34 zw_3_35 zw_3_36 zw_1_2 zw_3_37 rfl rfl rfl (Nat.le_of_ble_eq_true rfl) ⟨Nat.le_of_ble_eq_true rfl, Nat.le_of_ble_eq_true rfl⟩ (by decide +kernel) (fun _ => ?_)
              obtain ⟨h13, hf⟩ := zck_of hf
              obtain ⟨y14, e14, hf⟩ := zlet_of hf
              refine zr_run [(.iastore, 0, 4, 0, .null)] [] (WW' := [w_Ld G a0 (Ld_s_roadRows y11 ((upd (Ld_roadRows y11) (((Ld_roads s0) * (5 : Int32)) + (2 : Int32)).toNatClampNeg q12.1))), w_Rd G a1 q12.2]) (lv' := [some (.ref (a0 0)), some (.ref (a1 0)), some (.int q2.1), some (.int q4.1), some (.int ((Ld_roads s0) * (5 : Int32)))]) (pc' := 116) (st' := []) (by decide +kernel) rfl rfl ⟨⟨rfl, rfl, h13⟩, trivial⟩ ?_
              refine zr_eq (WW2 := [w_Ld G a0 y14, w_Rd G a1 q12.2]) (lv2 := [some (.ref (a0 0)), some (.ref (a1 0)), some (.int q2.1), some (.int q4.1), some (.int ((Ld_roads s0) * (5 : Int32)))]) (st2 := []) (by rw [e14]) rfl rfl ?_
              obtain ⟨q15, e15, hf⟩ := zbi_of hf
              refine zr_run [(.aload_n 0, 0, 0, 0, .null), (.getfield 38, 0, 0, 8, .null), (.iload 4, 0, 0, 0, .null), (.iconst 3, 0, 0, 0, .int (3 : Int32)), (.iadd, 0, 0, 0, .null), (.aload_n 1, 0, 0, 0, .null), (.iconst 0, 0, 0, 0, .int (0 : Int32)), (.bipush 12, 0, 0, 0, .int (12 : Int32))] [] (WW' := [w_Ld G a0 y14, w_Rd G a1 q12.2]) (lv' := [some (.ref (a0 0)), some (.ref (a1 0)), some (.int q2.1), some (.int q4.1), some (.int ((Ld_roads s0) * (5 : Int32)))]) (pc' := 128) (st' := [.int (12 : Int32), .int (0 : Int32), .ref (a1 0), .int (((Ld_roads s0) * (5 : Int32)) + (3 : Int32)), .ref (a0 4)]) (by decide +kernel) rfl rfl ⟨trivial, ⟨rfl, rfl, zw_1_172⟩, trivial, trivial, trivial, trivial, trivial, trivial, trivial⟩ ?_
              refine zr_callV (c_X7_number l G a1 q12.2 (0 : Int32) (12 : Int32) q15 e15) (WW' := fun _ => [w_Ld G a0 y14, w_Rd G a1 q15.2]) (st := [.int (((Ld_roads s0) * (5 : Int32)) + (3 : Int32)), .ref (a0 4)]) (st' := [.int q15.1, .int (((Ld_roads s0) * (5 : Int32)) + (3 : Int32)), .ref (a0 4)]) [1] rfl rfl (fun _ => Nat.le_of_ble_eq_true rfl) (fun _ => rfl) rfl rfl nm_X7_number zw_3_34 zw_3_35 zw_3_36 zw_1_2 zw_3_37 rfl rfl rfl (Nat.le_of_ble_eq_true rfl) ⟨Nat.le_of_ble_eq_true rfl, Nat.le_of_ble_eq_true rfl⟩ (by decide +kernel) (fun _ => ?_)
              obtain ⟨h16, hf⟩ := zck_of hf
              obtain ⟨y17, e17, hf⟩ := zlet_of hf
              refine zr_run [(.iastore, 0, 4, 0, .null)] [] (WW' := [w_Ld G a0 (Ld_s_roadRows y14 ((upd (Ld_roadRows y14) (((Ld_roads s0) * (5 : Int32)) + (3 : Int32)).toNatClampNeg q15.1))), w_Rd G a1 q15.2]) (lv' := [some (.ref (a0 0)), some (.ref (a1 0)), some (.int q2.1), some (.int q4.1), some (.int ((Ld_roads s0) * (5 : Int32)))]) (pc' := 132) (st' := []) (by decide +kernel) rfl rfl ⟨⟨rfl, rfl, h16⟩, trivial⟩ ?_
              refine zr_eq (WW2 := [w_Ld G a0 y17, w_Rd G a1 q15.2]) (lv2 := [some (.ref (a0 0)), some (.ref (a1 0)), some (.int q2.1), some (.int q4.1), some (.int ((Ld_roads s0) * (5 : Int32)))]) (st2 := []) (by rw [e17]) rfl rfl ?_
              obtain ⟨h18, hf⟩ := zck_of hf
              obtain ⟨y19, e19, hf⟩ := zlet_of hf
              refine zr_run [(.aload_n 0, 0, 0, 0, .null), (.getfield 38, 0, 0, 8, .null), (.iload 4, 0, 0, 0, .null), (.iconst 4, 0, 0, 0, .int (4 : Int32)), (.iadd, 0, 0, 0, .null), (.iconst 0, 0, 0, 0, .int (0 : Int32)), (.iastore, 0, 4, 0, .null)] [] (WW' := [w_Ld G a0 (Ld_s_roadRows y17 ((upd (Ld_roadRows y17) (((Ld_roads s0) * (5 : Int32)) + (4 : Int32)).toNatClampNeg (0 : Int32)))), w_Rd G a1 q15.2]) (lv' := [some (.ref (a0 0)), some (.ref (a1 0)), some (.int q2.1), some (.int q4.1), some (.int ((Ld_roads s0) * (5 : Int32)))]) (pc' := 142) (st' := []) (by decide +kernel) rfl rfl ⟨trivial, ⟨rfl, rfl, zw_1_172⟩, trivial, trivial, trivial, trivial, ⟨rfl, rfl, h18⟩, trivial⟩ ?_
              refine zr_eq (WW2 := [w_Ld G a0 y19, w_Rd G a1 q15.2]) (lv2 := [some (.ref (a0 0)), some (.ref (a1 0)), some (.int q2.1), some (.int q4.1), some (.int ((Ld_roads s0) * (5 : Int32)))]) (st2 := []) (by rw [e19]) rfl rfl ?_
              refine zr_run [(.aload_n 1, 0, 0, 0, .null), (.getfield 97, 1, 0, 11, .null)] [] (WW' := [w_Ld G a0 y19, w_Rd G a1 q15.2]) (lv' := [some (.ref (a0 0)), some (.ref (a1 0)), some (.int q2.1), some (.int q4.1), some (.int ((Ld_roads s0) * (5 : Int32)))]) (pc' := 146) (st' := [.int (Rd_fault q15.2)]) (by decide +kernel) rfl rfl ⟨trivial, ⟨rfl, rfl, zw_1_114⟩, trivial⟩ ?_
              refine zr_if_ne (off := 25) (tgt := 171) (by decide +kernel) (by decide) (fun hc => ?_) (fun hc => ?_)
              · have hf := zift hf hc
                refine zr_run [(.aload_n 1, 0, 0, 0, .null), (.getfield 106, 1, 0, 8, .null), (.iconst 4, 0, 0, 0, .int (4 : Int32))] [] (WW' := [w_Ld G a0 y19, w_Rd G a1 q15.2]) (lv' := [some (.ref (a0 0)), some (.ref (a1 0)), some (.int q2.1), some (.int q4.1), some (.int ((Ld_roads s0) * (5 : Int32)))]) (pc' := 154) (st' := [.int (4 : Int32), .int (Rd_key q15.2)]) (by decide +kernel) rfl rfl ⟨trivial, ⟨rfl, rfl, zw_1_106⟩, trivial, trivial⟩ ?_
                refine zr_icmp_ne (off := 17) (tgt := 171) (by decide +kernel) (by decide) (fun hc => ?_) (fun hc => ?_)
                · have hf := zift hf hc
                  obtain ⟨h20, hf⟩ := zck_of hf
                  obtain ⟨y21, e21, hf⟩ := zlet_of hf
                  refine zr_run [(.aload_n 0, 0, 0, 0, .null), (.getfield 38, 0, 0, 8, .null), (.iload 4, 0, 0, 0, .null), (.iconst 4, 0, 0, 0, .int (4 : Int32)), (.iadd, 0, 0, 0, .null), (.iconst 1, 0, 0, 0, .int (1 : Int32)), (.iastore, 0, 4, 0, .null)] [] (WW' := [w_Ld G a0 (Ld_s_roadRows y19 ((upd (Ld_roadRows y19) (((Ld_roads s0) * (5 : Int32)) + (4 : Int32)).toNatClampNeg (1 : Int32)))), w_Rd G a1 q15.2]) (lv' := [some (.ref (a0 0)), some (.ref (a1 0)), some (.int q2.1), some (.int q4.1), some (.int ((Ld_roads s0) * (5 : Int32)))]) (pc' := 167) (st' := []) (by decide +kernel) rfl rfl ⟨trivial, ⟨rfl, rfl, zw_1_172⟩, trivial, trivial, trivial, trivial, ⟨rfl, rfl, h20⟩, trivial⟩ ?_
                  refine zr_eq (WW2 := [w_Ld G a0 y21, w_Rd G a1 q15.2]) (lv2 := [some (.ref (a0 0)), some (.ref (a1 0)), some (.int q2.1), some (.int q4.1), some (.int ((Ld_roads s0) * (5 : Int32)))]) (st2 := []) (by rw [e21]) rfl rfl ?_
                  obtain ⟨q22, e22, hf⟩ := zbi_of hf
                  refine zr_run [(.aload_n 1, 0, 0, 0, .null)] [] (WW' := [w_Ld G a0 y21, w_Rd G a1 q15.2]) (lv' := [some (.ref (a0 0)), some (.ref (a1 0)), some (.int q2.1), some (.int q4.1), some (.int ((Ld_roads s0) * (5 : Int32)))]) (pc' := 168) (st' := [.ref (a1 0)]) (by decide +kernel) rfl rfl ⟨trivial, trivial⟩ ?_
                  refine zr_callV (c_X7_advance l G a1 q15.2 q22 e22) (WW' := fun _ => [w_Ld G a0 y21, w_Rd G a1 q22]) (st := []) (st' := []) [1] rfl rfl (fun _ => Nat.le_of_ble_eq_true rfl) (fun _ => rfl) rfl rfl nm_X7_advance zw_3_21 zw_2_237 zw_2_238 zw_1_2 zw_2_239 rfl rfl rfl (Nat.le_of_ble_eq_true rfl) ⟨Nat.le_of_ble_eq_true rfl, Nat.le_of_ble_eq_true rfl⟩ (by decide +kernel) (fun _ => ?_)
                  refine zr_run [] [1, 4] (WW' := [w_Ld G a0 y21, w_Rd G a1 q22]) (lv' := [some (.ref (a0 0)), none, some (.int q2.1), some (.int q4.1), none]) (pc' := 171) (st' := []) (by decide +kernel) rfl rfl trivial ?_
                  exact t_X3_readRoad_b171 l G a0 a1 W0 r y21 q22 q2.1 q4.1 hf
                · have hf := ziff hf hc
                  refine zr_run [] [1, 4] (WW' := [w_Ld G a0 y19, w_Rd G a1 q15.2]) (lv' := [some (.ref (a0 0)), none, some (.int q2.1), some (.int q4.1), none]) (pc' := 171) (st' := []) (by decide +kernel) rfl rfl trivial ?_
                  exact t_X3_readRoad_b171 l G a0 a1 W0 r y19 q15.2 q2.1 q4.1 hf
              · have hf := ziff hf hc
                refine zr_run [] [1, 4] (WW' := [w_Ld G a0 y19, w_Rd G a1 q15.2]) (lv' := [some (.ref (a0 0)), none, some (.int q2.1), some (.int q4.1), none]) (pc' := 171) (st' := []) (by decide +kernel) rfl rfl trivial ?_
                exact t_X3_readRoad_b171 l G a0 a1 W0 r y19 q15.2 q2.1 q4.1 hf
            · have hf := ziff hf hc
              obtain ⟨q28, e28, hf⟩ := zbi_of hf
              refine zr_run [(.aload_n 1, 0, 0, 0, .null), (.iconst 3, 0, 0, 0, .int (3 : Int32))] [] (WW' := [w_Ld G a0 s0, w_Rd G a1 q4.2]) (lv' := [some (.ref (a0 0)), some (.ref (a1 0)), some (.int q2.1), some (.int q4.1), none]) (pc' := 64) (st' := [.int (3 : Int32), .ref (a1 0)]) (by decide +kernel) rfl rfl ⟨trivial, trivial, trivial⟩ ?_
              refine zr_callV (c_X7_fail l G a1 q4.2 (3 : Int32) q28 e28) (WW' := fun _ => [w_Ld G a0 s0, w_Rd G a1 q28]) (st := []) (st' := []) [1] rfl rfl (fun _ => Nat.le_of_ble_eq_true rfl) (fun _ => rfl) rfl rfl nm_X7_fail zw_3_20 zw_3_9 zw_3_10 zw_1_2 zw_3_11 rfl rfl rfl (Nat.le_of_ble_eq_true rfl) ⟨Nat.le_of_ble_eq_true rfl, Nat.le_of_ble_eq_true rfl⟩ (by decide +kernel) (fun _ => ?_)
              obtain rfl := Option.some.inj hf
              exact zr_vret (b0 := fun _ => 0) (by decide +kernel) rfl rfl rfl rfl rfl
    · have hf := ziff hf hc
      obtain ⟨q29, e29, hf⟩ := zbi_of hf
      refine zr_run [(.aload_n 1, 0, 0, 0, .null), (.iconst 4, 0, 0, 0, .int (4 : Int32))] [] (WW' := [w_Ld G a0 s0, w_Rd G a1 s1]) (lv' := [some (.ref (a0 0)), some (.ref (a1 0)), none, none, none]) (pc' := 11) (st' := [.int (4 : Int32), .ref (a1 0)]) (by decide +kernel) rfl rfl ⟨trivial, trivial, trivial⟩ ?_
      refine zr_callV (c_X7_fail l G a1 s1 (4 : Int32) q29 e29) (WW' := fun _ => [w_Ld G a0 s0, w_Rd G a1 q29]) (st := []) (st' := []) [1] rfl rfl (fun _ => Nat.le_of_ble_eq_true rfl) (fun _ => rfl) rfl rfl nm_X7_fail zw_3_20 zw_3_9 zw_3_10 zw_1_2 zw_3_11 rfl rfl rfl (Nat.le_of_ble_eq_true rfl) ⟨Nat.le_of_ble_eq_true rfl, Nat.le_of_ble_eq_true rfl⟩ (by decide +kernel) (fun _ => ?_)
      obtain rfl := Option.some.inj hf
      exact zr_vret (b0 := fun _ => 0) (by decide +kernel) rfl rfl rfl rfl rfl
  exact zj_entry [some (.ref (a0 0)), some (.ref (a1 0)), none, none, none] (by decide +kernel) rfl (by decide) (Nat.le_of_ble_eq_true rfl) rfl rfl (key _)
def M_X3_readMan : zj_M := (RX3, cX3_readMan, 4, none, { frames := 3, cells := 0, slots := 0, locals := 67 }, false)
theorem nm_X3_readMan : zj_nm yX3_readMan 1 := ⟨by decide +kernel, by decide +kernel, by decide +kernel⟩
def f_X3_readMan  (s0 : LdT) (s1 : RdT)  : Option (LdT × RdT) := (if (Ld_men s0) < (6 : Int32) then ((f_X7_advance s1).bind fun q1 => ((f_X3_freshName s0 q1).bind fun q2 => (if zb_in (Ld_men s0) 6 = true then (zlet (Ld_s_manNames s0 ((vp_updL (Ld_manNames s0) (Ld_men s0).toNatClampNeg q2.1))) fun y4 => ((f_X3_knownPlace y4 q2.2).bind fun q5 => (if q5.1 = (-1 : Int32) then some (y4, q5.2) else ((f_X3_ofPlace y4 q5.1 (0 : Int32)).bind fun q6 => (if q6 = 0 then ((f_X7_advance q5.2).bind fun q7 => (if zb_in (((Ld_men y4) * (4 : Int32)) + (0 : Int32)) 24 = true then (zlet (Ld_s_manRows y4 ((upd (Ld_manRows y4) (((Ld_men y4) * (4 : Int32)) + (0 : Int32)).toNatClampNeg q5.1))) fun y9 => ((f_X7_number q7 (1 : Int32) (20 : Int32)).bind fun q10 => (if zb_in (((Ld_men y4) * (4 : Int32)) + (1 : Int32)) 24 = true then (zlet (Ld_s_manRows y9 ((upd (Ld_manRows y9) (((Ld_men y4) * (4 : Int32)) + (1 : Int32)).toNatClampNeg q10.1))) fun y12 => ((f_X7_number q10.2 (0 : Int32) (99 : Int32)).bind fun q13 => (if zb_in (((Ld_men y4) * (4 : Int32)) + (2 : Int32)) 24 = true then (zlet (Ld_s_manRows y12 ((upd (Ld_manRows y12) (((Ld_men y4) * (4 : Int32)) + (2 : Int32)).toNatClampNeg q13.1))) fun y15 => (if zb_in (((Ld_men y4) * (4 : Int32)) + (3 : Int32)) 24 = true then (zlet (Ld_s_manRows y15 ((upd (Ld_manRows y15) (((Ld_men y4) * (4 : Int32)) + (3 : Int32)).toNatClampNeg (0 : Int32)))) fun y17 => (zlet (Ld_s_men y17 ((Ld_men y17) + (1 : Int32))) fun y18 => some (y18, q13.2))) else none)) else none))) else none))) else none)) else ((f_X7_fail q5.2 (3 : Int32)).bind fun q19 => some (y4, q19))))))) else none))) else ((f_X7_fail s1 (4 : Int32)).bind fun q20 => some (s0, q20)))
set_option maxRecDepth 100000 in
set_option maxHeartbeats 4000000 in
theorem c_X3_readMan (l : Launch) (G : zj_G) (a0 : Nat → Nat) (a1 : Nat → Nat) (s0 : LdT) (s1 : RdT)  (r : LdT × RdT) (hf : f_X3_readMan s0 s1 = some r) : zj_C l G M_X3_readMan yX3_readMan [w_Ld G a0 s0, w_Rd G a1 s1] [.ref (a0 0), .ref (a1 0)] (none) (fun _ => [w_Ld G a0 r.1, w_Rd G a1 r.2]) := by
  have key : ∀ W0 : List va_W, zj_J l G M_X3_readMan W0 (zj_ret G M_X3_readMan W0 (none) (fun _ => [w_Ld G a0 r.1, w_Rd G a1 r.2])) 0 0 [w_Ld G a0 s0, w_Rd G a1 s1] [some (.ref (a0 0)), some (.ref (a1 0)), none, none] 0 [] := by
    intro W0
    unfold f_X3_readMan at hf
    refine zr_run [(.aload_n 0, 0, 0, 0, .null), (.getfield 18, 0, 0, 2, .null), (.bipush 6, 0, 0, 0, .int (6 : Int32))] [] (WW' := [w_Ld G a0 s0, w_Rd G a1 s1]) (lv' := [some (.ref (a0 0)), some (.ref (a1 0)), none, none]) (pc' := 6) (st' := [.int (6 : Int32), .int (Ld_men s0)]) (by decide +kernel) rfl rfl ⟨trivial, ⟨rfl, rfl, zw_1_158⟩, trivial, trivial⟩ ?_
    refine zr_icmp_lt (off := 9) (tgt := 15) (by decide +kernel) (by decide) (fun hc => ?_) (fun hc => ?_)
    · have hf := zift hf hc
      obtain ⟨q1, e1, hf⟩ := zbi_of hf
      refine zr_run [(.aload_n 1, 0, 0, 0, .null)] [] (WW' := [w_Ld G a0 s0, w_Rd G a1 s1]) (lv' := [some (.ref (a0 0)), some (.ref (a1 0)), none, none]) (pc' := 16) (st' := [.ref (a1 0)]) (by decide +kernel) rfl rfl ⟨trivial, trivial⟩ ?_
      refine zr_callV (c_X7_advance l G a1 s1 q1 e1) (WW' := fun _ => [w_Ld G a0 s0, w_Rd G a1 q1]) (st := []) (st' := []) [1] rfl rfl (fun _ => Nat.le_of_ble_eq_true rfl) (fun _ => rfl) rfl rfl nm_X7_advance zw_3_21 zw_2_237 zw_2_238 zw_1_2 zw_2_239 rfl rfl rfl (Nat.le_of_ble_eq_true rfl) ⟨Nat.le_of_ble_eq_true rfl, Nat.le_of_ble_eq_true rfl⟩ (by decide +kernel) (fun _ => ?_)
      obtain ⟨q2, e2, hf⟩ := zbi_of hf
      refine zr_run [(.aload_n 0, 0, 0, 0, .null), (.getfield 31, 0, 0, 6, .null), (.aload_n 0, 0, 0, 0, .null), (.getfield 18, 0, 0, 2, .null), (.aload_n 0, 0, 0, 0, .null), (.aload_n 1, 0, 0, 0, .null)] [] (WW' := [w_Ld G a0 s0, w_Rd G a1 q1]) (lv' := [some (.ref (a0 0)), some (.ref (a1 0)), none, none]) (pc' := 29) (st' := [.ref (a1 0), .ref (a0 0), .int (Ld_men s0), .ref (a0 2)]) (by decide +kernel) rfl rfl ⟨trivial, ⟨rfl, rfl, zw_1_169⟩, trivial, ⟨rfl, rfl, zw_1_158⟩, trivial, trivial, trivial⟩ ?_
      refine zr_callV (c_X3_freshName l G a0 a1 s0 q1 q2 e2) (WW' := fun _ => [w_Ld G a0 s0, w_Rd G a1 q2.2]) (st := [.int (Ld_men s0), .ref (a0 2)]) (st' := [.long q2.1, .int (Ld_men s0), .ref (a0 2)]) [0, 1] rfl rfl (fun _ => Nat.le_of_ble_eq_true rfl) (fun _ => rfl) rfl rfl nm_X3_freshName zw_3_22 zw_3_24 zw_0_3 zw_1_7 zw_3_25 rfl rfl rfl (Nat.le_of_ble_eq_true rfl) ⟨Nat.le_of_ble_eq_true rfl, Nat.le_of_ble_eq_true rfl⟩ (by decide +kernel) (fun _ => ?_)
      obtain ⟨h3, hf⟩ := zck_of hf
      obtain ⟨y4, e4, hf⟩ := zlet_of hf
      refine zr_run [(.lastore, 0, 2, 0, .null)] [] (WW' := [w_Ld G a0 (Ld_s_manNames s0 ((vp_updL (Ld_manNames s0) (Ld_men s0).toNatClampNeg q2.1))), w_Rd G a1 q2.2]) (lv' := [some (.ref (a0 0)), some (.ref (a1 0)), none, none]) (pc' := 33) (st' := []) (by decide +kernel) rfl rfl ⟨⟨rfl, rfl, h3⟩, trivial⟩ ?_
      refine zr_eq (WW2 := [w_Ld G a0 y4, w_Rd G a1 q2.2]) (lv2 := [some (.ref (a0 0)), some (.ref (a1 0)), none, none]) (st2 := []) (by rw [e4]) rfl rfl ?_
      obtain ⟨q5, e5, hf⟩ := zbi_of hf
      refine zr_run [(.aload_n 0, 0, 0, 0, .null), (.aload_n 1, 0, 0, 0, .null)] [] (WW' := [w_Ld G a0 y4, w_Rd G a1 q2.2]) (lv' := [some (.ref (a0 0)), some (.ref (a1 0)), none, none]) (pc' := 35) (st' := [.ref (a1 0), .ref (a0 0)]) (by decide +kernel) rfl rfl ⟨trivial, trivial, trivial⟩ ?_
      refine zr_callV (c_X3_knownPlace l G a0 a1 y4 q2.2 q5 e5) (WW' := fun _ => [w_Ld G a0 y4, w_Rd G a1 q5.2]) (st := []) (st' := [.int q5.1]) [0, 1] rfl rfl (fun _ => Nat.le_of_ble_eq_true rfl) (fun _ => rfl) rfl rfl nm_X3_knownPlace zw_3_42 zw_3_43 zw_3_44 zw_1_7 zw_3_45 rfl rfl rfl (Nat.le_of_ble_eq_true rfl) ⟨Nat.le_of_ble_eq_true rfl, Nat.le_of_ble_eq_true rfl⟩ (by decide +kernel) (fun _ => ?_)
      refine zr_run [(.istore_n 2, 0, 0, 0, .null), (.iload_n 2, 0, 0, 0, .null), (.iconst (-1), 0, 0, 0, .int (-1 : Int32))] [] (WW' := [w_Ld G a0 y4, w_Rd G a1 q5.2]) (lv' := [some (.ref (a0 0)), some (.ref (a1 0)), some (.int q5.1), none]) (pc' := 41) (st' := [.int (-1 : Int32), .int q5.1]) (by decide +kernel) rfl rfl ⟨trivial, trivial, trivial, trivial⟩ ?_
      refine zr_icmp_ne (off := 4) (tgt := 45) (by decide +kernel) (by decide) (fun hc => ?_) (fun hc => ?_)
      · have hf := zift hf hc
        obtain rfl := Option.some.inj hf
        exact zr_vret (b0 := fun _ => 0) (by decide +kernel) rfl rfl rfl rfl rfl
      · have hf := ziff hf hc
        obtain ⟨q6, e6, hf⟩ := zbi_of hf
        refine zr_run [(.aload_n 0, 0, 0, 0, .null), (.iload_n 2, 0, 0, 0, .null), (.iconst 0, 0, 0, 0, .int (0 : Int32))] [] (WW' := [w_Ld G a0 y4, w_Rd G a1 q5.2]) (lv' := [some (.ref (a0 0)), some (.ref (a1 0)), some (.int q5.1), none]) (pc' := 48) (st' := [.int (0 : Int32), .int q5.1, .ref (a0 0)]) (by decide +kernel) rfl rfl ⟨trivial, trivial, trivial, trivial⟩ ?_
        refine zr_callV (c_X3_ofPlace l G a0 y4 q5.1 (0 : Int32) q6 e6) (WW' := fun _ => [w_Ld G a0 y4, w_Rd G a1 q5.2]) (st := []) (st' := [.int q6]) [0] rfl rfl (fun _ => Nat.le_of_ble_eq_true rfl) (fun _ => rfl) rfl rfl nm_X3_ofPlace zw_3_54 zw_3_55 zw_3_56 zw_1_7 zw_3_55n rfl rfl rfl (Nat.le_of_ble_eq_true rfl) ⟨Nat.le_of_ble_eq_true rfl, Nat.le_of_ble_eq_true rfl⟩ (by decide +kernel) (fun _ => ?_)
        refine zr_if_eq (off := 9) (tgt := 60) (by decide +kernel) (by decide) (fun hc => ?_) (fun hc => ?_)
        · have hf := zift hf hc
          obtain ⟨q7, e7, hf⟩ := zbi_of hf
          refine zr_run [(.aload_n 1, 0, 0, 0, .null)] [] (WW' := [w_Ld G a0 y4, w_Rd G a1 q5.2]) (lv' := [some (.ref (a0 0)), some (.ref (a1 0)), some (.int q5.1), none]) (pc' := 61) (st' := [.ref (a1 0)]) (by decide +kernel) rfl rfl ⟨trivial, trivial⟩ ?_
          refine zr_callV (c_X7_advance l G a1 q5.2 q7 e7) (WW' := fun _ => [w_Ld G a0 y4, w_Rd G a1 q7]) (st := []) (st' := []) [1] rfl rfl (fun _ => Nat.le_of_ble_eq_true rfl) (fun _ => rfl) rfl rfl nm_X7_advance zw_3_21 zw_2_237 zw_2_238 zw_1_2 zw_2_239 rfl rfl rfl (Nat.le_of_ble_eq_true rfl) ⟨Nat.le_of_ble_eq_true rfl, Nat.le_of_ble_eq_true rfl⟩ (by decide +kernel) (fun _ => ?_)
          obtain ⟨h8, hf⟩ := zck_of hf
          obtain ⟨y9, e9, hf⟩ := zlet_of hf
          refine zr_run [(.aload_n 0, 0, 0, 0, .null), (.getfield 18, 0, 0, 2, .null), (.iconst 4, 0, 0, 0, .int (4 : Int32)), (.imul, 0, 0, 0, .null), (.istore_n 3, 0, 0, 0, .null), (.aload_n 0, 0, 0, 0, .null), (.getfield 41, 0, 0, 9, .null), (.iload_n 3, 0, 0, 0, .null), (.iconst 0, 0, 0, 0, .int (0 : Int32)), (.iadd, 0, 0, 0, .null), (.iload_n 2, 0, 0, 0, .null), (.iastore, 0, 5, 0, .null)] [] (WW' := [w_Ld G a0 (Ld_s_manRows y4 ((upd (Ld_manRows y4) (((Ld_men y4) * (4 : Int32)) + (0 : Int32)).toNatClampNeg q5.1))), w_Rd G a1 q7]) (lv' := [some (.ref (a0 0)), some (.ref (a1 0)), some (.int q5.1), some (.int ((Ld_men y4) * (4 : Int32)))]) (pc' := 80) (st' := []) (by decide +kernel) rfl rfl ⟨trivial, ⟨rfl, rfl, zw_1_158⟩, trivial, trivial, trivial, trivial, ⟨rfl, rfl, zw_1_173⟩, trivial, trivial, trivial, trivial, ⟨rfl, rfl, h8⟩, trivial⟩ ?_
          refine zr_eq (WW2 := [w_Ld G a0 y9, w_Rd G a1 q7]) (lv2 := [some (.ref (a0 0)), some (.ref (a1 0)), some (.int q5.1), some (.int ((Ld_men y4) * (4 : Int32)))]) (st2 := []) (by rw [e9]) rfl rfl ?_
          obtain ⟨q10, e10, hf⟩ := zbi_of hf
          refine zr_run [(.aload_n 0, 0, 0, 0, .null), (.getfield 41, 0, 0, 9, .null), (.iload_n 3, 0, 0, 0, .null), (.iconst 1, 0, 0, 0, .int (1 : Int32)), (.iadd, 0, 0, 0, .null), (.aload_n 1, 0, 0, 0, .null), (.iconst 1, 0, 0, 0, .int (1 : Int32)), (.bipush 20, 0, 0, 0, .int (20 : Int32))] [] (WW' := [w_Ld G a0 y9, w_Rd G a1 q7]) (lv' := [some (.ref (a0 0)), some (.ref (a1 0)), some (.int q5.1), some (.int ((Ld_men y4) * (4 : Int32)))]) (pc' := 91) (st' := [.int (20 : Int32), .int (1 : Int32), .ref (a1 0), .int (((Ld_men y4) * (4 : Int32)) + (1 : Int32)), .ref (a0 5)]) (by decide +kernel) rfl rfl ⟨trivial, ⟨rfl, rfl, zw_1_173⟩, trivial, trivial, trivial, trivial, trivial, trivial, trivial⟩ ?_
          refine zr_callV (c_X7_number l G a1 q7 (1 : Int32) (20 : Int32) q10 e10) (WW' := fun _ => [w_Ld G a0 y9, w_Rd G a1 q10.2]) (st := [.int (((Ld_men y4) * (4 : Int32)) + (1 : Int32)), .ref (a0 5)]) (st' := [.int q10.1, .int (((Ld_men y4) * (4 : Int32)) + (1 : Int32)), .ref (a0 5)]) [1] rfl rfl (fun _ => Nat.le_of_ble_eq_true rfl) (fun _ => rfl) rfl rfl nm_X7_number zw_3_34 zw_3_35 zw_3_36 zw_1_2 zw_3_37 rfl rfl rfl (Nat.le_of_ble_eq_true rfl) ⟨Nat.le_of_ble_eq_true rfl, Nat.le_of_ble_eq_true rfl⟩ (by decide +kernel) (fun _ => ?_)
          obtain ⟨h11, hf⟩ := zck_of hf
          obtain ⟨y12, e12, hf⟩ := zlet_of hf
          refine zr_run [(.iastore, 0, 5, 0, .null)] [] (WW' := [w_Ld G a0 (Ld_s_manRows y9 ((upd (Ld_manRows y9) (((Ld_men y4) * (4 : Int32)) + (1 : Int32)).toNatClampNeg q10.1))), w_Rd G a1 q10.2]) (lv' := [some (.ref (a0 0)), some (.ref (a1 0)), some (.int q5.1), some (.int ((Ld_men y4) * (4 : Int32)))]) (pc' := 95) (st' := []) (by decide +kernel) rfl rfl ⟨⟨rfl, rfl, h11⟩, trivial⟩ ?_
          refine zr_eq (WW2 := [w_Ld G a0 y12, w_Rd G a1 q10.2]) (lv2 := [some (.ref (a0 0)), some (.ref (a1 0)), some (.int q5.1), some (.int ((Ld_men y4) * (4 : Int32)))]) (st2 := []) (by rw [e12]) rfl rfl ?_
          obtain ⟨q13, e13, hf⟩ := zbi_of hf
          refine zr_run [(.aload_n 0, 0, 0, 0, .null), (.getfield 41, 0, 0, 9, .null), (.iload_n 3, 0, 0, 0, .null), (.iconst 2, 0, 0, 0, .int (2 : Int32)), (.iadd, 0, 0, 0, .null), (.aload_n 1, 0, 0, 0, .null), (.iconst 0, 0, 0, 0, .int (0 : Int32)), (.bipush 99, 0, 0, 0, .int (99 : Int32))] [] (WW' := [w_Ld G a0 y12, w_Rd G a1 q10.2]) (lv' := [some (.ref (a0 0)), some (.ref (a1 0)), some (.int q5.1), some (.int ((Ld_men y4) * (4 : Int32)))]) (pc' := 106) (st' := [.int (99 : Int32), .int (0 : Int32), .ref (a1 0), .int (((Ld_men y4) * (4 : Int32)) + (2 : Int32)), .ref (a0 5)]) (by decide +kernel) rfl rfl ⟨trivial, ⟨rfl, rfl, zw_1_173⟩, trivial, trivial, trivial, trivial, trivial, trivial, trivial⟩ ?_
          refine zr_callV (c_X7_number l G a1 q10.2 (0 : Int32) (99 : Int32) q13 e13) (WW' := fun _ => [w_Ld G a0 y12, w_Rd G a1 q13.2]) (st := [.int (((Ld_men y4) * (4 : Int32)) + (2 : Int32)), .ref (a0 5)]) (st' := [.int q13.1, .int (((Ld_men y4) * (4 : Int32)) + (2 : Int32)), .ref (a0 5)]) [1] rfl rfl (fun _ => Nat.le_of_ble_eq_true rfl) (fun _ => rfl) rfl rfl nm_X7_number zw_3_34 zw_3_35 zw_3_36 zw_1_2 zw_3_37 rfl rfl rfl (Nat.le_of_ble_eq_true rfl) ⟨Nat.le_of_ble_eq_true rfl, Nat.le_of_ble_eq_true rfl⟩ (by decide +kernel) (fun _ => ?_)
          obtain ⟨h14, hf⟩ := zck_of hf
          obtain ⟨y15, e15, hf⟩ := zlet_of hf
          refine zr_run [(.iastore, 0, 5, 0, .null)] [] (WW' := [w_Ld G a0 (Ld_s_manRows y12 ((upd (Ld_manRows y12) (((Ld_men y4) * (4 : Int32)) + (2 : Int32)).toNatClampNeg q13.1))), w_Rd G a1 q13.2]) (lv' := [some (.ref (a0 0)), some (.ref (a1 0)), some (.int q5.1), some (.int ((Ld_men y4) * (4 : Int32)))]) (pc' := 110) (st' := []) (by decide +kernel) rfl rfl ⟨⟨rfl, rfl, h14⟩, trivial⟩ ?_
          refine zr_eq (WW2 := [w_Ld G a0 y15, w_Rd G a1 q13.2]) (lv2 := [some (.ref (a0 0)), some (.ref (a1 0)), some (.int q5.1), some (.int ((Ld_men y4) * (4 : Int32)))]) (st2 := []) (by rw [e15]) rfl rfl ?_
          obtain ⟨h16, hf⟩ := zck_of hf
          obtain ⟨y17, e17, hf⟩ := zlet_of hf
          refine zr_run [(.aload_n 0, 0, 0, 0, .null), (.getfield 41, 0, 0, 9, .null), (.iload_n 3, 0, 0, 0, .null), (.iconst 3, 0, 0, 0, .int (3 : Int32)), (.iadd, 0, 0, 0, .null), (.iconst 0, 0, 0, 0, .int (0 : Int32)), (.iastore, 0, 5, 0, .null)] [] (WW' := [w_Ld G a0 (Ld_s_manRows y15 ((upd (Ld_manRows y15) (((Ld_men y4) * (4 : Int32)) + (3 : Int32)).toNatClampNeg (0 : Int32)))), w_Rd G a1 q13.2]) (lv' := [some (.ref (a0 0)), some (.ref (a1 0)), some (.int q5.1), some (.int ((Ld_men y4) * (4 : Int32)))]) (pc' := 119) (st' := []) (by decide +kernel) rfl rfl ⟨trivial, ⟨rfl, rfl, zw_1_173⟩, trivial, trivial, trivial, trivial, ⟨rfl, rfl, h16⟩, trivial⟩ ?_
          refine zr_eq (WW2 := [w_Ld G a0 y17, w_Rd G a1 q13.2]) (lv2 := [some (.ref (a0 0)), some (.ref (a1 0)), some (.int q5.1), some (.int ((Ld_men y4) * (4 : Int32)))]) (st2 := []) (by rw [e17]) rfl rfl ?_
          obtain ⟨y18, e18, hf⟩ := zlet_of hf
          refine zr_run [(.aload_n 0, 0, 0, 0, .null), (.dup, 0, 0, 0, .null), (.getfield 18, 0, 0, 2, .null), (.iconst 1, 0, 0, 0, .int (1 : Int32)), (.iadd, 0, 0, 0, .null), (.putfield 18, 0, 0, 2, .null)] [] (WW' := [w_Ld G a0 (Ld_s_men y17 ((Ld_men y17) + (1 : Int32))), w_Rd G a1 q13.2]) (lv' := [some (.ref (a0 0)), some (.ref (a1 0)), some (.int q5.1), some (.int ((Ld_men y4) * (4 : Int32)))]) (pc' := 129) (st' := []) (by decide +kernel) rfl rfl ⟨trivial, trivial, ⟨rfl, rfl, zw_1_158⟩, trivial, trivial, ⟨rfl, rfl, rfl, trivial, rfl, rfl, zw_1_158⟩, trivial⟩ ?_
          refine zr_eq (WW2 := [w_Ld G a0 y18, w_Rd G a1 q13.2]) (lv2 := [some (.ref (a0 0)), some (.ref (a1 0)), some (.int q5.1), some (.int ((Ld_men y4) * (4 : Int32)))]) (st2 := []) (by rw [e18]) rfl rfl ?_
          obtain rfl := Option.some.inj hf
          exact zr_vret (b0 := fun _ => 0) (by decide +kernel) rfl rfl rfl rfl rfl
        · have hf := ziff hf hc
          obtain ⟨q19, e19, hf⟩ := zbi_of hf
          refine zr_run [(.aload_n 1, 0, 0, 0, .null), (.iconst 3, 0, 0, 0, .int (3 : Int32))] [] (WW' := [w_Ld G a0 y4, w_Rd G a1 q5.2]) (lv' := [some (.ref (a0 0)), some (.ref (a1 0)), some (.int q5.1), none]) (pc' := 56) (st' := [.int (3 : Int32), .ref (a1 0)]) (by decide +kernel) rfl rfl ⟨trivial, trivial, trivial⟩ ?_
          refine zr_callV (c_X7_fail l G a1 q5.2 (3 : Int32) q19 e19) (WW' := fun _ => [w_Ld G a0 y4, w_Rd G a1 q19]) (st := []) (st' := []) [1] rfl rfl (fun _ => Nat.le_of_ble_eq_true rfl) (fun _ => rfl) rfl rfl nm_X7_fail zw_3_20 zw_3_9 zw_3_10 zw_1_2 zw_3_11 rfl rfl rfl (Nat.le_of_ble_eq_true rfl) ⟨Nat.le_of_ble_eq_true rfl, Nat.le_of_ble_eq_true rfl⟩ (by decide +kernel) (fun _ => ?_)
          obtain rfl := Option.some.inj hf
          exact zr_vret (b0 := fun _ => 0) (by decide +kernel) rfl rfl rfl rfl rfl
    · have hf := ziff hf hc
      obtain ⟨q20, e20, hf⟩ := zbi_of hf
      refine zr_run [(.aload_n 1, 0, 0, 0, .null), (.iconst 4, 0, 0, 0, .int (4 : Int32))] [] (WW' := [w_Ld G a0 s0, w_Rd G a1 s1]) (lv' := [some (.ref (a0 0)), some (.ref (a1 0)), none, none]) (pc' := 11) (st' := [.int (4 : Int32), .ref (a1 0)]) (by decide +kernel) rfl rfl ⟨trivial, trivial, trivial⟩ ?_
      refine zr_callV (c_X7_fail l G a1 s1 (4 : Int32) q20 e20) (WW' := fun _ => [w_Ld G a0 s0, w_Rd G a1 q20]) (st := []) (st' := []) [1] rfl rfl (fun _ => Nat.le_of_ble_eq_true rfl) (fun _ => rfl) rfl rfl nm_X7_fail zw_3_20 zw_3_9 zw_3_10 zw_1_2 zw_3_11 rfl rfl rfl (Nat.le_of_ble_eq_true rfl) ⟨Nat.le_of_ble_eq_true rfl, Nat.le_of_ble_eq_true rfl⟩ (by decide +kernel) (fun _ => ?_)
      obtain rfl := Option.some.inj hf
      exact zr_vret (b0 := fun _ => 0) (by decide +kernel) rfl rfl rfl rfl rfl
  exact zj_entry [some (.ref (a0 0)), some (.ref (a1 0)), none, none] (by decide +kernel) rfl (by decide) (Nat.le_of_ble_eq_true rfl) rfl rfl (key _)
def M_X3_knownMan : zj_M := (RX3, cX3_knownMan, 3, (some .int), { frames := 1, cells := 0, slots := 0, locals := 23 }, false)
theorem nm_X3_knownMan : zj_nm yX3_knownMan 1 := ⟨by decide +kernel, by decide +kernel, by decide +kernel⟩
def f_X3_knownMan_b34  (s0 : LdT) (s1 : RdT)  (z0 : Int32) : Option (Int32 × RdT) := (if z0 = (-1 : Int32) then ((f_X7_fail s1 (3 : Int32)).bind fun q2 => some (z0, q2)) else some (z0, s1))
def f_X3_knownMan  (s0 : LdT) (s1 : RdT)  : Option (Int32 × RdT) := (if (Rd_kind s1) = (3 : Int32) then (if (Rd_fault s1) = 0 then ((f_X3_manNamed s0 (Rd_name s1)).bind fun q1 => f_X3_knownMan_b34 s0 s1 q1) else f_X3_knownMan_b34 s0 s1 (-1 : Int32)) else ((f_X7_fail s1 (1 : Int32)).bind fun q3 => some ((-1 : Int32), q3)))
set_option maxRecDepth 100000 in
set_option maxHeartbeats 4000000 in
theorem t_X3_knownMan_b34 (l : Launch) (G : zj_G) (a0 : Nat → Nat) (a1 : Nat → Nat) (W0 : List va_W) (r : Int32 × RdT) (s0 : LdT) (s1 : RdT)   (z0 : Int32) (hf : f_X3_knownMan_b34 s0 s1 z0 = some r) : zj_J l G M_X3_knownMan W0 (zj_ret G M_X3_knownMan W0 (some (.int r.1)) (fun _ => [w_Ld G a0 s0, w_Rd G a1 r.2])) 0 0 [w_Ld G a0 s0, w_Rd G a1 s1] [none, some (.ref (a1 0)), none] 34 [.int z0] := by
  unfold f_X3_knownMan_b34 at hf
  refine zr_run [(.istore_n 2, 0, 0, 0, .null), (.iload_n 2, 0, 0, 0, .null), (.iconst (-1), 0, 0, 0, .int (-1 : Int32))] [] (WW' := [w_Ld G a0 s0, w_Rd G a1 s1]) (lv' := [none, some (.ref (a1 0)), some (.int z0)]) (pc' := 37) (st' := [.int (-1 : Int32), .int z0]) (by decide +kernel) rfl rfl ⟨trivial, trivial, trivial, trivial⟩ ?_
  refine zr_icmp_ne (off := 8) (tgt := 45) (by decide +kernel) (by decide) (fun hc => ?_) (fun hc => ?_)
  · have hf := zift hf hc
    obtain ⟨q2, e2, hf⟩ := zbi_of hf
    refine zr_run [(.aload_n 1, 0, 0, 0, .null), (.iconst 3, 0, 0, 0, .int (3 : Int32))] [] (WW' := [w_Ld G a0 s0, w_Rd G a1 s1]) (lv' := [none, some (.ref (a1 0)), some (.int z0)]) (pc' := 42) (st' := [.int (3 : Int32), .ref (a1 0)]) (by decide +kernel) rfl rfl ⟨trivial, trivial, trivial⟩ ?_
    refine zr_callV (c_X7_fail l G a1 s1 (3 : Int32) q2 e2) (WW' := fun _ => [w_Ld G a0 s0, w_Rd G a1 q2]) (st := []) (st' := []) [1] rfl rfl (fun _ => Nat.le_of_ble_eq_true rfl) (fun _ => rfl) rfl rfl nm_X7_fail zw_3_20 zw_3_9 zw_3_10 zw_1_2 zw_3_11 rfl rfl rfl (Nat.le_of_ble_eq_true rfl) ⟨Nat.le_of_ble_eq_true rfl, Nat.le_of_ble_eq_true rfl⟩ (by decide +kernel) (fun _ => ?_)
    refine zr_run [(.iload_n 2, 0, 0, 0, .null)] [] (WW' := [w_Ld G a0 s0, w_Rd G a1 q2]) (lv' := [none, some (.ref (a1 0)), some (.int z0)]) (pc' := 46) (st' := [.int z0]) (by decide +kernel) rfl rfl ⟨trivial, trivial⟩ ?_
    obtain rfl := Option.some.inj hf
    exact zr_iret (b0 := fun _ => 0) (by decide +kernel) rfl rfl rfl rfl rfl
  · have hf := ziff hf hc
    refine zr_run [(.iload_n 2, 0, 0, 0, .null)] [] (WW' := [w_Ld G a0 s0, w_Rd G a1 s1]) (lv' := [none, some (.ref (a1 0)), some (.int z0)]) (pc' := 46) (st' := [.int z0]) (by decide +kernel) rfl rfl ⟨trivial, trivial⟩ ?_
    obtain rfl := Option.some.inj hf
    exact zr_iret (b0 := fun _ => 0) (by decide +kernel) rfl rfl rfl rfl rfl
set_option maxRecDepth 100000 in
set_option maxHeartbeats 4000000 in
theorem c_X3_knownMan (l : Launch) (G : zj_G) (a0 : Nat → Nat) (a1 : Nat → Nat) (s0 : LdT) (s1 : RdT)  (r : Int32 × RdT) (hf : f_X3_knownMan s0 s1 = some r) : zj_C l G M_X3_knownMan yX3_knownMan [w_Ld G a0 s0, w_Rd G a1 s1] [.ref (a0 0), .ref (a1 0)] (some (.int r.1)) (fun _ => [w_Ld G a0 s0, w_Rd G a1 r.2]) := by
  have key : ∀ W0 : List va_W, zj_J l G M_X3_knownMan W0 (zj_ret G M_X3_knownMan W0 (some (.int r.1)) (fun _ => [w_Ld G a0 s0, w_Rd G a1 r.2])) 0 0 [w_Ld G a0 s0, w_Rd G a1 s1] [some (.ref (a0 0)), some (.ref (a1 0)), none] 0 [] := by
    intro W0
    unfold f_X3_knownMan at hf
    refine zr_run [(.aload_n 1, 0, 0, 0, .null), (.getfield 147, 1, 0, 6, .null), (.iconst 3, 0, 0, 0, .int (3 : Int32))] [] (WW' := [w_Ld G a0 s0, w_Rd G a1 s1]) (lv' := [some (.ref (a0 0)), some (.ref (a1 0)), none]) (pc' := 5) (st' := [.int (3 : Int32), .int (Rd_kind s1)]) (by decide +kernel) rfl rfl ⟨trivial, ⟨rfl, rfl, zw_1_101⟩, trivial, trivial⟩ ?_
    refine zr_icmp_eq (off := 10) (tgt := 15) (by decide +kernel) (by decide) (fun hc => ?_) (fun hc => ?_)
    · have hf := zift hf hc
      refine zr_run [(.aload_n 1, 0, 0, 0, .null), (.getfield 97, 1, 0, 11, .null)] [] (WW' := [w_Ld G a0 s0, w_Rd G a1 s1]) (lv' := [some (.ref (a0 0)), some (.ref (a1 0)), none]) (pc' := 19) (st' := [.int (Rd_fault s1)]) (by decide +kernel) rfl rfl ⟨trivial, ⟨rfl, rfl, zw_1_114⟩, trivial⟩ ?_
      refine zr_if_ne (off := 14) (tgt := 33) (by decide +kernel) (by decide) (fun hc => ?_) (fun hc => ?_)
      · have hf := zift hf hc
        obtain ⟨q1, e1, hf⟩ := zbi_of hf
        refine zr_run [(.aload_n 0, 0, 0, 0, .null), (.aload_n 1, 0, 0, 0, .null), (.getfield 150, 1, 0, 10, .null)] [] (WW' := [w_Ld G a0 s0, w_Rd G a1 s1]) (lv' := [some (.ref (a0 0)), some (.ref (a1 0)), none]) (pc' := 27) (st' := [.long (Rd_name s1), .ref (a0 0)]) (by decide +kernel) rfl rfl ⟨trivial, trivial, ⟨rfl, rfl, zw_1_109⟩, trivial⟩ ?_
        refine zr_callV (c_X3_manNamed l G a0 s0 (Rd_name s1) q1 e1) (WW' := fun _ => [w_Ld G a0 s0, w_Rd G a1 s1]) (st := []) (st' := [.int q1]) [0] rfl rfl (fun _ => Nat.le_of_ble_eq_true rfl) (fun _ => rfl) rfl rfl nm_X3_manNamed zw_3_30 zw_3_31 zw_3_32 zw_1_7 zw_3_33 rfl rfl rfl (Nat.le_of_ble_eq_true rfl) ⟨Nat.le_of_ble_eq_true rfl, Nat.le_of_ble_eq_true rfl⟩ (by decide +kernel) (fun _ => ?_)
        refine zr_goto (off := 4) (tgt := 34) (by decide +kernel) (by decide) ?_
        refine zr_run [] [0] (WW' := [w_Ld G a0 s0, w_Rd G a1 s1]) (lv' := [none, some (.ref (a1 0)), none]) (pc' := 34) (st' := [.int q1]) (by decide +kernel) rfl rfl trivial ?_
        exact t_X3_knownMan_b34 l G a0 a1 W0 r s0 s1 q1 hf
      · have hf := ziff hf hc
        refine zr_run [(.iconst (-1), 0, 0, 0, .int (-1 : Int32))] [0] (WW' := [w_Ld G a0 s0, w_Rd G a1 s1]) (lv' := [none, some (.ref (a1 0)), none]) (pc' := 34) (st' := [.int (-1 : Int32)]) (by decide +kernel) rfl rfl ⟨trivial, trivial⟩ ?_
        exact t_X3_knownMan_b34 l G a0 a1 W0 r s0 s1 (-1 : Int32) hf
    · have hf := ziff hf hc
      obtain ⟨q3, e3, hf⟩ := zbi_of hf
      refine zr_run [(.aload_n 1, 0, 0, 0, .null), (.iconst 1, 0, 0, 0, .int (1 : Int32))] [] (WW' := [w_Ld G a0 s0, w_Rd G a1 s1]) (lv' := [some (.ref (a0 0)), some (.ref (a1 0)), none]) (pc' := 10) (st' := [.int (1 : Int32), .ref (a1 0)]) (by decide +kernel) rfl rfl ⟨trivial, trivial, trivial⟩ ?_
      refine zr_callV (c_X7_fail l G a1 s1 (1 : Int32) q3 e3) (WW' := fun _ => [w_Ld G a0 s0, w_Rd G a1 q3]) (st := []) (st' := []) [1] rfl rfl (fun _ => Nat.le_of_ble_eq_true rfl) (fun _ => rfl) rfl rfl nm_X7_fail zw_3_20 zw_3_9 zw_3_10 zw_1_2 zw_3_11 rfl rfl rfl (Nat.le_of_ble_eq_true rfl) ⟨Nat.le_of_ble_eq_true rfl, Nat.le_of_ble_eq_true rfl⟩ (by decide +kernel) (fun _ => ?_)
      refine zr_run [(.iconst (-1), 0, 0, 0, .int (-1 : Int32))] [] (WW' := [w_Ld G a0 s0, w_Rd G a1 q3]) (lv' := [some (.ref (a0 0)), some (.ref (a1 0)), none]) (pc' := 14) (st' := [.int (-1 : Int32)]) (by decide +kernel) rfl rfl ⟨trivial, trivial⟩ ?_
      obtain rfl := Option.some.inj hf
      exact zr_iret (b0 := fun _ => 0) (by decide +kernel) rfl rfl rfl rfl rfl
  exact zj_entry [some (.ref (a0 0)), some (.ref (a1 0)), none] (by decide +kernel) rfl (by decide) (Nat.le_of_ble_eq_true rfl) rfl rfl (key _)
def M_X3_readKin : zj_M := (RX3, cX3_readKin, 3, none, { frames := 2, cells := 0, slots := 0, locals := 45 }, false)
theorem nm_X3_readKin : zj_nm yX3_readKin 1 := ⟨by decide +kernel, by decide +kernel, by decide +kernel⟩
def f_X3_readKin  (s0 : LdT) (s1 : RdT)  : Option (LdT × RdT) := ((f_X7_advance s1).bind fun q1 => ((f_X3_knownMan s0 q1).bind fun q2 => (if q2.1 = (-1 : Int32) then some (s0, q2.2) else ((f_X3_ofMan s0 q2.1 (3 : Int32)).bind fun q3 => (if q3 = (1 : Int32) then ((f_X7_fail q2.2 (3 : Int32)).bind fun q4 => some (s0, q4)) else (if zb_in ((q2.1 * (4 : Int32)) + (3 : Int32)) 24 = true then (zlet (Ld_s_manRows s0 ((upd (Ld_manRows s0) ((q2.1 * (4 : Int32)) + (3 : Int32)).toNatClampNeg (1 : Int32)))) fun y6 => ((f_X7_advance q2.2).bind fun q7 => some (y6, q7))) else none))))))
set_option maxRecDepth 100000 in
set_option maxHeartbeats 4000000 in
theorem c_X3_readKin (l : Launch) (G : zj_G) (a0 : Nat → Nat) (a1 : Nat → Nat) (s0 : LdT) (s1 : RdT)  (r : LdT × RdT) (hf : f_X3_readKin s0 s1 = some r) : zj_C l G M_X3_readKin yX3_readKin [w_Ld G a0 s0, w_Rd G a1 s1] [.ref (a0 0), .ref (a1 0)] (none) (fun _ => [w_Ld G a0 r.1, w_Rd G a1 r.2]) := by
  have key : ∀ W0 : List va_W, zj_J l G M_X3_readKin W0 (zj_ret G M_X3_readKin W0 (none) (fun _ => [w_Ld G a0 r.1, w_Rd G a1 r.2])) 0 0 [w_Ld G a0 s0, w_Rd G a1 s1] [some (.ref (a0 0)), some (.ref (a1 0)), none] 0 [] := by
    intro W0
    unfold f_X3_readKin at hf
    obtain ⟨q1, e1, hf⟩ := zbi_of hf
    refine zr_run [(.aload_n 1, 0, 0, 0, .null)] [] (WW' := [w_Ld G a0 s0, w_Rd G a1 s1]) (lv' := [some (.ref (a0 0)), some (.ref (a1 0)), none]) (pc' := 1) (st' := [.ref (a1 0)]) (by decide +kernel) rfl rfl ⟨trivial, trivial⟩ ?_
    refine zr_callV (c_X7_advance l G a1 s1 q1 e1) (WW' := fun _ => [w_Ld G a0 s0, w_Rd G a1 q1]) (st := []) (st' := []) [1] rfl rfl (fun _ => Nat.le_of_ble_eq_true rfl) (fun _ => rfl) rfl rfl nm_X7_advance zw_3_21 zw_2_237 zw_2_238 zw_1_2 zw_2_239 rfl rfl rfl (Nat.le_of_ble_eq_true rfl) ⟨Nat.le_of_ble_eq_true rfl, Nat.le_of_ble_eq_true rfl⟩ (by decide +kernel) (fun _ => ?_)
    obtain ⟨q2, e2, hf⟩ := zbi_of hf
    refine zr_run [(.aload_n 0, 0, 0, 0, .null), (.aload_n 1, 0, 0, 0, .null)] [] (WW' := [w_Ld G a0 s0, w_Rd G a1 q1]) (lv' := [some (.ref (a0 0)), some (.ref (a1 0)), none]) (pc' := 6) (st' := [.ref (a1 0), .ref (a0 0)]) (by decide +kernel) rfl rfl ⟨trivial, trivial, trivial⟩ ?_
    refine zr_callV (c_X3_knownMan l G a0 a1 s0 q1 q2 e2) (WW' := fun _ => [w_Ld G a0 s0, w_Rd G a1 q2.2]) (st := []) (st' := [.int q2.1]) [0, 1] rfl rfl (fun _ => Nat.le_of_ble_eq_true rfl) (fun _ => rfl) rfl rfl nm_X3_knownMan zw_3_62 zw_3_63 zw_3_64 zw_1_7 zw_3_65 rfl rfl rfl (Nat.le_of_ble_eq_true rfl) ⟨Nat.le_of_ble_eq_true rfl, Nat.le_of_ble_eq_true rfl⟩ (by decide +kernel) (fun _ => ?_)
    refine zr_run [(.istore_n 2, 0, 0, 0, .null), (.iload_n 2, 0, 0, 0, .null), (.iconst (-1), 0, 0, 0, .int (-1 : Int32))] [] (WW' := [w_Ld G a0 s0, w_Rd G a1 q2.2]) (lv' := [some (.ref (a0 0)), some (.ref (a1 0)), some (.int q2.1)]) (pc' := 12) (st' := [.int (-1 : Int32), .int q2.1]) (by decide +kernel) rfl rfl ⟨trivial, trivial, trivial, trivial⟩ ?_
    refine zr_icmp_ne (off := 4) (tgt := 16) (by decide +kernel) (by decide) (fun hc => ?_) (fun hc => ?_)
    · have hf := zift hf hc
      obtain rfl := Option.some.inj hf
      exact zr_vret (b0 := fun _ => 0) (by decide +kernel) rfl rfl rfl rfl rfl
    · have hf := ziff hf hc
      obtain ⟨q3, e3, hf⟩ := zbi_of hf
      refine zr_run [(.aload_n 0, 0, 0, 0, .null), (.iload_n 2, 0, 0, 0, .null), (.iconst 3, 0, 0, 0, .int (3 : Int32))] [] (WW' := [w_Ld G a0 s0, w_Rd G a1 q2.2]) (lv' := [some (.ref (a0 0)), some (.ref (a1 0)), some (.int q2.1)]) (pc' := 19) (st' := [.int (3 : Int32), .int q2.1, .ref (a0 0)]) (by decide +kernel) rfl rfl ⟨trivial, trivial, trivial, trivial⟩ ?_
      refine zr_callV (c_X3_ofMan l G a0 s0 q2.1 (3 : Int32) q3 e3) (WW' := fun _ => [w_Ld G a0 s0, w_Rd G a1 q2.2]) (st := []) (st' := [.int q3]) [0] rfl rfl (fun _ => Nat.le_of_ble_eq_true rfl) (fun _ => rfl) rfl rfl nm_X3_ofMan zw_3_66 zw_3_67 zw_3_68 zw_1_7 zw_3_67n rfl rfl rfl (Nat.le_of_ble_eq_true rfl) ⟨Nat.le_of_ble_eq_true rfl, Nat.le_of_ble_eq_true rfl⟩ (by decide +kernel) (fun _ => ?_)
      refine zr_run [(.iconst 1, 0, 0, 0, .int (1 : Int32))] [] (WW' := [w_Ld G a0 s0, w_Rd G a1 q2.2]) (lv' := [some (.ref (a0 0)), some (.ref (a1 0)), some (.int q2.1)]) (pc' := 23) (st' := [.int (1 : Int32), .int q3]) (by decide +kernel) rfl rfl ⟨trivial, trivial⟩ ?_
      refine zr_icmp_ne (off := 9) (tgt := 32) (by decide +kernel) (by decide) (fun hc => ?_) (fun hc => ?_)
      · have hf := zift hf hc
        obtain ⟨q4, e4, hf⟩ := zbi_of hf
        refine zr_run [(.aload_n 1, 0, 0, 0, .null), (.iconst 3, 0, 0, 0, .int (3 : Int32))] [] (WW' := [w_Ld G a0 s0, w_Rd G a1 q2.2]) (lv' := [some (.ref (a0 0)), some (.ref (a1 0)), some (.int q2.1)]) (pc' := 28) (st' := [.int (3 : Int32), .ref (a1 0)]) (by decide +kernel) rfl rfl ⟨trivial, trivial, trivial⟩ ?_
        refine zr_callV (c_X7_fail l G a1 q2.2 (3 : Int32) q4 e4) (WW' := fun _ => [w_Ld G a0 s0, w_Rd G a1 q4]) (st := []) (st' := []) [1] rfl rfl (fun _ => Nat.le_of_ble_eq_true rfl) (fun _ => rfl) rfl rfl nm_X7_fail zw_3_20 zw_3_9 zw_3_10 zw_1_2 zw_3_11 rfl rfl rfl (Nat.le_of_ble_eq_true rfl) ⟨Nat.le_of_ble_eq_true rfl, Nat.le_of_ble_eq_true rfl⟩ (by decide +kernel) (fun _ => ?_)
        obtain rfl := Option.some.inj hf
        exact zr_vret (b0 := fun _ => 0) (by decide +kernel) rfl rfl rfl rfl rfl
      · have hf := ziff hf hc
        obtain ⟨h5, hf⟩ := zck_of hf
        obtain ⟨y6, e6, hf⟩ := zlet_of hf
        refine zr_run [(.aload_n 0, 0, 0, 0, .null), (.getfield 41, 0, 0, 9, .null), (.iload_n 2, 0, 0, 0, .null), (.iconst 4, 0, 0, 0, .int (4 : Int32)), (.imul, 0, 0, 0, .null), (.iconst 3, 0, 0, 0, .int (3 : Int32)), (.iadd, 0, 0, 0, .null), (.iconst 1, 0, 0, 0, .int (1 : Int32)), (.iastore, 0, 5, 0, .null)] [] (WW' := [w_Ld G a0 (Ld_s_manRows s0 ((upd (Ld_manRows s0) ((q2.1 * (4 : Int32)) + (3 : Int32)).toNatClampNeg (1 : Int32)))), w_Rd G a1 q2.2]) (lv' := [some (.ref (a0 0)), some (.ref (a1 0)), some (.int q2.1)]) (pc' := 43) (st' := []) (by decide +kernel) rfl rfl ⟨trivial, ⟨rfl, rfl, zw_1_173⟩, trivial, trivial, trivial, trivial, trivial, trivial, ⟨rfl, rfl, h5⟩, trivial⟩ ?_
        refine zr_eq (WW2 := [w_Ld G a0 y6, w_Rd G a1 q2.2]) (lv2 := [some (.ref (a0 0)), some (.ref (a1 0)), some (.int q2.1)]) (st2 := []) (by rw [e6]) rfl rfl ?_
        obtain ⟨q7, e7, hf⟩ := zbi_of hf
        refine zr_run [(.aload_n 1, 0, 0, 0, .null)] [] (WW' := [w_Ld G a0 y6, w_Rd G a1 q2.2]) (lv' := [some (.ref (a0 0)), some (.ref (a1 0)), some (.int q2.1)]) (pc' := 44) (st' := [.ref (a1 0)]) (by decide +kernel) rfl rfl ⟨trivial, trivial⟩ ?_
        refine zr_callV (c_X7_advance l G a1 q2.2 q7 e7) (WW' := fun _ => [w_Ld G a0 y6, w_Rd G a1 q7]) (st := []) (st' := []) [1] rfl rfl (fun _ => Nat.le_of_ble_eq_true rfl) (fun _ => rfl) rfl rfl nm_X7_advance zw_3_21 zw_2_237 zw_2_238 zw_1_2 zw_2_239 rfl rfl rfl (Nat.le_of_ble_eq_true rfl) ⟨Nat.le_of_ble_eq_true rfl, Nat.le_of_ble_eq_true rfl⟩ (by decide +kernel) (fun _ => ?_)
        obtain rfl := Option.some.inj hf
        exact zr_vret (b0 := fun _ => 0) (by decide +kernel) rfl rfl rfl rfl rfl
  exact zj_entry [some (.ref (a0 0)), some (.ref (a1 0)), none] (by decide +kernel) rfl (by decide) (Nat.le_of_ble_eq_true rfl) rfl rfl (key _)
def M_X3_readLine : zj_M := (RX3, cX3_readLine, 2, none, { frames := 4, cells := 0, slots := 0, locals := 91 }, false)
theorem nm_X3_readLine : zj_nm yX3_readLine 1 := ⟨by decide +kernel, by decide +kernel, by decide +kernel⟩
def f_X3_readLine_b23  (s0 : LdT) (s1 : RdT)   : Option (LdT × RdT) := ((f_X3_readPlace s0 s1).bind fun q1 => some (q1.1, q1.2))
def f_X3_readLine  (s0 : LdT) (s1 : RdT)  : Option (LdT × RdT) := (if (Rd_key s1) = 0 then f_X3_readLine_b23 s0 s1 else (if (Rd_key s1) = (1 : Int32) then f_X3_readLine_b23 s0 s1 else (if (Rd_key s1) = (2 : Int32) then f_X3_readLine_b23 s0 s1 else (if (Rd_key s1) = (3 : Int32) then ((f_X3_readRoad s0 s1).bind fun q2 => some (q2.1, q2.2)) else (if (Rd_key s1) = (5 : Int32) then ((f_X3_readMan s0 s1).bind fun q3 => some (q3.1, q3.2)) else (if (Rd_key s1) = (6 : Int32) then ((f_X3_readKin s0 s1).bind fun q4 => some (q4.1, q4.2)) else ((f_X7_fail s1 (1 : Int32)).bind fun q5 => some (s0, q5))))))))
set_option maxRecDepth 100000 in
set_option maxHeartbeats 4000000 in
theorem t_X3_readLine_b23 (l : Launch) (G : zj_G) (a0 : Nat → Nat) (a1 : Nat → Nat) (W0 : List va_W) (r : LdT × RdT) (s0 : LdT) (s1 : RdT)    (hf : f_X3_readLine_b23 s0 s1 = some r) : zj_J l G M_X3_readLine W0 (zj_ret G M_X3_readLine W0 (none) (fun _ => [w_Ld G a0 r.1, w_Rd G a1 r.2])) 0 0 [w_Ld G a0 s0, w_Rd G a1 s1] [some (.ref (a0 0)), some (.ref (a1 0))] 23 [] := by
  unfold f_X3_readLine_b23 at hf
  obtain ⟨q1, e1, hf⟩ := zbi_of hf
  refine zr_run [(.aload_n 0, 0, 0, 0, .null), (.aload_n 1, 0, 0, 0, .null)] [] (WW' := [w_Ld G a0 s0, w_Rd G a1 s1]) (lv' := [some (.ref (a0 0)), some (.ref (a1 0))]) (pc' := 25) (st' := [.ref (a1 0), .ref (a0 0)]) (by decide +kernel) rfl rfl ⟨trivial, trivial, trivial⟩ ?_
  refine zr_callV (c_X3_readPlace l G a0 a1 s0 s1 q1 e1) (WW' := fun _ => [w_Ld G a0 q1.1, w_Rd G a1 q1.2]) (st := []) (st' := []) [0, 1] rfl rfl (fun _ => Nat.le_of_ble_eq_true rfl) (fun _ => rfl) rfl rfl nm_X3_readPlace zw_3_16 zw_3_18 zw_0_2 zw_1_7 zw_3_19 rfl rfl rfl (Nat.le_of_ble_eq_true rfl) ⟨Nat.le_of_ble_eq_true rfl, Nat.le_of_ble_eq_true rfl⟩ (by decide +kernel) (fun _ => ?_)
  refine zr_goto (off := 57) (tgt := 85) (by decide +kernel) (by decide) ?_
  obtain rfl := Option.some.inj hf
  exact zr_vret (b0 := fun _ => 0) (by decide +kernel) rfl rfl rfl rfl rfl
set_option maxRecDepth 100000 in
set_option maxHeartbeats 4000000 in
theorem c_X3_readLine (l : Launch) (G : zj_G) (a0 : Nat → Nat) (a1 : Nat → Nat) (s0 : LdT) (s1 : RdT)  (r : LdT × RdT) (hf : f_X3_readLine s0 s1 = some r) : zj_C l G M_X3_readLine yX3_readLine [w_Ld G a0 s0, w_Rd G a1 s1] [.ref (a0 0), .ref (a1 0)] (none) (fun _ => [w_Ld G a0 r.1, w_Rd G a1 r.2]) := by
  have key : ∀ W0 : List va_W, zj_J l G M_X3_readLine W0 (zj_ret G M_X3_readLine W0 (none) (fun _ => [w_Ld G a0 r.1, w_Rd G a1 r.2])) 0 0 [w_Ld G a0 s0, w_Rd G a1 s1] [some (.ref (a0 0)), some (.ref (a1 0))] 0 [] := by
    intro W0
    unfold f_X3_readLine at hf
    refine zr_run [(.aload_n 1, 0, 0, 0, .null), (.getfield 106, 1, 0, 8, .null)] [] (WW' := [w_Ld G a0 s0, w_Rd G a1 s1]) (lv' := [some (.ref (a0 0)), some (.ref (a1 0))]) (pc' := 4) (st' := [.int (Rd_key s1)]) (by decide +kernel) rfl rfl ⟨trivial, ⟨rfl, rfl, zw_1_106⟩, trivial⟩ ?_
    refine zr_if_eq (off := 19) (tgt := 23) (by decide +kernel) (by decide) (fun hc => ?_) (fun hc => ?_)
    · have hf := zift hf hc
      exact t_X3_readLine_b23 l G a0 a1 W0 r s0 s1 hf
    · have hf := ziff hf hc
      refine zr_run [(.aload_n 1, 0, 0, 0, .null), (.getfield 106, 1, 0, 8, .null), (.iconst 1, 0, 0, 0, .int (1 : Int32))] [] (WW' := [w_Ld G a0 s0, w_Rd G a1 s1]) (lv' := [some (.ref (a0 0)), some (.ref (a1 0))]) (pc' := 12) (st' := [.int (1 : Int32), .int (Rd_key s1)]) (by decide +kernel) rfl rfl ⟨trivial, ⟨rfl, rfl, zw_1_106⟩, trivial, trivial⟩ ?_
      refine zr_icmp_eq (off := 11) (tgt := 23) (by decide +kernel) (by decide) (fun hc => ?_) (fun hc => ?_)
      · have hf := zift hf hc
        exact t_X3_readLine_b23 l G a0 a1 W0 r s0 s1 hf
      · have hf := ziff hf hc
        refine zr_run [(.aload_n 1, 0, 0, 0, .null), (.getfield 106, 1, 0, 8, .null), (.iconst 2, 0, 0, 0, .int (2 : Int32))] [] (WW' := [w_Ld G a0 s0, w_Rd G a1 s1]) (lv' := [some (.ref (a0 0)), some (.ref (a1 0))]) (pc' := 20) (st' := [.int (2 : Int32), .int (Rd_key s1)]) (by decide +kernel) rfl rfl ⟨trivial, ⟨rfl, rfl, zw_1_106⟩, trivial, trivial⟩ ?_
        refine zr_icmp_ne (off := 11) (tgt := 31) (by decide +kernel) (by decide) (fun hc => ?_) (fun hc => ?_)
        · have hf := zift hf hc
          exact t_X3_readLine_b23 l G a0 a1 W0 r s0 s1 hf
        · have hf := ziff hf hc
          refine zr_run [(.aload_n 1, 0, 0, 0, .null), (.getfield 106, 1, 0, 8, .null), (.iconst 3, 0, 0, 0, .int (3 : Int32))] [] (WW' := [w_Ld G a0 s0, w_Rd G a1 s1]) (lv' := [some (.ref (a0 0)), some (.ref (a1 0))]) (pc' := 36) (st' := [.int (3 : Int32), .int (Rd_key s1)]) (by decide +kernel) rfl rfl ⟨trivial, ⟨rfl, rfl, zw_1_106⟩, trivial, trivial⟩ ?_
          refine zr_icmp_ne (off := 11) (tgt := 47) (by decide +kernel) (by decide) (fun hc => ?_) (fun hc => ?_)
          · have hf := zift hf hc
            obtain ⟨q2, e2, hf⟩ := zbi_of hf
            refine zr_run [(.aload_n 0, 0, 0, 0, .null), (.aload_n 1, 0, 0, 0, .null)] [] (WW' := [w_Ld G a0 s0, w_Rd G a1 s1]) (lv' := [some (.ref (a0 0)), some (.ref (a1 0))]) (pc' := 41) (st' := [.ref (a1 0), .ref (a0 0)]) (by decide +kernel) rfl rfl ⟨trivial, trivial, trivial⟩ ?_
            refine zr_callV (c_X3_readRoad l G a0 a1 s0 s1 q2 e2) (WW' := fun _ => [w_Ld G a0 q2.1, w_Rd G a1 q2.2]) (st := []) (st' := []) [0, 1] rfl rfl (fun _ => Nat.le_of_ble_eq_true rfl) (fun _ => rfl) rfl rfl nm_X3_readRoad zw_3_38 zw_3_40 zw_0_4 zw_1_7 zw_3_41 rfl rfl rfl (Nat.le_of_ble_eq_true rfl) ⟨Nat.le_of_ble_eq_true rfl, Nat.le_of_ble_eq_true rfl⟩ (by decide +kernel) (fun _ => ?_)
            refine zr_goto (off := 41) (tgt := 85) (by decide +kernel) (by decide) ?_
            obtain rfl := Option.some.inj hf
            exact zr_vret (b0 := fun _ => 0) (by decide +kernel) rfl rfl rfl rfl rfl
          · have hf := ziff hf hc
            refine zr_run [(.aload_n 1, 0, 0, 0, .null), (.getfield 106, 1, 0, 8, .null), (.iconst 5, 0, 0, 0, .int (5 : Int32))] [] (WW' := [w_Ld G a0 s0, w_Rd G a1 s1]) (lv' := [some (.ref (a0 0)), some (.ref (a1 0))]) (pc' := 52) (st' := [.int (5 : Int32), .int (Rd_key s1)]) (by decide +kernel) rfl rfl ⟨trivial, ⟨rfl, rfl, zw_1_106⟩, trivial, trivial⟩ ?_
            refine zr_icmp_ne (off := 11) (tgt := 63) (by decide +kernel) (by decide) (fun hc => ?_) (fun hc => ?_)
            · have hf := zift hf hc
              obtain ⟨q3, e3, hf⟩ := zbi_of hf
              refine zr_run [(.aload_n 0, 0, 0, 0, .null), (.aload_n 1, 0, 0, 0, .null)] [] (WW' := [w_Ld G a0 s0, w_Rd G a1 s1]) (lv' := [some (.ref (a0 0)), some (.ref (a1 0))]) (pc' := 57) (st' := [.ref (a1 0), .ref (a0 0)]) (by decide +kernel) rfl rfl ⟨trivial, trivial, trivial⟩ ?_
              refine zr_callV (c_X3_readMan l G a0 a1 s0 s1 q3 e3) (WW' := fun _ => [w_Ld G a0 q3.1, w_Rd G a1 q3.2]) (st := []) (st' := []) [0, 1] rfl rfl (fun _ => Nat.le_of_ble_eq_true rfl) (fun _ => rfl) rfl rfl nm_X3_readMan zw_3_50 zw_3_52 zw_0_5 zw_1_7 zw_3_53 rfl rfl rfl (Nat.le_of_ble_eq_true rfl) ⟨Nat.le_of_ble_eq_true rfl, Nat.le_of_ble_eq_true rfl⟩ (by decide +kernel) (fun _ => ?_)
              refine zr_goto (off := 25) (tgt := 85) (by decide +kernel) (by decide) ?_
              obtain rfl := Option.some.inj hf
              exact zr_vret (b0 := fun _ => 0) (by decide +kernel) rfl rfl rfl rfl rfl
            · have hf := ziff hf hc
              refine zr_run [(.aload_n 1, 0, 0, 0, .null), (.getfield 106, 1, 0, 8, .null), (.bipush 6, 0, 0, 0, .int (6 : Int32))] [] (WW' := [w_Ld G a0 s0, w_Rd G a1 s1]) (lv' := [some (.ref (a0 0)), some (.ref (a1 0))]) (pc' := 69) (st' := [.int (6 : Int32), .int (Rd_key s1)]) (by decide +kernel) rfl rfl ⟨trivial, ⟨rfl, rfl, zw_1_106⟩, trivial, trivial⟩ ?_
              refine zr_icmp_ne (off := 11) (tgt := 80) (by decide +kernel) (by decide) (fun hc => ?_) (fun hc => ?_)
              · have hf := zift hf hc
                obtain ⟨q4, e4, hf⟩ := zbi_of hf
                refine zr_run [(.aload_n 0, 0, 0, 0, .null), (.aload_n 1, 0, 0, 0, .null)] [] (WW' := [w_Ld G a0 s0, w_Rd G a1 s1]) (lv' := [some (.ref (a0 0)), some (.ref (a1 0))]) (pc' := 74) (st' := [.ref (a1 0), .ref (a0 0)]) (by decide +kernel) rfl rfl ⟨trivial, trivial, trivial⟩ ?_
                refine zr_callV (c_X3_readKin l G a0 a1 s0 s1 q4 e4) (WW' := fun _ => [w_Ld G a0 q4.1, w_Rd G a1 q4.2]) (st := []) (st' := []) [0, 1] rfl rfl (fun _ => Nat.le_of_ble_eq_true rfl) (fun _ => rfl) rfl rfl nm_X3_readKin zw_3_58 zw_3_60 zw_0_6 zw_1_7 zw_3_61 rfl rfl rfl (Nat.le_of_ble_eq_true rfl) ⟨Nat.le_of_ble_eq_true rfl, Nat.le_of_ble_eq_true rfl⟩ (by decide +kernel) (fun _ => ?_)
                refine zr_goto (off := 8) (tgt := 85) (by decide +kernel) (by decide) ?_
                obtain rfl := Option.some.inj hf
                exact zr_vret (b0 := fun _ => 0) (by decide +kernel) rfl rfl rfl rfl rfl
              · have hf := ziff hf hc
                obtain ⟨q5, e5, hf⟩ := zbi_of hf
                refine zr_run [(.aload_n 1, 0, 0, 0, .null), (.iconst 1, 0, 0, 0, .int (1 : Int32))] [] (WW' := [w_Ld G a0 s0, w_Rd G a1 s1]) (lv' := [some (.ref (a0 0)), some (.ref (a1 0))]) (pc' := 82) (st' := [.int (1 : Int32), .ref (a1 0)]) (by decide +kernel) rfl rfl ⟨trivial, trivial, trivial⟩ ?_
                refine zr_callV (c_X7_fail l G a1 s1 (1 : Int32) q5 e5) (WW' := fun _ => [w_Ld G a0 s0, w_Rd G a1 q5]) (st := []) (st' := []) [1] rfl rfl (fun _ => Nat.le_of_ble_eq_true rfl) (fun _ => rfl) rfl rfl nm_X7_fail zw_3_20 zw_3_9 zw_3_10 zw_1_2 zw_3_11 rfl rfl rfl (Nat.le_of_ble_eq_true rfl) ⟨Nat.le_of_ble_eq_true rfl, Nat.le_of_ble_eq_true rfl⟩ (by decide +kernel) (fun _ => ?_)
                obtain rfl := Option.some.inj hf
                exact zr_vret (b0 := fun _ => 0) (by decide +kernel) rfl rfl rfl rfl rfl
  exact zj_entry [some (.ref (a0 0)), some (.ref (a1 0))] (by decide +kernel) rfl (by decide) (Nat.le_of_ble_eq_true rfl) rfl rfl (key _)
def M_X3_measure : zj_M := (RX3, cX3_measure, 5, none, { frames := 2, cells := 0, slots := 0, locals := 45 }, false)
theorem nm_X3_measure : zj_nm yX3_measure 0 := ⟨by decide +kernel, by decide +kernel, by decide +kernel⟩
def f_X3_measure_b185  (s0 : LdT) (k103 : LdT → Int32 → Option (LdT)) (k113 : LdT → Int32 → Int32 → Option (LdT)) (x1 : Int32) (x2 : Int32) : Option (LdT) := k113 s0 x1 (x2 + (1 : Int32))
def f_X3_measure_b179  (s0 : LdT) (k103 : LdT → Int32 → Option (LdT)) (k113 : LdT → Int32 → Int32 → Option (LdT)) (k123 : LdT → Int32 → Int32 → Int32 → Option (LdT)) (x1 : Int32) (x2 : Int32) (x3 : Int32) : Option (LdT) := k123 s0 x1 x2 (x3 + (1 : Int32))
def f_X3_measure_H123  (s0 : LdT) (k103 : LdT → Int32 → Option (LdT)) (k113 : LdT → Int32 → Int32 → Option (LdT)) (k123 : LdT → Int32 → Int32 → Int32 → Option (LdT)) (x1 : Int32) (x2 : Int32) (x3 : Int32) : Option (LdT) := (if x3 < (Ld_places s0) then ((f_X3_joined s0 x2 x1).bind fun q12 => (if q12 = 0 then f_X3_measure_b185 s0 k103 k113 x1 x2 else ((f_X3_milesBetween s0 x2 x1).bind fun q13 => ((f_X3_milesBetween s0 x1 x3).bind fun q14 => ((f_X3_milesBetween s0 x2 x3).bind fun q15 => (if (q13 + q14) < q15 then (if zb_in ((x2 * (10 : Int32)) + x3) 100 = true then (zlet (Ld_s_miles s0 ((upd (Ld_miles s0) ((x2 * (10 : Int32)) + x3).toNatClampNeg (q13 + q14)))) fun y17 => f_X3_measure_b179 y17 k103 k113 k123 x1 x2 x3) else none) else f_X3_measure_b179 s0 k103 k113 k123 x1 x2 x3)))))) else f_X3_measure_b185 s0 k103 k113 x1 x2)
def f_X3_measure_L123   (k103 : LdT → Int32 → Option (LdT)) (k113 : LdT → Int32 → Int32 → Option (LdT)) : Nat → LdT → Int32 → Int32 → Int32 → Option (LdT)
  | 0 => fun _ _ _ _ => none
  | n + 1 => fun s0 x1 x2 x3 => f_X3_measure_H123 s0 k103 k113 (f_X3_measure_L123 k103 k113 n) x1 x2 x3
def f_X3_measure_H113  (s0 : LdT) (k103 : LdT → Int32 → Option (LdT)) (k113 : LdT → Int32 → Int32 → Option (LdT)) (x1 : Int32) (x2 : Int32) : Option (LdT) := (if x2 < (Ld_places s0) then f_X3_measure_L123 k103 k113 zFU s0 x1 x2 (0 : Int32) else k103 s0 (x1 + (1 : Int32)))
def f_X3_measure_L113   (k103 : LdT → Int32 → Option (LdT)) : Nat → LdT → Int32 → Int32 → Option (LdT)
  | 0 => fun _ _ _ => none
  | n + 1 => fun s0 x1 x2 => f_X3_measure_H113 s0 k103 (f_X3_measure_L113 k103 n) x1 x2
def f_X3_measure_H103  (s0 : LdT) (k103 : LdT → Int32 → Option (LdT)) (x1 : Int32) : Option (LdT) := (if x1 < (Ld_places s0) then f_X3_measure_L113 k103 zFU s0 x1 (0 : Int32) else some s0)
def f_X3_measure_L103    : Nat → LdT → Int32 → Option (LdT)
  | 0 => fun _ _ => none
  | n + 1 => fun s0 x1 => f_X3_measure_H103 s0 (f_X3_measure_L103  n) x1
def f_X3_measure_H39  (s0 : LdT) (k39 : LdT → Int32 → Option (LdT)) (x1 : Int32) : Option (LdT) := (if x1 < (Ld_roads s0) then ((f_X3_ofRoad s0 x1 (0 : Int32)).bind fun q4 => ((f_X3_ofRoad s0 x1 (1 : Int32)).bind fun q5 => ((f_X3_ofRoad s0 x1 (2 : Int32)).bind fun q6 => (if zb_in ((q4 * (10 : Int32)) + q5) 100 = true then (zlet (Ld_s_miles s0 ((upd (Ld_miles s0) ((q4 * (10 : Int32)) + q5).toNatClampNeg q6))) fun y8 => ((f_X3_ofRoad y8 x1 (2 : Int32)).bind fun q9 => (if zb_in ((q5 * (10 : Int32)) + q4) 100 = true then (zlet (Ld_s_miles y8 ((upd (Ld_miles y8) ((q5 * (10 : Int32)) + q4).toNatClampNeg q9))) fun y11 => k39 y11 (x1 + (1 : Int32))) else none))) else none)))) else f_X3_measure_L103 zFU s0 (0 : Int32))
def f_X3_measure_L39    : Nat → LdT → Int32 → Option (LdT)
  | 0 => fun _ _ => none
  | n + 1 => fun s0 x1 => f_X3_measure_H39 s0 (f_X3_measure_L39  n) x1
def f_X3_measure_H11  (s0 : LdT) (k11 : LdT → Int32 → Option (LdT)) (x1 : Int32) : Option (LdT) := (if x1 < (Ld_places s0) then (if zb_in ((x1 * (10 : Int32)) + x1) 100 = true then (zlet (Ld_s_miles s0 ((upd (Ld_miles s0) ((x1 * (10 : Int32)) + x1).toNatClampNeg (0 : Int32)))) fun y3 => k11 y3 (x1 + (1 : Int32))) else none) else f_X3_measure_L39 zFU s0 (0 : Int32))
def f_X3_measure_L11    : Nat → LdT → Int32 → Option (LdT)
  | 0 => fun _ _ => none
  | n + 1 => fun s0 x1 => f_X3_measure_H11 s0 (f_X3_measure_L11  n) x1
def f_X3_measure  (s0 : LdT)  : Option (LdT) := (zlet (Ld_s_miles s0 ((zr_fill 100 (Ld_miles s0) (100000 : Int32)))) fun y1 => f_X3_measure_L11 zFU y1 (0 : Int32))
set_option maxRecDepth 100000 in
set_option maxHeartbeats 4000000 in
theorem t_X3_measure_b185 (l : Launch) (G : zj_G) (a0 : Nat → Nat) (W0 : List va_W) (r : LdT) (s0 : LdT) (k103 : LdT → Int32 → Option (LdT)) (k113 : LdT → Int32 → Int32 → Option (LdT)) (hk103 : ∀ (s0 : LdT) (x1 : Int32), k103 s0 x1 = some r → zj_J l G M_X3_measure W0 (zj_ret G M_X3_measure W0 (none) (fun _ => [w_Ld G a0 r])) 0 0 [w_Ld G a0 s0] [some (.ref (a0 0)), some (.int x1), none, none, none] 103 []) (hk113 : ∀ (s0 : LdT) (x1 : Int32) (x2 : Int32), k113 s0 x1 x2 = some r → zj_J l G M_X3_measure W0 (zj_ret G M_X3_measure W0 (none) (fun _ => [w_Ld G a0 r])) 0 0 [w_Ld G a0 s0] [some (.ref (a0 0)), some (.int x1), some (.int x2), none, none] 113 []) (x1 : Int32) (x2 : Int32) (hf : f_X3_measure_b185 s0 k103 k113 x1 x2 = some r) : zj_J l G M_X3_measure W0 (zj_ret G M_X3_measure W0 (none) (fun _ => [w_Ld G a0 r])) 0 0 [w_Ld G a0 s0] [some (.ref (a0 0)), some (.int x1), some (.int x2), none, none] 185 [] := by
  unfold f_X3_measure_b185 at hf
  refine zr_run [(.iinc 2 1, 0, 0, 0, .int (1 : Int32))] [] (WW' := [w_Ld G a0 s0]) (lv' := [some (.ref (a0 0)), some (.int x1), some (.int (x2 + (1 : Int32))), none, none]) (pc' := 188) (st' := []) (by decide +kernel) rfl rfl ⟨trivial, trivial⟩ ?_
  refine zr_goto (off := -75) (tgt := 113) (by decide +kernel) (by decide) ?_
  exact hk113 s0 x1 (x2 + (1 : Int32)) hf
set_option maxRecDepth 100000 in
set_option maxHeartbeats 4000000 in
theorem t_X3_measure_b179 (l : Launch) (G : zj_G) (a0 : Nat → Nat) (W0 : List va_W) (r : LdT) (s0 : LdT) (k103 : LdT → Int32 → Option (LdT)) (k113 : LdT → Int32 → Int32 → Option (LdT)) (k123 : LdT → Int32 → Int32 → Int32 → Option (LdT)) (hk103 : ∀ (s0 : LdT) (x1 : Int32), k103 s0 x1 = some r → zj_J l G M_X3_measure W0 (zj_ret G M_X3_measure W0 (none) (fun _ => [w_Ld G a0 r])) 0 0 [w_Ld G a0 s0] [some (.ref (a0 0)), some (.int x1), none, none, none] 103 []) (hk113 : ∀ (s0 : LdT) (x1 : Int32) (x2 : Int32), k113 s0 x1 x2 = some r → zj_J l G M_X3_measure W0 (zj_ret G M_X3_measure W0 (none) (fun _ => [w_Ld G a0 r])) 0 0 [w_Ld G a0 s0] [some (.ref (a0 0)), some (.int x1), some (.int x2), none, none] 113 []) (hk123 : ∀ (s0 : LdT) (x1 : Int32) (x2 : Int32) (x3 : Int32), k123 s0 x1 x2 x3 = some r → zj_J l G M_X3_measure W0 (zj_ret G M_X3_measure W0 (none) (fun _ => [w_Ld G a0 r])) 0 0 [w_Ld G a0 s0] [some (.ref (a0 0)), some (.int x1), some (.int x2), some (.int x3), none] 123 []) (x1 : Int32) (x2 : Int32) (x3 : Int32) (hf : f_X3_measure_b179 s0 k103 k113 k123 x1 x2 x3 = some r) : zj_J l G M_X3_measure W0 (zj_ret G M_X3_measure W0 (none) (fun _ => [w_Ld G a0 r])) 0 0 [w_Ld G a0 s0] [some (.ref (a0 0)), some (.int x1), some (.int x2), some (.int x3), none] 179 [] := by
  unfold f_X3_measure_b179 at hf
  refine zr_run [(.iinc 3 1, 0, 0, 0, .int (1 : Int32))] [] (WW' := [w_Ld G a0 s0]) (lv' := [some (.ref (a0 0)), some (.int x1), some (.int x2), some (.int (x3 + (1 : Int32))), none]) (pc' := 182) (st' := []) (by decide +kernel) rfl rfl ⟨trivial, trivial⟩ ?_
  refine zr_goto (off := -59) (tgt := 123) (by decide +kernel) (by decide) ?_
  exact hk123 s0 x1 x2 (x3 + (1 : Int32)) hf
set_option maxRecDepth 100000 in
set_option maxHeartbeats 4000000 in
theorem t_X3_measure_H123 (l : Launch) (G : zj_G) (a0 : Nat → Nat) (W0 : List va_W) (r : LdT) (s0 : LdT) (k103 : LdT → Int32 → Option (LdT)) (k113 : LdT → Int32 → Int32 → Option (LdT)) (k123 : LdT → Int32 → Int32 → Int32 → Option (LdT)) (hk103 : ∀ (s0 : LdT) (x1 : Int32), k103 s0 x1 = some r → zj_J l G M_X3_measure W0 (zj_ret G M_X3_measure W0 (none) (fun _ => [w_Ld G a0 r])) 0 0 [w_Ld G a0 s0] [some (.ref (a0 0)), some (.int x1), none, none, none] 103 []) (hk113 : ∀ (s0 : LdT) (x1 : Int32) (x2 : Int32), k113 s0 x1 x2 = some r → zj_J l G M_X3_measure W0 (zj_ret G M_X3_measure W0 (none) (fun _ => [w_Ld G a0 r])) 0 0 [w_Ld G a0 s0] [some (.ref (a0 0)), some (.int x1), some (.int x2), none, none] 113 []) (hk123 : ∀ (s0 : LdT) (x1 : Int32) (x2 : Int32) (x3 : Int32), k123 s0 x1 x2 x3 = some r → zj_J l G M_X3_measure W0 (zj_ret G M_X3_measure W0 (none) (fun _ => [w_Ld G a0 r])) 0 0 [w_Ld G a0 s0] [some (.ref (a0 0)), some (.int x1), some (.int x2), some (.int x3), none] 123 []) (x1 : Int32) (x2 : Int32) (x3 : Int32) (hf : f_X3_measure_H123 s0 k103 k113 k123 x1 x2 x3 = some r) : zj_J l G M_X3_measure W0 (zj_ret G M_X3_measure W0 (none) (fun _ => [w_Ld G a0 r])) 0 0 [w_Ld G a0 s0] [some (.ref (a0 0)), some (.int x1), some (.int x2), some (.int x3), none] 123 [] := by
  unfold f_X3_measure_H123 at hf
  refine zr_run [(.iload_n 3, 0, 0, 0, .null), (.aload_n 0, 0, 0, 0, .null), (.getfield 9, 0, 0, 0, .null)] [] (WW' := [w_Ld G a0 s0]) (lv' := [some (.ref (a0 0)), some (.int x1), some (.int x2), some (.int x3), none]) (pc' := 128) (st' := [.int (Ld_places s0), .int x3]) (by decide +kernel) rfl rfl ⟨trivial, trivial, ⟨rfl, rfl, zw_1_152⟩, trivial⟩ ?_
  refine zr_icmp_ge (off := 57) (tgt := 185) (by decide +kernel) (by decide) (fun hc => ?_) (fun hc => ?_)
  · have hf := zift hf hc
    obtain ⟨q12, e12, hf⟩ := zbi_of hf
    refine zr_run [(.aload_n 0, 0, 0, 0, .null), (.iload_n 2, 0, 0, 0, .null), (.iload_n 1, 0, 0, 0, .null)] [] (WW' := [w_Ld G a0 s0]) (lv' := [some (.ref (a0 0)), some (.int x1), some (.int x2), some (.int x3), none]) (pc' := 134) (st' := [.int x1, .int x2, .ref (a0 0)]) (by decide +kernel) rfl rfl ⟨trivial, trivial, trivial, trivial⟩ ?_
    refine zr_callV (c_X3_joined l G a0 s0 x2 x1 q12 e12) (WW' := fun _ => [w_Ld G a0 s0]) (st := []) (st' := [.int q12]) [0] rfl rfl (fun _ => Nat.le_of_ble_eq_true rfl) (fun _ => rfl) rfl rfl nm_X3_joined zw_3_83 zw_3_84 zw_3_85 zw_1_7 zw_3_86 rfl rfl rfl (Nat.le_of_ble_eq_true rfl) ⟨Nat.le_of_ble_eq_true rfl, Nat.le_of_ble_eq_true rfl⟩ (by decide +kernel) (fun _ => ?_)
    refine zr_if_eq (off := 48) (tgt := 185) (by decide +kernel) (by decide) (fun hc => ?_) (fun hc => ?_)
    · have hf := zift hf hc
      refine zr_run [] [3] (WW' := [w_Ld G a0 s0]) (lv' := [some (.ref (a0 0)), some (.int x1), some (.int x2), none, none]) (pc' := 185) (st' := []) (by decide +kernel) rfl rfl trivial ?_
      exact t_X3_measure_b185 l G a0 W0 r s0 k103 k113 hk103 hk113 x1 x2 hf
    · have hf := ziff hf hc
      obtain ⟨q13, e13, hf⟩ := zbi_of hf
      refine zr_run [(.aload_n 0, 0, 0, 0, .null), (.iload_n 2, 0, 0, 0, .null), (.iload_n 1, 0, 0, 0, .null)] [] (WW' := [w_Ld G a0 s0]) (lv' := [some (.ref (a0 0)), some (.int x1), some (.int x2), some (.int x3), none]) (pc' := 143) (st' := [.int x1, .int x2, .ref (a0 0)]) (by decide +kernel) rfl rfl ⟨trivial, trivial, trivial, trivial⟩ ?_
      refine zr_callV (c_X3_milesBetween l G a0 s0 x2 x1 q13 e13) (WW' := fun _ => [w_Ld G a0 s0]) (st := []) (st' := [.int q13]) [0] rfl rfl (fun _ => Nat.le_of_ble_eq_true rfl) (fun _ => rfl) rfl rfl nm_X3_milesBetween zw_3_87 zw_3_88 zw_3_89 zw_1_7 zw_3_88n rfl rfl rfl (Nat.le_of_ble_eq_true rfl) ⟨Nat.le_of_ble_eq_true rfl, Nat.le_of_ble_eq_true rfl⟩ (by decide +kernel) (fun _ => ?_)
      obtain ⟨q14, e14, hf⟩ := zbi_of hf
      refine zr_run [(.aload_n 0, 0, 0, 0, .null), (.iload_n 1, 0, 0, 0, .null), (.iload_n 3, 0, 0, 0, .null)] [] (WW' := [w_Ld G a0 s0]) (lv' := [some (.ref (a0 0)), some (.int x1), some (.int x2), some (.int x3), none]) (pc' := 149) (st' := [.int x3, .int x1, .ref (a0 0), .int q13]) (by decide +kernel) rfl rfl ⟨trivial, trivial, trivial, trivial⟩ ?_
      refine zr_callV (c_X3_milesBetween l G a0 s0 x1 x3 q14 e14) (WW' := fun _ => [w_Ld G a0 s0]) (st := [.int q13]) (st' := [.int q14, .int q13]) [0] rfl rfl (fun _ => Nat.le_of_ble_eq_true rfl) (fun _ => rfl) rfl rfl nm_X3_milesBetween zw_3_87 zw_3_88 zw_3_89 zw_1_7 zw_3_88n rfl rfl rfl (Nat.le_of_ble_eq_true rfl) ⟨Nat.le_of_ble_eq_true rfl, Nat.le_of_ble_eq_true rfl⟩ (by decide +kernel) (fun _ => ?_)
      obtain ⟨q15, e15, hf⟩ := zbi_of hf
      refine zr_run [(.iadd, 0, 0, 0, .null), (.istore 4, 0, 0, 0, .null), (.iload 4, 0, 0, 0, .null), (.aload_n 0, 0, 0, 0, .null), (.iload_n 2, 0, 0, 0, .null), (.iload_n 3, 0, 0, 0, .null)] [] (WW' := [w_Ld G a0 s0]) (lv' := [some (.ref (a0 0)), some (.int x1), some (.int x2), some (.int x3), some (.int (q13 + q14))]) (pc' := 160) (st' := [.int x3, .int x2, .ref (a0 0), .int (q13 + q14)]) (by decide +kernel) rfl rfl ⟨trivial, trivial, trivial, trivial, trivial, trivial, trivial⟩ ?_
      refine zr_callV (c_X3_milesBetween l G a0 s0 x2 x3 q15 e15) (WW' := fun _ => [w_Ld G a0 s0]) (st := [.int (q13 + q14)]) (st' := [.int q15, .int (q13 + q14)]) [0] rfl rfl (fun _ => Nat.le_of_ble_eq_true rfl) (fun _ => rfl) rfl rfl nm_X3_milesBetween zw_3_87 zw_3_88 zw_3_89 zw_1_7 zw_3_88n rfl rfl rfl (Nat.le_of_ble_eq_true rfl) ⟨Nat.le_of_ble_eq_true rfl, Nat.le_of_ble_eq_true rfl⟩ (by decide +kernel) (fun _ => ?_)
      refine zr_icmp_ge (off := 16) (tgt := 179) (by decide +kernel) (by decide) (fun hc => ?_) (fun hc => ?_)
      · have hf := zift hf hc
        obtain ⟨h16, hf⟩ := zck_of hf
        obtain ⟨y17, e17, hf⟩ := zlet_of hf
        refine zr_run [(.aload_n 0, 0, 0, 0, .null), (.getfield 47, 0, 0, 11, .null), (.iload_n 2, 0, 0, 0, .null), (.bipush 10, 0, 0, 0, .int (10 : Int32)), (.imul, 0, 0, 0, .null), (.iload_n 3, 0, 0, 0, .null), (.iadd, 0, 0, 0, .null), (.iload 4, 0, 0, 0, .null), (.iastore, 0, 7, 0, .null)] [] (WW' := [w_Ld G a0 (Ld_s_miles s0 ((upd (Ld_miles s0) ((x2 * (10 : Int32)) + x3).toNatClampNeg (q13 + q14))))]) (lv' := [some (.ref (a0 0)), some (.int x1), some (.int x2), some (.int x3), some (.int (q13 + q14))]) (pc' := 179) (st' := []) (by decide +kernel) rfl rfl ⟨trivial, ⟨rfl, rfl, zw_1_175⟩, trivial, trivial, trivial, trivial, trivial, trivial, ⟨rfl, rfl, h16⟩, trivial⟩ ?_
        refine zr_eq (WW2 := [w_Ld G a0 y17]) (lv2 := [some (.ref (a0 0)), some (.int x1), some (.int x2), some (.int x3), some (.int (q13 + q14))]) (st2 := []) (by rw [e17]) rfl rfl ?_
        refine zr_run [] [4] (WW' := [w_Ld G a0 y17]) (lv' := [some (.ref (a0 0)), some (.int x1), some (.int x2), some (.int x3), none]) (pc' := 179) (st' := []) (by decide +kernel) rfl rfl trivial ?_
        exact t_X3_measure_b179 l G a0 W0 r y17 k103 k113 k123 hk103 hk113 hk123 x1 x2 x3 hf
      · have hf := ziff hf hc
        refine zr_run [] [4] (WW' := [w_Ld G a0 s0]) (lv' := [some (.ref (a0 0)), some (.int x1), some (.int x2), some (.int x3), none]) (pc' := 179) (st' := []) (by decide +kernel) rfl rfl trivial ?_
        exact t_X3_measure_b179 l G a0 W0 r s0 k103 k113 k123 hk103 hk113 hk123 x1 x2 x3 hf
  · have hf := ziff hf hc
    refine zr_run [] [3] (WW' := [w_Ld G a0 s0]) (lv' := [some (.ref (a0 0)), some (.int x1), some (.int x2), none, none]) (pc' := 185) (st' := []) (by decide +kernel) rfl rfl trivial ?_
    exact t_X3_measure_b185 l G a0 W0 r s0 k103 k113 hk103 hk113 x1 x2 hf
theorem t_X3_measure_L123 (l : Launch) (G : zj_G) (a0 : Nat → Nat) (W0 : List va_W) (r : LdT)  (k103 : LdT → Int32 → Option (LdT)) (k113 : LdT → Int32 → Int32 → Option (LdT)) (hk103 : ∀ (s0 : LdT) (x1 : Int32), k103 s0 x1 = some r → zj_J l G M_X3_measure W0 (zj_ret G M_X3_measure W0 (none) (fun _ => [w_Ld G a0 r])) 0 0 [w_Ld G a0 s0] [some (.ref (a0 0)), some (.int x1), none, none, none] 103 []) (hk113 : ∀ (s0 : LdT) (x1 : Int32) (x2 : Int32), k113 s0 x1 x2 = some r → zj_J l G M_X3_measure W0 (zj_ret G M_X3_measure W0 (none) (fun _ => [w_Ld G a0 r])) 0 0 [w_Ld G a0 s0] [some (.ref (a0 0)), some (.int x1), some (.int x2), none, none] 113 []) : ∀ (n : Nat) (s0 : LdT) (x1 : Int32) (x2 : Int32) (x3 : Int32), f_X3_measure_L123 k103 k113 n s0 x1 x2 x3 = some r → zj_J l G M_X3_measure W0 (zj_ret G M_X3_measure W0 (none) (fun _ => [w_Ld G a0 r])) 0 0 [w_Ld G a0 s0] [some (.ref (a0 0)), some (.int x1), some (.int x2), some (.int x3), none] 123 [] := by
  intro n
  induction n with
  | zero => intro s0 x1 x2 x3 hf; exact nomatch (show none = some r from hf)
  | succ n ih => intro s0 x1 x2 x3 hf; exact t_X3_measure_H123 l G a0 W0 r s0 k103 k113 (f_X3_measure_L123 k103 k113 n) hk103 hk113 ih x1 x2 x3  hf
set_option maxRecDepth 100000 in
set_option maxHeartbeats 4000000 in
theorem t_X3_measure_H113 (l : Launch) (G : zj_G) (a0 : Nat → Nat) (W0 : List va_W) (r : LdT) (s0 : LdT) (k103 : LdT → Int32 → Option (LdT)) (k113 : LdT → Int32 → Int32 → Option (LdT)) (hk103 : ∀ (s0 : LdT) (x1 : Int32), k103 s0 x1 = some r → zj_J l G M_X3_measure W0 (zj_ret G M_X3_measure W0 (none) (fun _ => [w_Ld G a0 r])) 0 0 [w_Ld G a0 s0] [some (.ref (a0 0)), some (.int x1), none, none, none] 103 []) (hk113 : ∀ (s0 : LdT) (x1 : Int32) (x2 : Int32), k113 s0 x1 x2 = some r → zj_J l G M_X3_measure W0 (zj_ret G M_X3_measure W0 (none) (fun _ => [w_Ld G a0 r])) 0 0 [w_Ld G a0 s0] [some (.ref (a0 0)), some (.int x1), some (.int x2), none, none] 113 []) (x1 : Int32) (x2 : Int32) (hf : f_X3_measure_H113 s0 k103 k113 x1 x2 = some r) : zj_J l G M_X3_measure W0 (zj_ret G M_X3_measure W0 (none) (fun _ => [w_Ld G a0 r])) 0 0 [w_Ld G a0 s0] [some (.ref (a0 0)), some (.int x1), some (.int x2), none, none] 113 [] := by
  unfold f_X3_measure_H113 at hf
  refine zr_run [(.iload_n 2, 0, 0, 0, .null), (.aload_n 0, 0, 0, 0, .null), (.getfield 9, 0, 0, 0, .null)] [] (WW' := [w_Ld G a0 s0]) (lv' := [some (.ref (a0 0)), some (.int x1), some (.int x2), none, none]) (pc' := 118) (st' := [.int (Ld_places s0), .int x2]) (by decide +kernel) rfl rfl ⟨trivial, trivial, ⟨rfl, rfl, zw_1_152⟩, trivial⟩ ?_
  refine zr_icmp_ge (off := 73) (tgt := 191) (by decide +kernel) (by decide) (fun hc => ?_) (fun hc => ?_)
  · have hf := zift hf hc
    refine zr_run [(.iconst 0, 0, 0, 0, .int (0 : Int32)), (.istore_n 3, 0, 0, 0, .null)] [] (WW' := [w_Ld G a0 s0]) (lv' := [some (.ref (a0 0)), some (.int x1), some (.int x2), some (.int (0 : Int32)), none]) (pc' := 123) (st' := []) (by decide +kernel) rfl rfl ⟨trivial, trivial, trivial⟩ ?_
    exact t_X3_measure_L123 l G a0 W0 r k103 k113 hk103 hk113 zFU s0 x1 x2 (0 : Int32) hf
  · have hf := ziff hf hc
    refine zr_run [(.iinc 1 1, 0, 0, 0, .int (1 : Int32))] [] (WW' := [w_Ld G a0 s0]) (lv' := [some (.ref (a0 0)), some (.int (x1 + (1 : Int32))), some (.int x2), none, none]) (pc' := 194) (st' := []) (by decide +kernel) rfl rfl ⟨trivial, trivial⟩ ?_
    refine zr_run [] [2] (WW' := [w_Ld G a0 s0]) (lv' := [some (.ref (a0 0)), some (.int (x1 + (1 : Int32))), none, none, none]) (pc' := 194) (st' := []) (by decide +kernel) rfl rfl trivial ?_
    refine zr_goto (off := -91) (tgt := 103) (by decide +kernel) (by decide) ?_
    exact hk103 s0 (x1 + (1 : Int32)) hf
theorem t_X3_measure_L113 (l : Launch) (G : zj_G) (a0 : Nat → Nat) (W0 : List va_W) (r : LdT)  (k103 : LdT → Int32 → Option (LdT)) (hk103 : ∀ (s0 : LdT) (x1 : Int32), k103 s0 x1 = some r → zj_J l G M_X3_measure W0 (zj_ret G M_X3_measure W0 (none) (fun _ => [w_Ld G a0 r])) 0 0 [w_Ld G a0 s0] [some (.ref (a0 0)), some (.int x1), none, none, none] 103 []) : ∀ (n : Nat) (s0 : LdT) (x1 : Int32) (x2 : Int32), f_X3_measure_L113 k103 n s0 x1 x2 = some r → zj_J l G M_X3_measure W0 (zj_ret G M_X3_measure W0 (none) (fun _ => [w_Ld G a0 r])) 0 0 [w_Ld G a0 s0] [some (.ref (a0 0)), some (.int x1), some (.int x2), none, none] 113 [] := by
  intro n
  induction n with
  | zero => intro s0 x1 x2 hf; exact nomatch (show none = some r from hf)
  | succ n ih => intro s0 x1 x2 hf; exact t_X3_measure_H113 l G a0 W0 r s0 k103 (f_X3_measure_L113 k103 n) hk103 ih x1 x2  hf
set_option maxRecDepth 100000 in
set_option maxHeartbeats 4000000 in
theorem t_X3_measure_H103 (l : Launch) (G : zj_G) (a0 : Nat → Nat) (W0 : List va_W) (r : LdT) (s0 : LdT) (k103 : LdT → Int32 → Option (LdT)) (hk103 : ∀ (s0 : LdT) (x1 : Int32), k103 s0 x1 = some r → zj_J l G M_X3_measure W0 (zj_ret G M_X3_measure W0 (none) (fun _ => [w_Ld G a0 r])) 0 0 [w_Ld G a0 s0] [some (.ref (a0 0)), some (.int x1), none, none, none] 103 []) (x1 : Int32) (hf : f_X3_measure_H103 s0 k103 x1 = some r) : zj_J l G M_X3_measure W0 (zj_ret G M_X3_measure W0 (none) (fun _ => [w_Ld G a0 r])) 0 0 [w_Ld G a0 s0] [some (.ref (a0 0)), some (.int x1), none, none, none] 103 [] := by
  unfold f_X3_measure_H103 at hf
  refine zr_run [(.iload_n 1, 0, 0, 0, .null), (.aload_n 0, 0, 0, 0, .null), (.getfield 9, 0, 0, 0, .null)] [] (WW' := [w_Ld G a0 s0]) (lv' := [some (.ref (a0 0)), some (.int x1), none, none, none]) (pc' := 108) (st' := [.int (Ld_places s0), .int x1]) (by decide +kernel) rfl rfl ⟨trivial, trivial, ⟨rfl, rfl, zw_1_152⟩, trivial⟩ ?_
  refine zr_icmp_ge (off := 89) (tgt := 197) (by decide +kernel) (by decide) (fun hc => ?_) (fun hc => ?_)
  · have hf := zift hf hc
    refine zr_run [(.iconst 0, 0, 0, 0, .int (0 : Int32)), (.istore_n 2, 0, 0, 0, .null)] [] (WW' := [w_Ld G a0 s0]) (lv' := [some (.ref (a0 0)), some (.int x1), some (.int (0 : Int32)), none, none]) (pc' := 113) (st' := []) (by decide +kernel) rfl rfl ⟨trivial, trivial, trivial⟩ ?_
    exact t_X3_measure_L113 l G a0 W0 r k103 hk103 zFU s0 x1 (0 : Int32) hf
  · have hf := ziff hf hc
    obtain rfl := Option.some.inj hf
    exact zr_vret (b0 := fun _ => 0) (by decide +kernel) rfl rfl rfl rfl rfl
theorem t_X3_measure_L103 (l : Launch) (G : zj_G) (a0 : Nat → Nat) (W0 : List va_W) (r : LdT)    : ∀ (n : Nat) (s0 : LdT) (x1 : Int32), f_X3_measure_L103 n s0 x1 = some r → zj_J l G M_X3_measure W0 (zj_ret G M_X3_measure W0 (none) (fun _ => [w_Ld G a0 r])) 0 0 [w_Ld G a0 s0] [some (.ref (a0 0)), some (.int x1), none, none, none] 103 [] := by
  intro n
  induction n with
  | zero => intro s0 x1 hf; exact nomatch (show none = some r from hf)
  | succ n ih => intro s0 x1 hf; exact t_X3_measure_H103 l G a0 W0 r s0  (f_X3_measure_L103 n)  ih x1  hf
set_option maxRecDepth 100000 in
set_option maxHeartbeats 4000000 in
theorem t_X3_measure_H39 (l : Launch) (G : zj_G) (a0 : Nat → Nat) (W0 : List va_W) (r : LdT) (s0 : LdT) (k39 : LdT → Int32 → Option (LdT)) (hk39 : ∀ (s0 : LdT) (x1 : Int32), k39 s0 x1 = some r → zj_J l G M_X3_measure W0 (zj_ret G M_X3_measure W0 (none) (fun _ => [w_Ld G a0 r])) 0 0 [w_Ld G a0 s0] [some (.ref (a0 0)), some (.int x1), none, none, none] 39 []) (x1 : Int32) (hf : f_X3_measure_H39 s0 k39 x1 = some r) : zj_J l G M_X3_measure W0 (zj_ret G M_X3_measure W0 (none) (fun _ => [w_Ld G a0 r])) 0 0 [w_Ld G a0 s0] [some (.ref (a0 0)), some (.int x1), none, none, none] 39 [] := by
  unfold f_X3_measure_H39 at hf
  refine zr_run [(.iload_n 1, 0, 0, 0, .null), (.aload_n 0, 0, 0, 0, .null), (.getfield 15, 0, 0, 1, .null)] [] (WW' := [w_Ld G a0 s0]) (lv' := [some (.ref (a0 0)), some (.int x1), none, none, none]) (pc' := 44) (st' := [.int (Ld_roads s0), .int x1]) (by decide +kernel) rfl rfl ⟨trivial, trivial, ⟨rfl, rfl, zw_1_155⟩, trivial⟩ ?_
  refine zr_icmp_ge (off := 57) (tgt := 101) (by decide +kernel) (by decide) (fun hc => ?_) (fun hc => ?_)
  · have hf := zift hf hc
    obtain ⟨q4, e4, hf⟩ := zbi_of hf
    refine zr_run [(.aload_n 0, 0, 0, 0, .null), (.iload_n 1, 0, 0, 0, .null), (.iconst 0, 0, 0, 0, .int (0 : Int32))] [] (WW' := [w_Ld G a0 s0]) (lv' := [some (.ref (a0 0)), some (.int x1), none, none, none]) (pc' := 50) (st' := [.int (0 : Int32), .int x1, .ref (a0 0)]) (by decide +kernel) rfl rfl ⟨trivial, trivial, trivial, trivial⟩ ?_
    refine zr_callV (c_X3_ofRoad l G a0 s0 x1 (0 : Int32) q4 e4) (WW' := fun _ => [w_Ld G a0 s0]) (st := []) (st' := [.int q4]) [0] rfl rfl (fun _ => Nat.le_of_ble_eq_true rfl) (fun _ => rfl) rfl rfl nm_X3_ofRoad zw_3_79 zw_3_80 zw_3_81 zw_1_7 zw_3_80n rfl rfl rfl (Nat.le_of_ble_eq_true rfl) ⟨Nat.le_of_ble_eq_true rfl, Nat.le_of_ble_eq_true rfl⟩ (by decide +kernel) (fun _ => ?_)
    obtain ⟨q5, e5, hf⟩ := zbi_of hf
    refine zr_run [(.istore_n 2, 0, 0, 0, .null), (.aload_n 0, 0, 0, 0, .null), (.iload_n 1, 0, 0, 0, .null), (.iconst 1, 0, 0, 0, .int (1 : Int32))] [] (WW' := [w_Ld G a0 s0]) (lv' := [some (.ref (a0 0)), some (.int x1), some (.int q4), none, none]) (pc' := 57) (st' := [.int (1 : Int32), .int x1, .ref (a0 0)]) (by decide +kernel) rfl rfl ⟨trivial, trivial, trivial, trivial, trivial⟩ ?_
    refine zr_callV (c_X3_ofRoad l G a0 s0 x1 (1 : Int32) q5 e5) (WW' := fun _ => [w_Ld G a0 s0]) (st := []) (st' := [.int q5]) [0] rfl rfl (fun _ => Nat.le_of_ble_eq_true rfl) (fun _ => rfl) rfl rfl nm_X3_ofRoad zw_3_79 zw_3_80 zw_3_81 zw_1_7 zw_3_80n rfl rfl rfl (Nat.le_of_ble_eq_true rfl) ⟨Nat.le_of_ble_eq_true rfl, Nat.le_of_ble_eq_true rfl⟩ (by decide +kernel) (fun _ => ?_)
    obtain ⟨q6, e6, hf⟩ := zbi_of hf
    refine zr_run [(.istore_n 3, 0, 0, 0, .null), (.aload_n 0, 0, 0, 0, .null), (.getfield 47, 0, 0, 11, .null), (.iload_n 2, 0, 0, 0, .null), (.bipush 10, 0, 0, 0, .int (10 : Int32)), (.imul, 0, 0, 0, .null), (.iload_n 3, 0, 0, 0, .null), (.iadd, 0, 0, 0, .null), (.aload_n 0, 0, 0, 0, .null), (.iload_n 1, 0, 0, 0, .null), (.iconst 2, 0, 0, 0, .int (2 : Int32))] [] (WW' := [w_Ld G a0 s0]) (lv' := [some (.ref (a0 0)), some (.int x1), some (.int q4), some (.int q5), none]) (pc' := 74) (st' := [.int (2 : Int32), .int x1, .ref (a0 0), .int ((q4 * (10 : Int32)) + q5), .ref (a0 7)]) (by decide +kernel) rfl rfl ⟨trivial, trivial, ⟨rfl, rfl, zw_1_175⟩, trivial, trivial, trivial, trivial, trivial, trivial, trivial, trivial, trivial⟩ ?_
    refine zr_callV (c_X3_ofRoad l G a0 s0 x1 (2 : Int32) q6 e6) (WW' := fun _ => [w_Ld G a0 s0]) (st := [.int ((q4 * (10 : Int32)) + q5), .ref (a0 7)]) (st' := [.int q6, .int ((q4 * (10 : Int32)) + q5), .ref (a0 7)]) [0] rfl rfl (fun _ => Nat.le_of_ble_eq_true rfl) (fun _ => rfl) rfl rfl nm_X3_ofRoad zw_3_79 zw_3_80 zw_3_81 zw_1_7 zw_3_80n rfl rfl rfl (Nat.le_of_ble_eq_true rfl) ⟨Nat.le_of_ble_eq_true rfl, Nat.le_of_ble_eq_true rfl⟩ (by decide +kernel) (fun _ => ?_)
    obtain ⟨h7, hf⟩ := zck_of hf
    obtain ⟨y8, e8, hf⟩ := zlet_of hf
    refine zr_run [(.iastore, 0, 7, 0, .null)] [] (WW' := [w_Ld G a0 (Ld_s_miles s0 ((upd (Ld_miles s0) ((q4 * (10 : Int32)) + q5).toNatClampNeg q6)))]) (lv' := [some (.ref (a0 0)), some (.int x1), some (.int q4), some (.int q5), none]) (pc' := 78) (st' := []) (by decide +kernel) rfl rfl ⟨⟨rfl, rfl, h7⟩, trivial⟩ ?_
    refine zr_eq (WW2 := [w_Ld G a0 y8]) (lv2 := [some (.ref (a0 0)), some (.int x1), some (.int q4), some (.int q5), none]) (st2 := []) (by rw [e8]) rfl rfl ?_
    obtain ⟨q9, e9, hf⟩ := zbi_of hf
    refine zr_run [(.aload_n 0, 0, 0, 0, .null), (.getfield 47, 0, 0, 11, .null), (.iload_n 3, 0, 0, 0, .null), (.bipush 10, 0, 0, 0, .int (10 : Int32)), (.imul, 0, 0, 0, .null), (.iload_n 2, 0, 0, 0, .null), (.iadd, 0, 0, 0, .null), (.aload_n 0, 0, 0, 0, .null), (.iload_n 1, 0, 0, 0, .null), (.iconst 2, 0, 0, 0, .int (2 : Int32))] [] (WW' := [w_Ld G a0 y8]) (lv' := [some (.ref (a0 0)), some (.int x1), some (.int q4), some (.int q5), none]) (pc' := 91) (st' := [.int (2 : Int32), .int x1, .ref (a0 0), .int ((q5 * (10 : Int32)) + q4), .ref (a0 7)]) (by decide +kernel) rfl rfl ⟨trivial, ⟨rfl, rfl, zw_1_175⟩, trivial, trivial, trivial, trivial, trivial, trivial, trivial, trivial, trivial⟩ ?_
    refine zr_callV (c_X3_ofRoad l G a0 y8 x1 (2 : Int32) q9 e9) (WW' := fun _ => [w_Ld G a0 y8]) (st := [.int ((q5 * (10 : Int32)) + q4), .ref (a0 7)]) (st' := [.int q9, .int ((q5 * (10 : Int32)) + q4), .ref (a0 7)]) [0] rfl rfl (fun _ => Nat.le_of_ble_eq_true rfl) (fun _ => rfl) rfl rfl nm_X3_ofRoad zw_3_79 zw_3_80 zw_3_81 zw_1_7 zw_3_80n rfl rfl rfl (Nat.le_of_ble_eq_true rfl) ⟨Nat.le_of_ble_eq_true rfl, Nat.le_of_ble_eq_true rfl⟩ (by decide +kernel) (fun _ => ?_)
    obtain ⟨h10, hf⟩ := zck_of hf
    obtain ⟨y11, e11, hf⟩ := zlet_of hf
    refine zr_run [(.iastore, 0, 7, 0, .null)] [] (WW' := [w_Ld G a0 (Ld_s_miles y8 ((upd (Ld_miles y8) ((q5 * (10 : Int32)) + q4).toNatClampNeg q9)))]) (lv' := [some (.ref (a0 0)), some (.int x1), some (.int q4), some (.int q5), none]) (pc' := 95) (st' := []) (by decide +kernel) rfl rfl ⟨⟨rfl, rfl, h10⟩, trivial⟩ ?_
    refine zr_eq (WW2 := [w_Ld G a0 y11]) (lv2 := [some (.ref (a0 0)), some (.int x1), some (.int q4), some (.int q5), none]) (st2 := []) (by rw [e11]) rfl rfl ?_
    refine zr_run [(.iinc 1 1, 0, 0, 0, .int (1 : Int32))] [] (WW' := [w_Ld G a0 y11]) (lv' := [some (.ref (a0 0)), some (.int (x1 + (1 : Int32))), some (.int q4), some (.int q5), none]) (pc' := 98) (st' := []) (by decide +kernel) rfl rfl ⟨trivial, trivial⟩ ?_
    refine zr_run [] [2, 3] (WW' := [w_Ld G a0 y11]) (lv' := [some (.ref (a0 0)), some (.int (x1 + (1 : Int32))), none, none, none]) (pc' := 98) (st' := []) (by decide +kernel) rfl rfl trivial ?_
    refine zr_goto (off := -59) (tgt := 39) (by decide +kernel) (by decide) ?_
    exact hk39 y11 (x1 + (1 : Int32)) hf
  · have hf := ziff hf hc
    refine zr_run [(.iconst 0, 0, 0, 0, .int (0 : Int32)), (.istore_n 1, 0, 0, 0, .null)] [] (WW' := [w_Ld G a0 s0]) (lv' := [some (.ref (a0 0)), some (.int (0 : Int32)), none, none, none]) (pc' := 103) (st' := []) (by decide +kernel) rfl rfl ⟨trivial, trivial, trivial⟩ ?_
    exact t_X3_measure_L103 l G a0 W0 r zFU s0 (0 : Int32) hf
theorem t_X3_measure_L39 (l : Launch) (G : zj_G) (a0 : Nat → Nat) (W0 : List va_W) (r : LdT)    : ∀ (n : Nat) (s0 : LdT) (x1 : Int32), f_X3_measure_L39 n s0 x1 = some r → zj_J l G M_X3_measure W0 (zj_ret G M_X3_measure W0 (none) (fun _ => [w_Ld G a0 r])) 0 0 [w_Ld G a0 s0] [some (.ref (a0 0)), some (.int x1), none, none, none] 39 [] := by
  intro n
  induction n with
  | zero => intro s0 x1 hf; exact nomatch (show none = some r from hf)
  | succ n ih => intro s0 x1 hf; exact t_X3_measure_H39 l G a0 W0 r s0  (f_X3_measure_L39 n)  ih x1  hf
set_option maxRecDepth 100000 in
set_option maxHeartbeats 4000000 in
theorem t_X3_measure_H11 (l : Launch) (G : zj_G) (a0 : Nat → Nat) (W0 : List va_W) (r : LdT) (s0 : LdT) (k11 : LdT → Int32 → Option (LdT)) (hk11 : ∀ (s0 : LdT) (x1 : Int32), k11 s0 x1 = some r → zj_J l G M_X3_measure W0 (zj_ret G M_X3_measure W0 (none) (fun _ => [w_Ld G a0 r])) 0 0 [w_Ld G a0 s0] [some (.ref (a0 0)), some (.int x1), none, none, none] 11 []) (x1 : Int32) (hf : f_X3_measure_H11 s0 k11 x1 = some r) : zj_J l G M_X3_measure W0 (zj_ret G M_X3_measure W0 (none) (fun _ => [w_Ld G a0 r])) 0 0 [w_Ld G a0 s0] [some (.ref (a0 0)), some (.int x1), none, none, none] 11 [] := by
  unfold f_X3_measure_H11 at hf
  refine zr_run [(.iload_n 1, 0, 0, 0, .null), (.aload_n 0, 0, 0, 0, .null), (.getfield 9, 0, 0, 0, .null)] [] (WW' := [w_Ld G a0 s0]) (lv' := [some (.ref (a0 0)), some (.int x1), none, none, none]) (pc' := 16) (st' := [.int (Ld_places s0), .int x1]) (by decide +kernel) rfl rfl ⟨trivial, trivial, ⟨rfl, rfl, zw_1_152⟩, trivial⟩ ?_
  refine zr_icmp_ge (off := 21) (tgt := 37) (by decide +kernel) (by decide) (fun hc => ?_) (fun hc => ?_)
  · have hf := zift hf hc
    obtain ⟨h2, hf⟩ := zck_of hf
    obtain ⟨y3, e3, hf⟩ := zlet_of hf
    refine zr_run [(.aload_n 0, 0, 0, 0, .null), (.getfield 47, 0, 0, 11, .null), (.iload_n 1, 0, 0, 0, .null), (.bipush 10, 0, 0, 0, .int (10 : Int32)), (.imul, 0, 0, 0, .null), (.iload_n 1, 0, 0, 0, .null), (.iadd, 0, 0, 0, .null), (.iconst 0, 0, 0, 0, .int (0 : Int32)), (.iastore, 0, 7, 0, .null)] [] (WW' := [w_Ld G a0 (Ld_s_miles s0 ((upd (Ld_miles s0) ((x1 * (10 : Int32)) + x1).toNatClampNeg (0 : Int32))))]) (lv' := [some (.ref (a0 0)), some (.int x1), none, none, none]) (pc' := 31) (st' := []) (by decide +kernel) rfl rfl ⟨trivial, ⟨rfl, rfl, zw_1_175⟩, trivial, trivial, trivial, trivial, trivial, trivial, ⟨rfl, rfl, h2⟩, trivial⟩ ?_
    refine zr_eq (WW2 := [w_Ld G a0 y3]) (lv2 := [some (.ref (a0 0)), some (.int x1), none, none, none]) (st2 := []) (by rw [e3]) rfl rfl ?_
    refine zr_run [(.iinc 1 1, 0, 0, 0, .int (1 : Int32))] [] (WW' := [w_Ld G a0 y3]) (lv' := [some (.ref (a0 0)), some (.int (x1 + (1 : Int32))), none, none, none]) (pc' := 34) (st' := []) (by decide +kernel) rfl rfl ⟨trivial, trivial⟩ ?_
    refine zr_goto (off := -23) (tgt := 11) (by decide +kernel) (by decide) ?_
    exact hk11 y3 (x1 + (1 : Int32)) hf
  · have hf := ziff hf hc
    refine zr_run [(.iconst 0, 0, 0, 0, .int (0 : Int32)), (.istore_n 1, 0, 0, 0, .null)] [] (WW' := [w_Ld G a0 s0]) (lv' := [some (.ref (a0 0)), some (.int (0 : Int32)), none, none, none]) (pc' := 39) (st' := []) (by decide +kernel) rfl rfl ⟨trivial, trivial, trivial⟩ ?_
    exact t_X3_measure_L39 l G a0 W0 r zFU s0 (0 : Int32) hf
theorem t_X3_measure_L11 (l : Launch) (G : zj_G) (a0 : Nat → Nat) (W0 : List va_W) (r : LdT)    : ∀ (n : Nat) (s0 : LdT) (x1 : Int32), f_X3_measure_L11 n s0 x1 = some r → zj_J l G M_X3_measure W0 (zj_ret G M_X3_measure W0 (none) (fun _ => [w_Ld G a0 r])) 0 0 [w_Ld G a0 s0] [some (.ref (a0 0)), some (.int x1), none, none, none] 11 [] := by
  intro n
  induction n with
  | zero => intro s0 x1 hf; exact nomatch (show none = some r from hf)
  | succ n ih => intro s0 x1 hf; exact t_X3_measure_H11 l G a0 W0 r s0  (f_X3_measure_L11 n)  ih x1  hf
set_option maxRecDepth 100000 in
set_option maxHeartbeats 4000000 in
theorem c_X3_measure (l : Launch) (G : zj_G) (a0 : Nat → Nat) (s0 : LdT)  (r : LdT) (hf : f_X3_measure s0 = some r) : zj_C l G M_X3_measure yX3_measure [w_Ld G a0 s0] [.ref (a0 0)] (none) (fun _ => [w_Ld G a0 r]) := by
  have key : ∀ W0 : List va_W, zj_J l G M_X3_measure W0 (zj_ret G M_X3_measure W0 (none) (fun _ => [w_Ld G a0 r])) 0 0 [w_Ld G a0 s0] [some (.ref (a0 0)), none, none, none, none] 0 [] := by
    intro W0
    unfold f_X3_measure at hf
    refine zr_run [(.aload_n 0, 0, 0, 0, .null), (.getfield 47, 0, 0, 11, .null), (.ldc 73, 0, 0, 0, .int (100000 : Int32))] [] (WW' := [w_Ld G a0 s0]) (lv' := [some (.ref (a0 0)), none, none, none, none]) (pc' := 6) (st' := [.int (100000 : Int32), .ref (a0 7)]) (by decide +kernel) rfl rfl ⟨trivial, ⟨rfl, rfl, zw_1_175⟩, zw_3_76n, trivial⟩ ?_
    refine zr_fillI (b := 0) (c' := 7) rfl rfl rfl (Nat.le_of_ble_eq_true rfl) zw_2_231 zw_2_56 zw_1_13 zw_2_57 rfl (Nat.le_of_ble_eq_true rfl) ⟨Nat.le_of_ble_eq_true rfl, Nat.le_of_ble_eq_true rfl⟩ (by decide +kernel) ?_
    refine zr_eq (WW2 := [w_Ld G a0 (Ld_s_miles s0 ((zr_fill 100 (Ld_miles s0) (100000 : Int32))))]) rfl rfl rfl ?_
    obtain ⟨y1, e1, hf⟩ := zlet_of hf
    refine zr_eq (WW2 := [w_Ld G a0 y1]) (lv2 := [some (.ref (a0 0)), none, none, none, none]) (st2 := []) (by rw [e1]) rfl rfl ?_
    refine zr_run [(.iconst 0, 0, 0, 0, .int (0 : Int32)), (.istore_n 1, 0, 0, 0, .null)] [] (WW' := [w_Ld G a0 y1]) (lv' := [some (.ref (a0 0)), some (.int (0 : Int32)), none, none, none]) (pc' := 11) (st' := []) (by decide +kernel) rfl rfl ⟨trivial, trivial, trivial⟩ ?_
    exact t_X3_measure_L11 l G a0 W0 r zFU y1 (0 : Int32) hf
  exact zj_entry [some (.ref (a0 0)), none, none, none, none] (by decide +kernel) rfl (by decide) (Nat.le_of_ble_eq_true rfl) rfl rfl (key _)
def M_X3_firstStep : zj_M := (RX3, cX3_firstStep, 5, (some .int), { frames := 1, cells := 0, slots := 0, locals := 23 }, false)
theorem nm_X3_firstStep : zj_nm yX3_firstStep 2 := ⟨by decide +kernel, by decide +kernel, by decide +kernel⟩
def f_X3_firstStep_b49  (s0 : LdT) (k2 : Int32 → Int32 → Int32 → Option (Int32)) (x1 : Int32) (x2 : Int32) (x3 : Int32) : Option (Int32) := k2 x1 x2 (x3 + (1 : Int32))
def f_X3_firstStep_H2  (s0 : LdT) (k2 : Int32 → Int32 → Int32 → Option (Int32)) (x1 : Int32) (x2 : Int32) (x3 : Int32) : Option (Int32) := (if x3 < (Ld_places s0) then ((f_X3_roadBetween s0 x1 x3).bind fun q1 => (if q1 = (-1 : Int32) then f_X3_firstStep_b49 s0 k2 x1 x2 x3 else ((f_X3_ofRoad s0 q1 (2 : Int32)).bind fun q2 => ((f_X3_milesBetween s0 x3 x2).bind fun q3 => ((f_X3_milesBetween s0 x1 x2).bind fun q4 => (if (q2 + q3) = q4 then some x3 else f_X3_firstStep_b49 s0 k2 x1 x2 x3)))))) else some (-1 : Int32))
def f_X3_firstStep_L2  (s0 : LdT)  : Nat → Int32 → Int32 → Int32 → Option (Int32)
  | 0 => fun _ _ _ => none
  | n + 1 => fun x1 x2 x3 => f_X3_firstStep_H2 s0 (f_X3_firstStep_L2 s0 n) x1 x2 x3
def f_X3_firstStep  (s0 : LdT) (x1 : Int32) (x2 : Int32) : Option (Int32) := f_X3_firstStep_L2 s0 zFU x1 x2 (0 : Int32)
set_option maxRecDepth 100000 in
set_option maxHeartbeats 4000000 in
theorem t_X3_firstStep_b49 (l : Launch) (G : zj_G) (a0 : Nat → Nat) (W0 : List va_W) (r : Int32) (s0 : LdT) (k2 : Int32 → Int32 → Int32 → Option (Int32)) (hk2 : ∀ (x1 : Int32) (x2 : Int32) (x3 : Int32), k2 x1 x2 x3 = some r → zj_J l G M_X3_firstStep W0 (zj_ret G M_X3_firstStep W0 (some (.int r)) (fun _ => [w_Ld G a0 s0])) 0 0 [w_Ld G a0 s0] [some (.ref (a0 0)), some (.int x1), some (.int x2), some (.int x3), none] 2 []) (x1 : Int32) (x2 : Int32) (x3 : Int32) (hf : f_X3_firstStep_b49 s0 k2 x1 x2 x3 = some r) : zj_J l G M_X3_firstStep W0 (zj_ret G M_X3_firstStep W0 (some (.int r)) (fun _ => [w_Ld G a0 s0])) 0 0 [w_Ld G a0 s0] [some (.ref (a0 0)), some (.int x1), some (.int x2), some (.int x3), none] 49 [] := by
  unfold f_X3_firstStep_b49 at hf
  refine zr_run [(.iinc 3 1, 0, 0, 0, .int (1 : Int32))] [] (WW' := [w_Ld G a0 s0]) (lv' := [some (.ref (a0 0)), some (.int x1), some (.int x2), some (.int (x3 + (1 : Int32))), none]) (pc' := 52) (st' := []) (by decide +kernel) rfl rfl ⟨trivial, trivial⟩ ?_
  refine zr_goto (off := -50) (tgt := 2) (by decide +kernel) (by decide) ?_
  exact hk2 x1 x2 (x3 + (1 : Int32)) hf
set_option maxRecDepth 100000 in
set_option maxHeartbeats 4000000 in
theorem t_X3_firstStep_H2 (l : Launch) (G : zj_G) (a0 : Nat → Nat) (W0 : List va_W) (r : Int32) (s0 : LdT) (k2 : Int32 → Int32 → Int32 → Option (Int32)) (hk2 : ∀ (x1 : Int32) (x2 : Int32) (x3 : Int32), k2 x1 x2 x3 = some r → zj_J l G M_X3_firstStep W0 (zj_ret G M_X3_firstStep W0 (some (.int r)) (fun _ => [w_Ld G a0 s0])) 0 0 [w_Ld G a0 s0] [some (.ref (a0 0)), some (.int x1), some (.int x2), some (.int x3), none] 2 []) (x1 : Int32) (x2 : Int32) (x3 : Int32) (hf : f_X3_firstStep_H2 s0 k2 x1 x2 x3 = some r) : zj_J l G M_X3_firstStep W0 (zj_ret G M_X3_firstStep W0 (some (.int r)) (fun _ => [w_Ld G a0 s0])) 0 0 [w_Ld G a0 s0] [some (.ref (a0 0)), some (.int x1), some (.int x2), some (.int x3), none] 2 [] := by
  unfold f_X3_firstStep_H2 at hf
  refine zr_run [(.iload_n 3, 0, 0, 0, .null), (.aload_n 0, 0, 0, 0, .null), (.getfield 9, 0, 0, 0, .null)] [] (WW' := [w_Ld G a0 s0]) (lv' := [some (.ref (a0 0)), some (.int x1), some (.int x2), some (.int x3), none]) (pc' := 7) (st' := [.int (Ld_places s0), .int x3]) (by decide +kernel) rfl rfl ⟨trivial, trivial, ⟨rfl, rfl, zw_1_152⟩, trivial⟩ ?_
  refine zr_icmp_ge (off := 48) (tgt := 55) (by decide +kernel) (by decide) (fun hc => ?_) (fun hc => ?_)
  · have hf := zift hf hc
    obtain ⟨q1, e1, hf⟩ := zbi_of hf
    refine zr_run [(.aload_n 0, 0, 0, 0, .null), (.iload_n 1, 0, 0, 0, .null), (.iload_n 3, 0, 0, 0, .null)] [] (WW' := [w_Ld G a0 s0]) (lv' := [some (.ref (a0 0)), some (.int x1), some (.int x2), some (.int x3), none]) (pc' := 13) (st' := [.int x3, .int x1, .ref (a0 0)]) (by decide +kernel) rfl rfl ⟨trivial, trivial, trivial, trivial⟩ ?_
    refine zr_callV (c_X3_roadBetween l G a0 s0 x1 x3 q1 e1) (WW' := fun _ => [w_Ld G a0 s0]) (st := []) (st' := [.int q1]) [0] rfl rfl (fun _ => Nat.le_of_ble_eq_true rfl) (fun _ => rfl) rfl rfl nm_X3_roadBetween zw_3_46 zw_3_47 zw_3_48 zw_1_7 zw_3_47n rfl rfl rfl (Nat.le_of_ble_eq_true rfl) ⟨Nat.le_of_ble_eq_true rfl, Nat.le_of_ble_eq_true rfl⟩ (by decide +kernel) (fun _ => ?_)
    refine zr_run [(.istore 4, 0, 0, 0, .null), (.iload 4, 0, 0, 0, .null), (.iconst (-1), 0, 0, 0, .int (-1 : Int32))] [] (WW' := [w_Ld G a0 s0]) (lv' := [some (.ref (a0 0)), some (.int x1), some (.int x2), some (.int x3), some (.int q1)]) (pc' := 21) (st' := [.int (-1 : Int32), .int q1]) (by decide +kernel) rfl rfl ⟨trivial, trivial, trivial, trivial⟩ ?_
    refine zr_icmp_eq (off := 28) (tgt := 49) (by decide +kernel) (by decide) (fun hc => ?_) (fun hc => ?_)
    · have hf := zift hf hc
      refine zr_run [] [4] (WW' := [w_Ld G a0 s0]) (lv' := [some (.ref (a0 0)), some (.int x1), some (.int x2), some (.int x3), none]) (pc' := 49) (st' := []) (by decide +kernel) rfl rfl trivial ?_
      exact t_X3_firstStep_b49 l G a0 W0 r s0 k2 hk2 x1 x2 x3 hf
    · have hf := ziff hf hc
      obtain ⟨q2, e2, hf⟩ := zbi_of hf
      refine zr_run [(.aload_n 0, 0, 0, 0, .null), (.iload 4, 0, 0, 0, .null), (.iconst 2, 0, 0, 0, .int (2 : Int32))] [] (WW' := [w_Ld G a0 s0]) (lv' := [some (.ref (a0 0)), some (.int x1), some (.int x2), some (.int x3), some (.int q1)]) (pc' := 28) (st' := [.int (2 : Int32), .int q1, .ref (a0 0)]) (by decide +kernel) rfl rfl ⟨trivial, trivial, trivial, trivial⟩ ?_
      refine zr_callV (c_X3_ofRoad l G a0 s0 q1 (2 : Int32) q2 e2) (WW' := fun _ => [w_Ld G a0 s0]) (st := []) (st' := [.int q2]) [0] rfl rfl (fun _ => Nat.le_of_ble_eq_true rfl) (fun _ => rfl) rfl rfl nm_X3_ofRoad zw_3_79 zw_3_80 zw_3_81 zw_1_7 zw_3_80n rfl rfl rfl (Nat.le_of_ble_eq_true rfl) ⟨Nat.le_of_ble_eq_true rfl, Nat.le_of_ble_eq_true rfl⟩ (by decide +kernel) (fun _ => ?_)
      obtain ⟨q3, e3, hf⟩ := zbi_of hf
      refine zr_run [(.aload_n 0, 0, 0, 0, .null), (.iload_n 3, 0, 0, 0, .null), (.iload_n 2, 0, 0, 0, .null)] [] (WW' := [w_Ld G a0 s0]) (lv' := [some (.ref (a0 0)), some (.int x1), some (.int x2), some (.int x3), some (.int q1)]) (pc' := 34) (st' := [.int x2, .int x3, .ref (a0 0), .int q2]) (by decide +kernel) rfl rfl ⟨trivial, trivial, trivial, trivial⟩ ?_
      refine zr_callV (c_X3_milesBetween l G a0 s0 x3 x2 q3 e3) (WW' := fun _ => [w_Ld G a0 s0]) (st := [.int q2]) (st' := [.int q3, .int q2]) [0] rfl rfl (fun _ => Nat.le_of_ble_eq_true rfl) (fun _ => rfl) rfl rfl nm_X3_milesBetween zw_3_87 zw_3_88 zw_3_89 zw_1_7 zw_3_88n rfl rfl rfl (Nat.le_of_ble_eq_true rfl) ⟨Nat.le_of_ble_eq_true rfl, Nat.le_of_ble_eq_true rfl⟩ (by decide +kernel) (fun _ => ?_)
      obtain ⟨q4, e4, hf⟩ := zbi_of hf
      refine zr_run [(.iadd, 0, 0, 0, .null), (.aload_n 0, 0, 0, 0, .null), (.iload_n 1, 0, 0, 0, .null), (.iload_n 2, 0, 0, 0, .null)] [] (WW' := [w_Ld G a0 s0]) (lv' := [some (.ref (a0 0)), some (.int x1), some (.int x2), some (.int x3), some (.int q1)]) (pc' := 41) (st' := [.int x2, .int x1, .ref (a0 0), .int (q2 + q3)]) (by decide +kernel) rfl rfl ⟨trivial, trivial, trivial, trivial, trivial⟩ ?_
      refine zr_callV (c_X3_milesBetween l G a0 s0 x1 x2 q4 e4) (WW' := fun _ => [w_Ld G a0 s0]) (st := [.int (q2 + q3)]) (st' := [.int q4, .int (q2 + q3)]) [0] rfl rfl (fun _ => Nat.le_of_ble_eq_true rfl) (fun _ => rfl) rfl rfl nm_X3_milesBetween zw_3_87 zw_3_88 zw_3_89 zw_1_7 zw_3_88n rfl rfl rfl (Nat.le_of_ble_eq_true rfl) ⟨Nat.le_of_ble_eq_true rfl, Nat.le_of_ble_eq_true rfl⟩ (by decide +kernel) (fun _ => ?_)
      refine zr_icmp_ne (off := 5) (tgt := 49) (by decide +kernel) (by decide) (fun hc => ?_) (fun hc => ?_)
      · have hf := zift hf hc
        refine zr_run [(.iload_n 3, 0, 0, 0, .null)] [] (WW' := [w_Ld G a0 s0]) (lv' := [some (.ref (a0 0)), some (.int x1), some (.int x2), some (.int x3), some (.int q1)]) (pc' := 48) (st' := [.int x3]) (by decide +kernel) rfl rfl ⟨trivial, trivial⟩ ?_
        obtain rfl := Option.some.inj hf
        exact zr_iret (b0 := fun _ => 0) (by decide +kernel) rfl rfl rfl rfl rfl
      · have hf := ziff hf hc
        refine zr_run [] [4] (WW' := [w_Ld G a0 s0]) (lv' := [some (.ref (a0 0)), some (.int x1), some (.int x2), some (.int x3), none]) (pc' := 49) (st' := []) (by decide +kernel) rfl rfl trivial ?_
        exact t_X3_firstStep_b49 l G a0 W0 r s0 k2 hk2 x1 x2 x3 hf
  · have hf := ziff hf hc
    refine zr_run [(.iconst (-1), 0, 0, 0, .int (-1 : Int32))] [] (WW' := [w_Ld G a0 s0]) (lv' := [some (.ref (a0 0)), some (.int x1), some (.int x2), some (.int x3), none]) (pc' := 56) (st' := [.int (-1 : Int32)]) (by decide +kernel) rfl rfl ⟨trivial, trivial⟩ ?_
    obtain rfl := Option.some.inj hf
    exact zr_iret (b0 := fun _ => 0) (by decide +kernel) rfl rfl rfl rfl rfl
theorem t_X3_firstStep_L2 (l : Launch) (G : zj_G) (a0 : Nat → Nat) (W0 : List va_W) (r : Int32) (s0 : LdT)   : ∀ (n : Nat) (x1 : Int32) (x2 : Int32) (x3 : Int32), f_X3_firstStep_L2 s0 n x1 x2 x3 = some r → zj_J l G M_X3_firstStep W0 (zj_ret G M_X3_firstStep W0 (some (.int r)) (fun _ => [w_Ld G a0 s0])) 0 0 [w_Ld G a0 s0] [some (.ref (a0 0)), some (.int x1), some (.int x2), some (.int x3), none] 2 [] := by
  intro n
  induction n with
  | zero => intro x1 x2 x3 hf; exact nomatch (show none = some r from hf)
  | succ n ih => intro x1 x2 x3 hf; exact t_X3_firstStep_H2 l G a0 W0 r s0  (f_X3_firstStep_L2 s0 n)  ih x1 x2 x3  hf
set_option maxRecDepth 100000 in
set_option maxHeartbeats 4000000 in
theorem c_X3_firstStep (l : Launch) (G : zj_G) (a0 : Nat → Nat) (s0 : LdT) (x1 : Int32) (x2 : Int32) (r : Int32) (hf : f_X3_firstStep s0 x1 x2 = some r) : zj_C l G M_X3_firstStep yX3_firstStep [w_Ld G a0 s0] [.ref (a0 0), .int x1, .int x2] (some (.int r)) (fun _ => [w_Ld G a0 s0]) := by
  have key : ∀ W0 : List va_W, zj_J l G M_X3_firstStep W0 (zj_ret G M_X3_firstStep W0 (some (.int r)) (fun _ => [w_Ld G a0 s0])) 0 0 [w_Ld G a0 s0] [some (.ref (a0 0)), some (.int x1), some (.int x2), none, none] 0 [] := by
    intro W0
    unfold f_X3_firstStep at hf
    refine zr_run [(.iconst 0, 0, 0, 0, .int (0 : Int32)), (.istore_n 3, 0, 0, 0, .null)] [] (WW' := [w_Ld G a0 s0]) (lv' := [some (.ref (a0 0)), some (.int x1), some (.int x2), some (.int (0 : Int32)), none]) (pc' := 2) (st' := []) (by decide +kernel) rfl rfl ⟨trivial, trivial, trivial⟩ ?_
    exact t_X3_firstStep_L2 l G a0 W0 r s0 zFU x1 x2 (0 : Int32) hf
  exact zj_entry [some (.ref (a0 0)), some (.int x1), some (.int x2), none, none] (by decide +kernel) rfl (by decide) (Nat.le_of_ble_eq_true rfl) rfl rfl (key _)
def M_X3_findWays : zj_M := (RX3, cX3_findWays, 4, none, { frames := 2, cells := 0, slots := 0, locals := 47 }, false)
theorem nm_X3_findWays : zj_nm yX3_findWays 0 := ⟨by decide +kernel, by decide +kernel, by decide +kernel⟩
def f_X3_findWays_b82  (s0 : LdT) (k2 : LdT → Int32 → Option (LdT)) (k12 : LdT → Int32 → Int32 → Option (LdT)) (x1 : Int32) (x2 : Int32) (z0 : Int32) (z1 : Int32) : Option (LdT) := (if zb_in z1 100 = true then (zlet (Ld_s_towards s0 ((upd (Ld_towards s0) z1.toNatClampNeg z0))) fun y4 => k12 y4 x1 (x2 + (1 : Int32))) else none)
def f_X3_findWays_b44  (s0 : LdT) (k2 : LdT → Int32 → Option (LdT)) (k12 : LdT → Int32 → Int32 → Option (LdT)) (x1 : Int32) (x2 : Int32) (z0 : Int32) : Option (LdT) := (if zb_in ((x1 * (10 : Int32)) + x2) 100 = true then (zlet (Ld_s_nexts s0 ((upd (Ld_nexts s0) ((x1 * (10 : Int32)) + x2).toNatClampNeg z0))) fun y2 => (if z0 = (-1 : Int32) then f_X3_findWays_b82 y2 k2 k12 x1 x2 (-1 : Int32) ((x1 * (10 : Int32)) + x2) else ((f_X3_roadBetween y2 x1 z0).bind fun q5 => f_X3_findWays_b82 y2 k2 k12 x1 x2 q5 ((x1 * (10 : Int32)) + x2)))) else none)
def f_X3_findWays_b43  (s0 : LdT) (k2 : LdT → Int32 → Option (LdT)) (k12 : LdT → Int32 → Int32 → Option (LdT)) (x1 : Int32) (x2 : Int32) : Option (LdT) := f_X3_findWays_b44 s0 k2 k12 x1 x2 (-1 : Int32)
def f_X3_findWays_H12  (s0 : LdT) (k2 : LdT → Int32 → Option (LdT)) (k12 : LdT → Int32 → Int32 → Option (LdT)) (x1 : Int32) (x2 : Int32) : Option (LdT) := (if x2 < (Ld_places s0) then (if x1 = x2 then f_X3_findWays_b43 s0 k2 k12 x1 x2 else ((f_X3_joined s0 x1 x2).bind fun q6 => (if q6 = 0 then f_X3_findWays_b43 s0 k2 k12 x1 x2 else ((f_X3_firstStep s0 x1 x2).bind fun q7 => f_X3_findWays_b44 s0 k2 k12 x1 x2 q7)))) else k2 s0 (x1 + (1 : Int32)))
def f_X3_findWays_L12   (k2 : LdT → Int32 → Option (LdT)) : Nat → LdT → Int32 → Int32 → Option (LdT)
  | 0 => fun _ _ _ => none
  | n + 1 => fun s0 x1 x2 => f_X3_findWays_H12 s0 k2 (f_X3_findWays_L12 k2 n) x1 x2
def f_X3_findWays_H2  (s0 : LdT) (k2 : LdT → Int32 → Option (LdT)) (x1 : Int32) : Option (LdT) := (if x1 < (Ld_places s0) then f_X3_findWays_L12 k2 zFU s0 x1 (0 : Int32) else some s0)
def f_X3_findWays_L2    : Nat → LdT → Int32 → Option (LdT)
  | 0 => fun _ _ => none
  | n + 1 => fun s0 x1 => f_X3_findWays_H2 s0 (f_X3_findWays_L2  n) x1
def f_X3_findWays  (s0 : LdT)  : Option (LdT) := f_X3_findWays_L2 zFU s0 (0 : Int32)
set_option maxRecDepth 100000 in
set_option maxHeartbeats 4000000 in
theorem t_X3_findWays_b82 (l : Launch) (G : zj_G) (a0 : Nat → Nat) (W0 : List va_W) (r : LdT) (s0 : LdT) (k2 : LdT → Int32 → Option (LdT)) (k12 : LdT → Int32 → Int32 → Option (LdT)) (hk2 : ∀ (s0 : LdT) (x1 : Int32), k2 s0 x1 = some r → zj_J l G M_X3_findWays W0 (zj_ret G M_X3_findWays W0 (none) (fun _ => [w_Ld G a0 r])) 0 0 [w_Ld G a0 s0] [some (.ref (a0 0)), some (.int x1), none, none] 2 []) (hk12 : ∀ (s0 : LdT) (x1 : Int32) (x2 : Int32), k12 s0 x1 x2 = some r → zj_J l G M_X3_findWays W0 (zj_ret G M_X3_findWays W0 (none) (fun _ => [w_Ld G a0 r])) 0 0 [w_Ld G a0 s0] [some (.ref (a0 0)), some (.int x1), some (.int x2), none] 12 []) (x1 : Int32) (x2 : Int32) (z0 : Int32) (z1 : Int32) (hf : f_X3_findWays_b82 s0 k2 k12 x1 x2 z0 z1 = some r) : zj_J l G M_X3_findWays W0 (zj_ret G M_X3_findWays W0 (none) (fun _ => [w_Ld G a0 r])) 0 0 [w_Ld G a0 s0] [some (.ref (a0 0)), some (.int x1), some (.int x2), none] 82 [.int z0, .int z1, .ref (a0 9)] := by
  unfold f_X3_findWays_b82 at hf
  obtain ⟨h3, hf⟩ := zck_of hf
  obtain ⟨y4, e4, hf⟩ := zlet_of hf
  refine zr_run [(.iastore, 0, 9, 0, .null)] [] (WW' := [w_Ld G a0 (Ld_s_towards s0 ((upd (Ld_towards s0) z1.toNatClampNeg z0)))]) (lv' := [some (.ref (a0 0)), some (.int x1), some (.int x2), none]) (pc' := 83) (st' := []) (by decide +kernel) rfl rfl ⟨⟨rfl, rfl, h3⟩, trivial⟩ ?_
  refine zr_eq (WW2 := [w_Ld G a0 y4]) (lv2 := [some (.ref (a0 0)), some (.int x1), some (.int x2), none]) (st2 := []) (by rw [e4]) rfl rfl ?_
  refine zr_run [(.iinc 2 1, 0, 0, 0, .int (1 : Int32))] [] (WW' := [w_Ld G a0 y4]) (lv' := [some (.ref (a0 0)), some (.int x1), some (.int (x2 + (1 : Int32))), none]) (pc' := 86) (st' := []) (by decide +kernel) rfl rfl ⟨trivial, trivial⟩ ?_
  refine zr_goto (off := -74) (tgt := 12) (by decide +kernel) (by decide) ?_
  exact hk12 y4 x1 (x2 + (1 : Int32)) hf
set_option maxRecDepth 100000 in
set_option maxHeartbeats 4000000 in
theorem t_X3_findWays_b44 (l : Launch) (G : zj_G) (a0 : Nat → Nat) (W0 : List va_W) (r : LdT) (s0 : LdT) (k2 : LdT → Int32 → Option (LdT)) (k12 : LdT → Int32 → Int32 → Option (LdT)) (hk2 : ∀ (s0 : LdT) (x1 : Int32), k2 s0 x1 = some r → zj_J l G M_X3_findWays W0 (zj_ret G M_X3_findWays W0 (none) (fun _ => [w_Ld G a0 r])) 0 0 [w_Ld G a0 s0] [some (.ref (a0 0)), some (.int x1), none, none] 2 []) (hk12 : ∀ (s0 : LdT) (x1 : Int32) (x2 : Int32), k12 s0 x1 x2 = some r → zj_J l G M_X3_findWays W0 (zj_ret G M_X3_findWays W0 (none) (fun _ => [w_Ld G a0 r])) 0 0 [w_Ld G a0 s0] [some (.ref (a0 0)), some (.int x1), some (.int x2), none] 12 []) (x1 : Int32) (x2 : Int32) (z0 : Int32) (hf : f_X3_findWays_b44 s0 k2 k12 x1 x2 z0 = some r) : zj_J l G M_X3_findWays W0 (zj_ret G M_X3_findWays W0 (none) (fun _ => [w_Ld G a0 r])) 0 0 [w_Ld G a0 s0] [some (.ref (a0 0)), some (.int x1), some (.int x2), none] 44 [.int z0] := by
  unfold f_X3_findWays_b44 at hf
  obtain ⟨h1, hf⟩ := zck_of hf
  obtain ⟨y2, e2, hf⟩ := zlet_of hf
  refine zr_run [(.istore_n 3, 0, 0, 0, .null), (.aload_n 0, 0, 0, 0, .null), (.getfield 50, 0, 0, 12, .null), (.iload_n 1, 0, 0, 0, .null), (.bipush 10, 0, 0, 0, .int (10 : Int32)), (.imul, 0, 0, 0, .null), (.iload_n 2, 0, 0, 0, .null), (.iadd, 0, 0, 0, .null), (.iload_n 3, 0, 0, 0, .null), (.iastore, 0, 8, 0, .null)] [] (WW' := [w_Ld G a0 (Ld_s_nexts s0 ((upd (Ld_nexts s0) ((x1 * (10 : Int32)) + x2).toNatClampNeg z0)))]) (lv' := [some (.ref (a0 0)), some (.int x1), some (.int x2), some (.int z0)]) (pc' := 57) (st' := []) (by decide +kernel) rfl rfl ⟨trivial, trivial, ⟨rfl, rfl, zw_1_176⟩, trivial, trivial, trivial, trivial, trivial, trivial, ⟨rfl, rfl, h1⟩, trivial⟩ ?_
  refine zr_eq (WW2 := [w_Ld G a0 y2]) (lv2 := [some (.ref (a0 0)), some (.int x1), some (.int x2), some (.int z0)]) (st2 := []) (by rw [e2]) rfl rfl ?_
  refine zr_run [(.aload_n 0, 0, 0, 0, .null), (.getfield 53, 0, 0, 13, .null), (.iload_n 1, 0, 0, 0, .null), (.bipush 10, 0, 0, 0, .int (10 : Int32)), (.imul, 0, 0, 0, .null), (.iload_n 2, 0, 0, 0, .null), (.iadd, 0, 0, 0, .null), (.iload_n 3, 0, 0, 0, .null), (.iconst (-1), 0, 0, 0, .int (-1 : Int32))] [] (WW' := [w_Ld G a0 y2]) (lv' := [some (.ref (a0 0)), some (.int x1), some (.int x2), some (.int z0)]) (pc' := 69) (st' := [.int (-1 : Int32), .int z0, .int ((x1 * (10 : Int32)) + x2), .ref (a0 9)]) (by decide +kernel) rfl rfl ⟨trivial, ⟨rfl, rfl, zw_1_177⟩, trivial, trivial, trivial, trivial, trivial, trivial, trivial, trivial⟩ ?_
  refine zr_icmp_ne (off := 7) (tgt := 76) (by decide +kernel) (by decide) (fun hc => ?_) (fun hc => ?_)
  · have hf := zift hf hc
    refine zr_run [(.iconst (-1), 0, 0, 0, .int (-1 : Int32))] [] (WW' := [w_Ld G a0 y2]) (lv' := [some (.ref (a0 0)), some (.int x1), some (.int x2), some (.int z0)]) (pc' := 73) (st' := [.int (-1 : Int32), .int ((x1 * (10 : Int32)) + x2), .ref (a0 9)]) (by decide +kernel) rfl rfl ⟨trivial, trivial⟩ ?_
    refine zr_goto (off := 9) (tgt := 82) (by decide +kernel) (by decide) ?_
    refine zr_run [] [3] (WW' := [w_Ld G a0 y2]) (lv' := [some (.ref (a0 0)), some (.int x1), some (.int x2), none]) (pc' := 82) (st' := [.int (-1 : Int32), .int ((x1 * (10 : Int32)) + x2), .ref (a0 9)]) (by decide +kernel) rfl rfl trivial ?_
    exact t_X3_findWays_b82 l G a0 W0 r y2 k2 k12 hk2 hk12 x1 x2 (-1 : Int32) ((x1 * (10 : Int32)) + x2) hf
  · have hf := ziff hf hc
    obtain ⟨q5, e5, hf⟩ := zbi_of hf
    refine zr_run [(.aload_n 0, 0, 0, 0, .null), (.iload_n 1, 0, 0, 0, .null), (.iload_n 3, 0, 0, 0, .null)] [] (WW' := [w_Ld G a0 y2]) (lv' := [some (.ref (a0 0)), some (.int x1), some (.int x2), some (.int z0)]) (pc' := 79) (st' := [.int z0, .int x1, .ref (a0 0), .int ((x1 * (10 : Int32)) + x2), .ref (a0 9)]) (by decide +kernel) rfl rfl ⟨trivial, trivial, trivial, trivial⟩ ?_
    refine zr_callV (c_X3_roadBetween l G a0 y2 x1 z0 q5 e5) (WW' := fun _ => [w_Ld G a0 y2]) (st := [.int ((x1 * (10 : Int32)) + x2), .ref (a0 9)]) (st' := [.int q5, .int ((x1 * (10 : Int32)) + x2), .ref (a0 9)]) [0] rfl rfl (fun _ => Nat.le_of_ble_eq_true rfl) (fun _ => rfl) rfl rfl nm_X3_roadBetween zw_3_46 zw_3_47 zw_3_48 zw_1_7 zw_3_47n rfl rfl rfl (Nat.le_of_ble_eq_true rfl) ⟨Nat.le_of_ble_eq_true rfl, Nat.le_of_ble_eq_true rfl⟩ (by decide +kernel) (fun _ => ?_)
    refine zr_run [] [3] (WW' := [w_Ld G a0 y2]) (lv' := [some (.ref (a0 0)), some (.int x1), some (.int x2), none]) (pc' := 82) (st' := [.int q5, .int ((x1 * (10 : Int32)) + x2), .ref (a0 9)]) (by decide +kernel) rfl rfl trivial ?_
    exact t_X3_findWays_b82 l G a0 W0 r y2 k2 k12 hk2 hk12 x1 x2 q5 ((x1 * (10 : Int32)) + x2) hf
set_option maxRecDepth 100000 in
set_option maxHeartbeats 4000000 in
theorem t_X3_findWays_b43 (l : Launch) (G : zj_G) (a0 : Nat → Nat) (W0 : List va_W) (r : LdT) (s0 : LdT) (k2 : LdT → Int32 → Option (LdT)) (k12 : LdT → Int32 → Int32 → Option (LdT)) (hk2 : ∀ (s0 : LdT) (x1 : Int32), k2 s0 x1 = some r → zj_J l G M_X3_findWays W0 (zj_ret G M_X3_findWays W0 (none) (fun _ => [w_Ld G a0 r])) 0 0 [w_Ld G a0 s0] [some (.ref (a0 0)), some (.int x1), none, none] 2 []) (hk12 : ∀ (s0 : LdT) (x1 : Int32) (x2 : Int32), k12 s0 x1 x2 = some r → zj_J l G M_X3_findWays W0 (zj_ret G M_X3_findWays W0 (none) (fun _ => [w_Ld G a0 r])) 0 0 [w_Ld G a0 s0] [some (.ref (a0 0)), some (.int x1), some (.int x2), none] 12 []) (x1 : Int32) (x2 : Int32) (hf : f_X3_findWays_b43 s0 k2 k12 x1 x2 = some r) : zj_J l G M_X3_findWays W0 (zj_ret G M_X3_findWays W0 (none) (fun _ => [w_Ld G a0 r])) 0 0 [w_Ld G a0 s0] [some (.ref (a0 0)), some (.int x1), some (.int x2), none] 43 [] := by
  unfold f_X3_findWays_b43 at hf
  refine zr_run [(.iconst (-1), 0, 0, 0, .int (-1 : Int32))] [] (WW' := [w_Ld G a0 s0]) (lv' := [some (.ref (a0 0)), some (.int x1), some (.int x2), none]) (pc' := 44) (st' := [.int (-1 : Int32)]) (by decide +kernel) rfl rfl ⟨trivial, trivial⟩ ?_
  exact t_X3_findWays_b44 l G a0 W0 r s0 k2 k12 hk2 hk12 x1 x2 (-1 : Int32) hf
set_option maxRecDepth 100000 in
set_option maxHeartbeats 4000000 in
theorem t_X3_findWays_H12 (l : Launch) (G : zj_G) (a0 : Nat → Nat) (W0 : List va_W) (r : LdT) (s0 : LdT) (k2 : LdT → Int32 → Option (LdT)) (k12 : LdT → Int32 → Int32 → Option (LdT)) (hk2 : ∀ (s0 : LdT) (x1 : Int32), k2 s0 x1 = some r → zj_J l G M_X3_findWays W0 (zj_ret G M_X3_findWays W0 (none) (fun _ => [w_Ld G a0 r])) 0 0 [w_Ld G a0 s0] [some (.ref (a0 0)), some (.int x1), none, none] 2 []) (hk12 : ∀ (s0 : LdT) (x1 : Int32) (x2 : Int32), k12 s0 x1 x2 = some r → zj_J l G M_X3_findWays W0 (zj_ret G M_X3_findWays W0 (none) (fun _ => [w_Ld G a0 r])) 0 0 [w_Ld G a0 s0] [some (.ref (a0 0)), some (.int x1), some (.int x2), none] 12 []) (x1 : Int32) (x2 : Int32) (hf : f_X3_findWays_H12 s0 k2 k12 x1 x2 = some r) : zj_J l G M_X3_findWays W0 (zj_ret G M_X3_findWays W0 (none) (fun _ => [w_Ld G a0 r])) 0 0 [w_Ld G a0 s0] [some (.ref (a0 0)), some (.int x1), some (.int x2), none] 12 [] := by
  unfold f_X3_findWays_H12 at hf
  refine zr_run [(.iload_n 2, 0, 0, 0, .null), (.aload_n 0, 0, 0, 0, .null), (.getfield 9, 0, 0, 0, .null)] [] (WW' := [w_Ld G a0 s0]) (lv' := [some (.ref (a0 0)), some (.int x1), some (.int x2), none]) (pc' := 17) (st' := [.int (Ld_places s0), .int x2]) (by decide +kernel) rfl rfl ⟨trivial, trivial, ⟨rfl, rfl, zw_1_152⟩, trivial⟩ ?_
  refine zr_icmp_ge (off := 72) (tgt := 89) (by decide +kernel) (by decide) (fun hc => ?_) (fun hc => ?_)
  · have hf := zift hf hc
    refine zr_run [(.iload_n 1, 0, 0, 0, .null), (.iload_n 2, 0, 0, 0, .null)] [] (WW' := [w_Ld G a0 s0]) (lv' := [some (.ref (a0 0)), some (.int x1), some (.int x2), none]) (pc' := 22) (st' := [.int x2, .int x1]) (by decide +kernel) rfl rfl ⟨trivial, trivial, trivial⟩ ?_
    refine zr_icmp_eq (off := 21) (tgt := 43) (by decide +kernel) (by decide) (fun hc => ?_) (fun hc => ?_)
    · have hf := zift hf hc
      exact t_X3_findWays_b43 l G a0 W0 r s0 k2 k12 hk2 hk12 x1 x2 hf
    · have hf := ziff hf hc
      obtain ⟨q6, e6, hf⟩ := zbi_of hf
      refine zr_run [(.aload_n 0, 0, 0, 0, .null), (.iload_n 1, 0, 0, 0, .null), (.iload_n 2, 0, 0, 0, .null)] [] (WW' := [w_Ld G a0 s0]) (lv' := [some (.ref (a0 0)), some (.int x1), some (.int x2), none]) (pc' := 28) (st' := [.int x2, .int x1, .ref (a0 0)]) (by decide +kernel) rfl rfl ⟨trivial, trivial, trivial, trivial⟩ ?_
      refine zr_callV (c_X3_joined l G a0 s0 x1 x2 q6 e6) (WW' := fun _ => [w_Ld G a0 s0]) (st := []) (st' := [.int q6]) [0] rfl rfl (fun _ => Nat.le_of_ble_eq_true rfl) (fun _ => rfl) rfl rfl nm_X3_joined zw_3_83 zw_3_84 zw_3_85 zw_1_7 zw_3_86 rfl rfl rfl (Nat.le_of_ble_eq_true rfl) ⟨Nat.le_of_ble_eq_true rfl, Nat.le_of_ble_eq_true rfl⟩ (by decide +kernel) (fun _ => ?_)
      refine zr_if_eq (off := 12) (tgt := 43) (by decide +kernel) (by decide) (fun hc => ?_) (fun hc => ?_)
      · have hf := zift hf hc
        exact t_X3_findWays_b43 l G a0 W0 r s0 k2 k12 hk2 hk12 x1 x2 hf
      · have hf := ziff hf hc
        obtain ⟨q7, e7, hf⟩ := zbi_of hf
        refine zr_run [(.aload_n 0, 0, 0, 0, .null), (.iload_n 1, 0, 0, 0, .null), (.iload_n 2, 0, 0, 0, .null)] [] (WW' := [w_Ld G a0 s0]) (lv' := [some (.ref (a0 0)), some (.int x1), some (.int x2), none]) (pc' := 37) (st' := [.int x2, .int x1, .ref (a0 0)]) (by decide +kernel) rfl rfl ⟨trivial, trivial, trivial, trivial⟩ ?_
        refine zr_callV (c_X3_firstStep l G a0 s0 x1 x2 q7 e7) (WW' := fun _ => [w_Ld G a0 s0]) (st := []) (st' := [.int q7]) [0] rfl rfl (fun _ => Nat.le_of_ble_eq_true rfl) (fun _ => rfl) rfl rfl nm_X3_firstStep zw_3_95 zw_3_97 zw_0_9 zw_1_7 zw_3_98 rfl rfl rfl (Nat.le_of_ble_eq_true rfl) ⟨Nat.le_of_ble_eq_true rfl, Nat.le_of_ble_eq_true rfl⟩ (by decide +kernel) (fun _ => ?_)
        refine zr_goto (off := 4) (tgt := 44) (by decide +kernel) (by decide) ?_
        exact t_X3_findWays_b44 l G a0 W0 r s0 k2 k12 hk2 hk12 x1 x2 q7 hf
  · have hf := ziff hf hc
    refine zr_run [(.iinc 1 1, 0, 0, 0, .int (1 : Int32))] [] (WW' := [w_Ld G a0 s0]) (lv' := [some (.ref (a0 0)), some (.int (x1 + (1 : Int32))), some (.int x2), none]) (pc' := 92) (st' := []) (by decide +kernel) rfl rfl ⟨trivial, trivial⟩ ?_
    refine zr_run [] [2] (WW' := [w_Ld G a0 s0]) (lv' := [some (.ref (a0 0)), some (.int (x1 + (1 : Int32))), none, none]) (pc' := 92) (st' := []) (by decide +kernel) rfl rfl trivial ?_
    refine zr_goto (off := -90) (tgt := 2) (by decide +kernel) (by decide) ?_
    exact hk2 s0 (x1 + (1 : Int32)) hf
theorem t_X3_findWays_L12 (l : Launch) (G : zj_G) (a0 : Nat → Nat) (W0 : List va_W) (r : LdT)  (k2 : LdT → Int32 → Option (LdT)) (hk2 : ∀ (s0 : LdT) (x1 : Int32), k2 s0 x1 = some r → zj_J l G M_X3_findWays W0 (zj_ret G M_X3_findWays W0 (none) (fun _ => [w_Ld G a0 r])) 0 0 [w_Ld G a0 s0] [some (.ref (a0 0)), some (.int x1), none, none] 2 []) : ∀ (n : Nat) (s0 : LdT) (x1 : Int32) (x2 : Int32), f_X3_findWays_L12 k2 n s0 x1 x2 = some r → zj_J l G M_X3_findWays W0 (zj_ret G M_X3_findWays W0 (none) (fun _ => [w_Ld G a0 r])) 0 0 [w_Ld G a0 s0] [some (.ref (a0 0)), some (.int x1), some (.int x2), none] 12 [] := by
  intro n
  induction n with
  | zero => intro s0 x1 x2 hf; exact nomatch (show none = some r from hf)
  | succ n ih => intro s0 x1 x2 hf; exact t_X3_findWays_H12 l G a0 W0 r s0 k2 (f_X3_findWays_L12 k2 n) hk2 ih x1 x2  hf
set_option maxRecDepth 100000 in
set_option maxHeartbeats 4000000 in
theorem t_X3_findWays_H2 (l : Launch) (G : zj_G) (a0 : Nat → Nat) (W0 : List va_W) (r : LdT) (s0 : LdT) (k2 : LdT → Int32 → Option (LdT)) (hk2 : ∀ (s0 : LdT) (x1 : Int32), k2 s0 x1 = some r → zj_J l G M_X3_findWays W0 (zj_ret G M_X3_findWays W0 (none) (fun _ => [w_Ld G a0 r])) 0 0 [w_Ld G a0 s0] [some (.ref (a0 0)), some (.int x1), none, none] 2 []) (x1 : Int32) (hf : f_X3_findWays_H2 s0 k2 x1 = some r) : zj_J l G M_X3_findWays W0 (zj_ret G M_X3_findWays W0 (none) (fun _ => [w_Ld G a0 r])) 0 0 [w_Ld G a0 s0] [some (.ref (a0 0)), some (.int x1), none, none] 2 [] := by
  unfold f_X3_findWays_H2 at hf
  refine zr_run [(.iload_n 1, 0, 0, 0, .null), (.aload_n 0, 0, 0, 0, .null), (.getfield 9, 0, 0, 0, .null)] [] (WW' := [w_Ld G a0 s0]) (lv' := [some (.ref (a0 0)), some (.int x1), none, none]) (pc' := 7) (st' := [.int (Ld_places s0), .int x1]) (by decide +kernel) rfl rfl ⟨trivial, trivial, ⟨rfl, rfl, zw_1_152⟩, trivial⟩ ?_
  refine zr_icmp_ge (off := 88) (tgt := 95) (by decide +kernel) (by decide) (fun hc => ?_) (fun hc => ?_)
  · have hf := zift hf hc
    refine zr_run [(.iconst 0, 0, 0, 0, .int (0 : Int32)), (.istore_n 2, 0, 0, 0, .null)] [] (WW' := [w_Ld G a0 s0]) (lv' := [some (.ref (a0 0)), some (.int x1), some (.int (0 : Int32)), none]) (pc' := 12) (st' := []) (by decide +kernel) rfl rfl ⟨trivial, trivial, trivial⟩ ?_
    exact t_X3_findWays_L12 l G a0 W0 r k2 hk2 zFU s0 x1 (0 : Int32) hf
  · have hf := ziff hf hc
    obtain rfl := Option.some.inj hf
    exact zr_vret (b0 := fun _ => 0) (by decide +kernel) rfl rfl rfl rfl rfl
theorem t_X3_findWays_L2 (l : Launch) (G : zj_G) (a0 : Nat → Nat) (W0 : List va_W) (r : LdT)    : ∀ (n : Nat) (s0 : LdT) (x1 : Int32), f_X3_findWays_L2 n s0 x1 = some r → zj_J l G M_X3_findWays W0 (zj_ret G M_X3_findWays W0 (none) (fun _ => [w_Ld G a0 r])) 0 0 [w_Ld G a0 s0] [some (.ref (a0 0)), some (.int x1), none, none] 2 [] := by
  intro n
  induction n with
  | zero => intro s0 x1 hf; exact nomatch (show none = some r from hf)
  | succ n ih => intro s0 x1 hf; exact t_X3_findWays_H2 l G a0 W0 r s0  (f_X3_findWays_L2 n)  ih x1  hf
set_option maxRecDepth 100000 in
set_option maxHeartbeats 4000000 in
theorem c_X3_findWays (l : Launch) (G : zj_G) (a0 : Nat → Nat) (s0 : LdT)  (r : LdT) (hf : f_X3_findWays s0 = some r) : zj_C l G M_X3_findWays yX3_findWays [w_Ld G a0 s0] [.ref (a0 0)] (none) (fun _ => [w_Ld G a0 r]) := by
  have key : ∀ W0 : List va_W, zj_J l G M_X3_findWays W0 (zj_ret G M_X3_findWays W0 (none) (fun _ => [w_Ld G a0 r])) 0 0 [w_Ld G a0 s0] [some (.ref (a0 0)), none, none, none] 0 [] := by
    intro W0
    unfold f_X3_findWays at hf
    refine zr_run [(.iconst 0, 0, 0, 0, .int (0 : Int32)), (.istore_n 1, 0, 0, 0, .null)] [] (WW' := [w_Ld G a0 s0]) (lv' := [some (.ref (a0 0)), some (.int (0 : Int32)), none, none]) (pc' := 2) (st' := []) (by decide +kernel) rfl rfl ⟨trivial, trivial, trivial⟩ ?_
    exact t_X3_findWays_L2 l G a0 W0 r zFU s0 (0 : Int32) hf
  exact zj_entry [some (.ref (a0 0)), none, none, none] (by decide +kernel) rfl (by decide) (Nat.le_of_ble_eq_true rfl) rfl rfl (key _)
def M_X3_read : zj_M := (RX3, cX3_read, 3, (some .boolean), { frames := 5, cells := 0, slots := 0, locals := 112 }, false)
theorem nm_X3_read : zj_nm yX3_read 1 := ⟨by decide +kernel, by decide +kernel, by decide +kernel⟩
def f_X3_read_b83  (s0 : LdT) (s1 : RdT)   : Option (Int32 × LdT × RdT) := (if (Rd_fault s1) = 0 then ((f_X3_measure s0).bind fun q9 => ((f_X3_findWays q9).bind fun q10 => some ((1 : Int32), q10, s1))) else some ((0 : Int32), s0, s1))
def f_X3_read_H42  (s0 : LdT) (s1 : RdT) (k42 : LdT → RdT → Int32 → Option (Int32 × LdT × RdT)) (x2 : Int32) : Option (Int32 × LdT × RdT) := (if x2 < (900 : Int32) then ((f_X7_more s1).bind fun q8 => (if q8.1 = 0 then f_X3_read_b83 s0 q8.2 else ((f_X3_readLine s0 q8.2).bind fun q11 => ((f_X7_expect q11.2 (59 : Int32)).bind fun q12 => (zlet (Ld_s_lines q11.1 ((Ld_lines q11.1) + (1 : Int32))) fun y13 => k42 y13 q12 (x2 + (1 : Int32))))))) else f_X3_read_b83 s0 s1)
def f_X3_read_L42    : Nat → LdT → RdT → Int32 → Option (Int32 × LdT × RdT)
  | 0 => fun _ _ _ => none
  | n + 1 => fun s0 s1 x2 => f_X3_read_H42 s0 s1 (f_X3_read_L42  n) x2
def f_X3_read  (s0 : LdT) (s1 : RdT)  : Option (Int32 × LdT × RdT) := (zlet (Ld_s_places s0 (0 : Int32)) fun y1 => (zlet (Ld_s_roads y1 (0 : Int32)) fun y2 => (zlet (Ld_s_men y2 (0 : Int32)) fun y3 => (zlet (Ld_s_ports y3 (0 : Int32)) fun y4 => (zlet (Ld_s_lines y4 (0 : Int32)) fun y5 => (zlet (Ld_s_between y5 ((zr_fill 100 (Ld_between y5) (-1 : Int32)))) fun y6 => ((f_X7_begin s1 (900 : Int32)).bind fun q7 => f_X3_read_L42 zFU y6 q7 (0 : Int32))))))))
set_option maxRecDepth 100000 in
set_option maxHeartbeats 4000000 in
theorem t_X3_read_b83 (l : Launch) (G : zj_G) (a0 : Nat → Nat) (a1 : Nat → Nat) (W0 : List va_W) (r : Int32 × LdT × RdT) (s0 : LdT) (s1 : RdT)    (hf : f_X3_read_b83 s0 s1 = some r) : zj_J l G M_X3_read W0 (zj_ret G M_X3_read W0 (some (.int r.1)) (fun _ => [w_Ld G a0 r.2.1, w_Rd G a1 r.2.2])) 0 0 [w_Ld G a0 s0, w_Rd G a1 s1] [some (.ref (a0 0)), some (.ref (a1 0)), none] 83 [] := by
  unfold f_X3_read_b83 at hf
  refine zr_run [(.aload_n 1, 0, 0, 0, .null), (.getfield 97, 1, 0, 11, .null)] [] (WW' := [w_Ld G a0 s0, w_Rd G a1 s1]) (lv' := [some (.ref (a0 0)), some (.ref (a1 0)), none]) (pc' := 87) (st' := [.int (Rd_fault s1)]) (by decide +kernel) rfl rfl ⟨trivial, ⟨rfl, rfl, zw_1_114⟩, trivial⟩ ?_
  refine zr_if_eq (off := 5) (tgt := 92) (by decide +kernel) (by decide) (fun hc => ?_) (fun hc => ?_)
  · have hf := zift hf hc
    obtain ⟨q9, e9, hf⟩ := zbi_of hf
    refine zr_run [(.aload_n 0, 0, 0, 0, .null)] [] (WW' := [w_Ld G a0 s0, w_Rd G a1 s1]) (lv' := [some (.ref (a0 0)), some (.ref (a1 0)), none]) (pc' := 93) (st' := [.ref (a0 0)]) (by decide +kernel) rfl rfl ⟨trivial, trivial⟩ ?_
    refine zr_callV (c_X3_measure l G a0 s0 q9 e9) (WW' := fun _ => [w_Ld G a0 q9, w_Rd G a1 s1]) (st := []) (st' := []) [0] rfl rfl (fun _ => Nat.le_of_ble_eq_true rfl) (fun _ => rfl) rfl rfl nm_X3_measure zw_3_74 zw_3_76 zw_0_7 zw_1_7 zw_3_77 rfl rfl rfl (Nat.le_of_ble_eq_true rfl) ⟨Nat.le_of_ble_eq_true rfl, Nat.le_of_ble_eq_true rfl⟩ (by decide +kernel) (fun _ => ?_)
    obtain ⟨q10, e10, hf⟩ := zbi_of hf
    refine zr_run [(.aload_n 0, 0, 0, 0, .null)] [] (WW' := [w_Ld G a0 q9, w_Rd G a1 s1]) (lv' := [some (.ref (a0 0)), some (.ref (a1 0)), none]) (pc' := 97) (st' := [.ref (a0 0)]) (by decide +kernel) rfl rfl ⟨trivial, trivial⟩ ?_
    refine zr_callV (c_X3_findWays l G a0 q9 q10 e10) (WW' := fun _ => [w_Ld G a0 q10, w_Rd G a1 s1]) (st := []) (st' := []) [0] rfl rfl (fun _ => Nat.le_of_ble_eq_true rfl) (fun _ => rfl) rfl rfl nm_X3_findWays zw_3_91 zw_3_93 zw_0_8 zw_1_7 zw_3_94 rfl rfl rfl (Nat.le_of_ble_eq_true rfl) ⟨Nat.le_of_ble_eq_true rfl, Nat.le_of_ble_eq_true rfl⟩ (by decide +kernel) (fun _ => ?_)
    refine zr_run [(.iconst 1, 0, 0, 0, .int (1 : Int32))] [] (WW' := [w_Ld G a0 q10, w_Rd G a1 s1]) (lv' := [some (.ref (a0 0)), some (.ref (a1 0)), none]) (pc' := 101) (st' := [.int (1 : Int32)]) (by decide +kernel) rfl rfl ⟨trivial, trivial⟩ ?_
    obtain rfl := Option.some.inj hf
    exact zr_zret (by decide) (b0 := fun _ => 0) (by decide +kernel) rfl rfl rfl rfl rfl
  · have hf := ziff hf hc
    refine zr_run [(.iconst 0, 0, 0, 0, .int (0 : Int32))] [] (WW' := [w_Ld G a0 s0, w_Rd G a1 s1]) (lv' := [some (.ref (a0 0)), some (.ref (a1 0)), none]) (pc' := 91) (st' := [.int (0 : Int32)]) (by decide +kernel) rfl rfl ⟨trivial, trivial⟩ ?_
    obtain rfl := Option.some.inj hf
    exact zr_zret (by decide) (b0 := fun _ => 0) (by decide +kernel) rfl rfl rfl rfl rfl
set_option maxRecDepth 100000 in
set_option maxHeartbeats 4000000 in
theorem t_X3_read_H42 (l : Launch) (G : zj_G) (a0 : Nat → Nat) (a1 : Nat → Nat) (W0 : List va_W) (r : Int32 × LdT × RdT) (s0 : LdT) (s1 : RdT) (k42 : LdT → RdT → Int32 → Option (Int32 × LdT × RdT)) (hk42 : ∀ (s0 : LdT) (s1 : RdT) (x2 : Int32), k42 s0 s1 x2 = some r → zj_J l G M_X3_read W0 (zj_ret G M_X3_read W0 (some (.int r.1)) (fun _ => [w_Ld G a0 r.2.1, w_Rd G a1 r.2.2])) 0 0 [w_Ld G a0 s0, w_Rd G a1 s1] [some (.ref (a0 0)), some (.ref (a1 0)), some (.int x2)] 42 []) (x2 : Int32) (hf : f_X3_read_H42 s0 s1 k42 x2 = some r) : zj_J l G M_X3_read W0 (zj_ret G M_X3_read W0 (some (.int r.1)) (fun _ => [w_Ld G a0 r.2.1, w_Rd G a1 r.2.2])) 0 0 [w_Ld G a0 s0, w_Rd G a1 s1] [some (.ref (a0 0)), some (.ref (a1 0)), some (.int x2)] 42 [] := by
  unfold f_X3_read_H42 at hf
  refine zr_run [(.iload_n 2, 0, 0, 0, .null), (.sipush 900, 0, 0, 0, .int (900 : Int32))] [] (WW' := [w_Ld G a0 s0, w_Rd G a1 s1]) (lv' := [some (.ref (a0 0)), some (.ref (a1 0)), some (.int x2)]) (pc' := 46) (st' := [.int (900 : Int32), .int x2]) (by decide +kernel) rfl rfl ⟨trivial, trivial, trivial⟩ ?_
  refine zr_icmp_ge (off := 37) (tgt := 83) (by decide +kernel) (by decide) (fun hc => ?_) (fun hc => ?_)
  · have hf := zift hf hc
    obtain ⟨q8, e8, hf⟩ := zbi_of hf
    refine zr_run [(.aload_n 1, 0, 0, 0, .null)] [] (WW' := [w_Ld G a0 s0, w_Rd G a1 s1]) (lv' := [some (.ref (a0 0)), some (.ref (a1 0)), some (.int x2)]) (pc' := 50) (st' := [.ref (a1 0)]) (by decide +kernel) rfl rfl ⟨trivial, trivial⟩ ?_
    refine zr_callV (c_X7_more l G a1 s1 q8 e8) (WW' := fun _ => [w_Ld G a0 s0, w_Rd G a1 q8.2]) (st := []) (st' := [.int q8.1]) [1] rfl rfl (fun _ => Nat.le_of_ble_eq_true rfl) (fun _ => rfl) rfl rfl nm_X7_more zw_3_4 zw_3_5 zw_3_6 zw_1_2 zw_3_7 rfl rfl rfl (Nat.le_of_ble_eq_true rfl) ⟨Nat.le_of_ble_eq_true rfl, Nat.le_of_ble_eq_true rfl⟩ (by decide +kernel) (fun _ => ?_)
    refine zr_if_eq (off := 30) (tgt := 83) (by decide +kernel) (by decide) (fun hc => ?_) (fun hc => ?_)
    · have hf := zift hf hc
      refine zr_run [] [2] (WW' := [w_Ld G a0 s0, w_Rd G a1 q8.2]) (lv' := [some (.ref (a0 0)), some (.ref (a1 0)), none]) (pc' := 83) (st' := []) (by decide +kernel) rfl rfl trivial ?_
      exact t_X3_read_b83 l G a0 a1 W0 r s0 q8.2 hf
    · have hf := ziff hf hc
      obtain ⟨q11, e11, hf⟩ := zbi_of hf
      refine zr_run [(.aload_n 0, 0, 0, 0, .null), (.aload_n 1, 0, 0, 0, .null)] [] (WW' := [w_Ld G a0 s0, w_Rd G a1 q8.2]) (lv' := [some (.ref (a0 0)), some (.ref (a1 0)), some (.int x2)]) (pc' := 58) (st' := [.ref (a1 0), .ref (a0 0)]) (by decide +kernel) rfl rfl ⟨trivial, trivial, trivial⟩ ?_
      refine zr_callV (c_X3_readLine l G a0 a1 s0 q8.2 q11 e11) (WW' := fun _ => [w_Ld G a0 q11.1, w_Rd G a1 q11.2]) (st := []) (st' := []) [0, 1] rfl rfl (fun _ => Nat.le_of_ble_eq_true rfl) (fun _ => rfl) rfl rfl nm_X3_readLine zw_3_12 zw_3_14 zw_0_1 zw_1_7 zw_3_15 rfl rfl rfl (Nat.le_of_ble_eq_true rfl) ⟨Nat.le_of_ble_eq_true rfl, Nat.le_of_ble_eq_true rfl⟩ (by decide +kernel) (fun _ => ?_)
      obtain ⟨q12, e12, hf⟩ := zbi_of hf
      refine zr_run [(.aload_n 1, 0, 0, 0, .null), (.bipush 59, 0, 0, 0, .int (59 : Int32))] [] (WW' := [w_Ld G a0 q11.1, w_Rd G a1 q11.2]) (lv' := [some (.ref (a0 0)), some (.ref (a1 0)), some (.int x2)]) (pc' := 64) (st' := [.int (59 : Int32), .ref (a1 0)]) (by decide +kernel) rfl rfl ⟨trivial, trivial, trivial⟩ ?_
      refine zr_callV (c_X7_expect l G a1 q11.2 (59 : Int32) q12 e12) (WW' := fun _ => [w_Ld G a0 q11.1, w_Rd G a1 q12]) (st := []) (st' := []) [1] rfl rfl (fun _ => Nat.le_of_ble_eq_true rfl) (fun _ => rfl) rfl rfl nm_X7_expect zw_3_70 zw_3_71 zw_3_72 zw_1_2 zw_3_73 rfl rfl rfl (Nat.le_of_ble_eq_true rfl) ⟨Nat.le_of_ble_eq_true rfl, Nat.le_of_ble_eq_true rfl⟩ (by decide +kernel) (fun _ => ?_)
      obtain ⟨y13, e13, hf⟩ := zlet_of hf
      refine zr_run [(.aload_n 0, 0, 0, 0, .null), (.dup, 0, 0, 0, .null), (.getfield 24, 0, 0, 4, .null), (.iconst 1, 0, 0, 0, .int (1 : Int32)), (.iadd, 0, 0, 0, .null), (.putfield 24, 0, 0, 4, .null)] [] (WW' := [w_Ld G a0 (Ld_s_lines q11.1 ((Ld_lines q11.1) + (1 : Int32))), w_Rd G a1 q12]) (lv' := [some (.ref (a0 0)), some (.ref (a1 0)), some (.int x2)]) (pc' := 77) (st' := []) (by decide +kernel) rfl rfl ⟨trivial, trivial, ⟨rfl, rfl, zw_1_165⟩, trivial, trivial, ⟨rfl, rfl, rfl, trivial, rfl, rfl, zw_1_165⟩, trivial⟩ ?_
      refine zr_eq (WW2 := [w_Ld G a0 y13, w_Rd G a1 q12]) (lv2 := [some (.ref (a0 0)), some (.ref (a1 0)), some (.int x2)]) (st2 := []) (by rw [e13]) rfl rfl ?_
      refine zr_run [(.iinc 2 1, 0, 0, 0, .int (1 : Int32))] [] (WW' := [w_Ld G a0 y13, w_Rd G a1 q12]) (lv' := [some (.ref (a0 0)), some (.ref (a1 0)), some (.int (x2 + (1 : Int32)))]) (pc' := 80) (st' := []) (by decide +kernel) rfl rfl ⟨trivial, trivial⟩ ?_
      refine zr_goto (off := -38) (tgt := 42) (by decide +kernel) (by decide) ?_
      exact hk42 y13 q12 (x2 + (1 : Int32)) hf
  · have hf := ziff hf hc
    refine zr_run [] [2] (WW' := [w_Ld G a0 s0, w_Rd G a1 s1]) (lv' := [some (.ref (a0 0)), some (.ref (a1 0)), none]) (pc' := 83) (st' := []) (by decide +kernel) rfl rfl trivial ?_
    exact t_X3_read_b83 l G a0 a1 W0 r s0 s1 hf
theorem t_X3_read_L42 (l : Launch) (G : zj_G) (a0 : Nat → Nat) (a1 : Nat → Nat) (W0 : List va_W) (r : Int32 × LdT × RdT)    : ∀ (n : Nat) (s0 : LdT) (s1 : RdT) (x2 : Int32), f_X3_read_L42 n s0 s1 x2 = some r → zj_J l G M_X3_read W0 (zj_ret G M_X3_read W0 (some (.int r.1)) (fun _ => [w_Ld G a0 r.2.1, w_Rd G a1 r.2.2])) 0 0 [w_Ld G a0 s0, w_Rd G a1 s1] [some (.ref (a0 0)), some (.ref (a1 0)), some (.int x2)] 42 [] := by
  intro n
  induction n with
  | zero => intro s0 s1 x2 hf; exact nomatch (show none = some r from hf)
  | succ n ih => intro s0 s1 x2 hf; exact t_X3_read_H42 l G a0 a1 W0 r s0 s1  (f_X3_read_L42 n)  ih x2  hf
set_option maxRecDepth 100000 in
set_option maxHeartbeats 4000000 in
theorem c_X3_read (l : Launch) (G : zj_G) (a0 : Nat → Nat) (a1 : Nat → Nat) (s0 : LdT) (s1 : RdT)  (r : Int32 × LdT × RdT) (hf : f_X3_read s0 s1 = some r) : zj_C l G M_X3_read yX3_read [w_Ld G a0 s0, w_Rd G a1 s1] [.ref (a0 0), .ref (a1 0)] (some (.int r.1)) (fun _ => [w_Ld G a0 r.2.1, w_Rd G a1 r.2.2]) := by
  have key : ∀ W0 : List va_W, zj_J l G M_X3_read W0 (zj_ret G M_X3_read W0 (some (.int r.1)) (fun _ => [w_Ld G a0 r.2.1, w_Rd G a1 r.2.2])) 0 0 [w_Ld G a0 s0, w_Rd G a1 s1] [some (.ref (a0 0)), some (.ref (a1 0)), none] 0 [] := by
    intro W0
    unfold f_X3_read at hf
    obtain ⟨y1, e1, hf⟩ := zlet_of hf
    refine zr_run [(.aload_n 0, 0, 0, 0, .null), (.iconst 0, 0, 0, 0, .int (0 : Int32)), (.putfield 9, 0, 0, 0, .null)] [] (WW' := [w_Ld G a0 (Ld_s_places s0 (0 : Int32)), w_Rd G a1 s1]) (lv' := [some (.ref (a0 0)), some (.ref (a1 0)), none]) (pc' := 5) (st' := []) (by decide +kernel) rfl rfl ⟨trivial, trivial, ⟨rfl, rfl, rfl, trivial, rfl, rfl, zw_1_152⟩, trivial⟩ ?_
    refine zr_eq (WW2 := [w_Ld G a0 y1, w_Rd G a1 s1]) (lv2 := [some (.ref (a0 0)), some (.ref (a1 0)), none]) (st2 := []) (by rw [e1]) rfl rfl ?_
    obtain ⟨y2, e2, hf⟩ := zlet_of hf
    refine zr_run [(.aload_n 0, 0, 0, 0, .null), (.iconst 0, 0, 0, 0, .int (0 : Int32)), (.putfield 15, 0, 0, 1, .null)] [] (WW' := [w_Ld G a0 (Ld_s_roads y1 (0 : Int32)), w_Rd G a1 s1]) (lv' := [some (.ref (a0 0)), some (.ref (a1 0)), none]) (pc' := 10) (st' := []) (by decide +kernel) rfl rfl ⟨trivial, trivial, ⟨rfl, rfl, rfl, trivial, rfl, rfl, zw_1_155⟩, trivial⟩ ?_
    refine zr_eq (WW2 := [w_Ld G a0 y2, w_Rd G a1 s1]) (lv2 := [some (.ref (a0 0)), some (.ref (a1 0)), none]) (st2 := []) (by rw [e2]) rfl rfl ?_
    obtain ⟨y3, e3, hf⟩ := zlet_of hf
    refine zr_run [(.aload_n 0, 0, 0, 0, .null), (.iconst 0, 0, 0, 0, .int (0 : Int32)), (.putfield 18, 0, 0, 2, .null)] [] (WW' := [w_Ld G a0 (Ld_s_men y2 (0 : Int32)), w_Rd G a1 s1]) (lv' := [some (.ref (a0 0)), some (.ref (a1 0)), none]) (pc' := 15) (st' := []) (by decide +kernel) rfl rfl ⟨trivial, trivial, ⟨rfl, rfl, rfl, trivial, rfl, rfl, zw_1_158⟩, trivial⟩ ?_
    refine zr_eq (WW2 := [w_Ld G a0 y3, w_Rd G a1 s1]) (lv2 := [some (.ref (a0 0)), some (.ref (a1 0)), none]) (st2 := []) (by rw [e3]) rfl rfl ?_
    obtain ⟨y4, e4, hf⟩ := zlet_of hf
    refine zr_run [(.aload_n 0, 0, 0, 0, .null), (.iconst 0, 0, 0, 0, .int (0 : Int32)), (.putfield 21, 0, 0, 3, .null)] [] (WW' := [w_Ld G a0 (Ld_s_ports y3 (0 : Int32)), w_Rd G a1 s1]) (lv' := [some (.ref (a0 0)), some (.ref (a1 0)), none]) (pc' := 20) (st' := []) (by decide +kernel) rfl rfl ⟨trivial, trivial, ⟨rfl, rfl, rfl, trivial, rfl, rfl, zw_1_163⟩, trivial⟩ ?_
    refine zr_eq (WW2 := [w_Ld G a0 y4, w_Rd G a1 s1]) (lv2 := [some (.ref (a0 0)), some (.ref (a1 0)), none]) (st2 := []) (by rw [e4]) rfl rfl ?_
    obtain ⟨y5, e5, hf⟩ := zlet_of hf
    refine zr_run [(.aload_n 0, 0, 0, 0, .null), (.iconst 0, 0, 0, 0, .int (0 : Int32)), (.putfield 24, 0, 0, 4, .null)] [] (WW' := [w_Ld G a0 (Ld_s_lines y4 (0 : Int32)), w_Rd G a1 s1]) (lv' := [some (.ref (a0 0)), some (.ref (a1 0)), none]) (pc' := 25) (st' := []) (by decide +kernel) rfl rfl ⟨trivial, trivial, ⟨rfl, rfl, rfl, trivial, rfl, rfl, zw_1_165⟩, trivial⟩ ?_
    refine zr_eq (WW2 := [w_Ld G a0 y5, w_Rd G a1 s1]) (lv2 := [some (.ref (a0 0)), some (.ref (a1 0)), none]) (st2 := []) (by rw [e5]) rfl rfl ?_
    refine zr_run [(.aload_n 0, 0, 0, 0, .null), (.getfield 44, 0, 0, 10, .null), (.iconst (-1), 0, 0, 0, .int (-1 : Int32))] [] (WW' := [w_Ld G a0 y5, w_Rd G a1 s1]) (lv' := [some (.ref (a0 0)), some (.ref (a1 0)), none]) (pc' := 30) (st' := [.int (-1 : Int32), .ref (a0 6)]) (by decide +kernel) rfl rfl ⟨trivial, ⟨rfl, rfl, zw_1_174⟩, trivial, trivial⟩ ?_
    refine zr_fillI (b := 0) (c' := 6) rfl rfl rfl (Nat.le_of_ble_eq_true rfl) zw_2_231 zw_2_56 zw_1_13 zw_2_57 rfl (Nat.le_of_ble_eq_true rfl) ⟨Nat.le_of_ble_eq_true rfl, Nat.le_of_ble_eq_true rfl⟩ (by decide +kernel) ?_
    refine zr_eq (WW2 := [w_Ld G a0 (Ld_s_between y5 ((zr_fill 100 (Ld_between y5) (-1 : Int32)))), w_Rd G a1 s1]) rfl rfl rfl ?_
    obtain ⟨y6, e6, hf⟩ := zlet_of hf
    refine zr_eq (WW2 := [w_Ld G a0 y6, w_Rd G a1 s1]) (lv2 := [some (.ref (a0 0)), some (.ref (a1 0)), none]) (st2 := []) (by rw [e6]) rfl rfl ?_
    obtain ⟨q7, e7, hf⟩ := zbi_of hf
    refine zr_run [(.aload_n 1, 0, 0, 0, .null), (.sipush 900, 0, 0, 0, .int (900 : Int32))] [] (WW' := [w_Ld G a0 y6, w_Rd G a1 s1]) (lv' := [some (.ref (a0 0)), some (.ref (a1 0)), none]) (pc' := 37) (st' := [.int (900 : Int32), .ref (a1 0)]) (by decide +kernel) rfl rfl ⟨trivial, trivial, trivial⟩ ?_
    refine zr_callV (c_X7_begin l G a1 s1 (900 : Int32) q7 e7) (WW' := fun _ => [w_Ld G a0 y6, w_Rd G a1 q7]) (st := []) (st' := []) [1] rfl rfl (fun _ => Nat.le_of_ble_eq_true rfl) (fun _ => rfl) rfl rfl nm_X7_begin zw_2_232 zw_2_233 zw_2_234 zw_1_2 zw_2_235 rfl rfl rfl (Nat.le_of_ble_eq_true rfl) ⟨Nat.le_of_ble_eq_true rfl, Nat.le_of_ble_eq_true rfl⟩ (by decide +kernel) (fun _ => ?_)
    refine zr_run [(.iconst 0, 0, 0, 0, .int (0 : Int32)), (.istore_n 2, 0, 0, 0, .null)] [] (WW' := [w_Ld G a0 y6, w_Rd G a1 q7]) (lv' := [some (.ref (a0 0)), some (.ref (a1 0)), some (.int (0 : Int32))]) (pc' := 42) (st' := []) (by decide +kernel) rfl rfl ⟨trivial, trivial, trivial⟩ ?_
    exact t_X3_read_L42 l G a0 a1 W0 r zFU y6 q7 (0 : Int32) hf
  exact zj_entry [some (.ref (a0 0)), some (.ref (a1 0)), none] (by decide +kernel) rfl (by decide) (Nat.le_of_ble_eq_true rfl) rfl rfl (key _)
