def M_X11_feed : zj_M := (RX11, cX11_feed, 6, (some .int), { frames := 1, cells := 0, slots := 0, locals := 22 }, false)
theorem nm_X11_feed : zj_nm yX11_feed 5 := ⟨by decide +kernel, by decide +kernel, by decide +kernel⟩
def f_X11_feed  (s0 : XxT) (s1 : RdT) (x1 : Int32) (x2 : Int32) (x3 : Int32) (x4 : Int32) (x5 : Int32) : Option (Int32 × RdT) := ((f_X7_hasRoom s1 (20 : Int32)).bind fun q1 => (if q1 = 0 then some ((-1 : Int32), s1) else ((f_X7_take s1 x1).bind fun q2 => ((f_X7_take q2 x2).bind fun q3 => ((f_X7_take q3 x3).bind fun q4 => ((f_X7_take q4 x4).bind fun q5 => ((f_X7_take q5 x5).bind fun q6 => some ((Rd_length q6), q6))))))))
set_option maxRecDepth 100000 in
set_option maxHeartbeats 4000000 in
theorem c_X11_feed (l : Launch) (G : zj_G) (A : Nat → Nat → Nat) (K : Nat → Nat → Option Nat) (s0 : XxT) (s1 : RdT) (x1 : Int32) (x2 : Int32) (x3 : Int32) (x4 : Int32) (x5 : Int32) (r : Int32 × RdT) (hf : f_X11_feed s0 s1 x1 x2 x3 x4 x5 = some r) : zj_C l G M_X11_feed yX11_feed [w_Xx G A K s0, w_Rd G (A 1) s1] [.ref (A 0 0), .int x1, .int x2, .int x3, .int x4, .int x5] (some (.int r.1)) (fun _ => [w_Xx G A K s0, w_Rd G (A 1) r.2]) := by
  have key : ∀ W0 : List va_W, zj_J l G M_X11_feed W0 (zj_ret G M_X11_feed W0 (some (.int r.1)) (fun _ => [w_Xx G A K s0, w_Rd G (A 1) r.2])) 0 0 [w_Xx G A K s0, w_Rd G (A 1) s1] [some (.ref (A 0 0)), some (.int x1), some (.int x2), some (.int x3), some (.int x4), some (.int x5)] 0 [] := by
    intro W0
    unfold f_X11_feed at hf
    obtain ⟨q1, e1, hf⟩ := zbi_of hf
    refine zr_run [(.aload_n 0, 0, 0, 0, .null), (.getfield 10, 0, 0, 0, .null), (.bipush 20, 0, 0, 0, .int (20 : Int32))] [] (WW' := [w_Xx G A K s0, w_Rd G (A 1) s1]) (lv' := [some (.ref (A 0 0)), some (.int x1), some (.int x2), some (.int x3), some (.int x4), some (.int x5)]) (pc' := 6) (st' := [.int (20 : Int32), .ref ((A 1) 0)]) (by decide +kernel) rfl rfl ⟨trivial, ⟨rfl, rfl, zw_2_149⟩, trivial, trivial⟩ ?_
    refine zr_callV (c_X7_hasRoom l G (A 1) s1 (20 : Int32) q1 e1) (WW' := fun _ => [w_Xx G A K s0, w_Rd G (A 1) s1]) (st := []) (st' := [.int q1]) [1] rfl rfl (fun _ => Nat.le_of_ble_eq_true rfl) (fun _ => rfl) rfl rfl nm_X7_hasRoom zw_2_211 zw_2_212 zw_2_213 zw_1_2 zw_2_214 rfl rfl rfl (Nat.le_of_ble_eq_true rfl) ⟨Nat.le_of_ble_eq_true rfl, Nat.le_of_ble_eq_true rfl⟩ (by decide +kernel) (fun _ => ?_)
    refine zr_if_ne (off := 5) (tgt := 14) (by decide +kernel) (by decide) (fun hc => ?_) (fun hc => ?_)
    · have hf := zift hf hc
      refine zr_run [(.iconst (-1), 0, 0, 0, .int (-1 : Int32))] [] (WW' := [w_Xx G A K s0, w_Rd G (A 1) s1]) (lv' := [some (.ref (A 0 0)), some (.int x1), some (.int x2), some (.int x3), some (.int x4), some (.int x5)]) (pc' := 13) (st' := [.int (-1 : Int32)]) (by decide +kernel) rfl rfl ⟨trivial, trivial⟩ ?_
      obtain rfl := Option.some.inj hf
      exact zr_iret (b0 := fun _ => 0) (by decide +kernel) rfl rfl rfl rfl rfl
    · have hf := ziff hf hc
      obtain ⟨q2, e2, hf⟩ := zbi_of hf
      refine zr_run [(.aload_n 0, 0, 0, 0, .null), (.getfield 10, 0, 0, 0, .null), (.iload_n 1, 0, 0, 0, .null)] [] (WW' := [w_Xx G A K s0, w_Rd G (A 1) s1]) (lv' := [some (.ref (A 0 0)), some (.int x1), some (.int x2), some (.int x3), some (.int x4), some (.int x5)]) (pc' := 19) (st' := [.int x1, .ref ((A 1) 0)]) (by decide +kernel) rfl rfl ⟨trivial, ⟨rfl, rfl, zw_2_149⟩, trivial, trivial⟩ ?_
      refine zr_callV (c_X7_take l G (A 1) s1 x1 q2 e2) (WW' := fun _ => [w_Xx G A K s0, w_Rd G (A 1) q2]) (st := []) (st' := []) [1] rfl rfl (fun _ => Nat.le_of_ble_eq_true rfl) (fun _ => rfl) rfl rfl nm_X7_take zw_2_215 zw_2_216 zw_2_217 zw_1_2 zw_2_218 rfl rfl rfl (Nat.le_of_ble_eq_true rfl) ⟨Nat.le_of_ble_eq_true rfl, Nat.le_of_ble_eq_true rfl⟩ (by decide +kernel) (fun _ => ?_)
      obtain ⟨q3, e3, hf⟩ := zbi_of hf
      refine zr_run [(.aload_n 0, 0, 0, 0, .null), (.getfield 10, 0, 0, 0, .null), (.iload_n 2, 0, 0, 0, .null)] [] (WW' := [w_Xx G A K s0, w_Rd G (A 1) q2]) (lv' := [some (.ref (A 0 0)), some (.int x1), some (.int x2), some (.int x3), some (.int x4), some (.int x5)]) (pc' := 27) (st' := [.int x2, .ref ((A 1) 0)]) (by decide +kernel) rfl rfl ⟨trivial, ⟨rfl, rfl, zw_2_149⟩, trivial, trivial⟩ ?_
      refine zr_callV (c_X7_take l G (A 1) q2 x2 q3 e3) (WW' := fun _ => [w_Xx G A K s0, w_Rd G (A 1) q3]) (st := []) (st' := []) [1] rfl rfl (fun _ => Nat.le_of_ble_eq_true rfl) (fun _ => rfl) rfl rfl nm_X7_take zw_2_215 zw_2_216 zw_2_217 zw_1_2 zw_2_218 rfl rfl rfl (Nat.le_of_ble_eq_true rfl) ⟨Nat.le_of_ble_eq_true rfl, Nat.le_of_ble_eq_true rfl⟩ (by decide +kernel) (fun _ => ?_)
      obtain ⟨q4, e4, hf⟩ := zbi_of hf
      refine zr_run [(.aload_n 0, 0, 0, 0, .null), (.getfield 10, 0, 0, 0, .null), (.iload_n 3, 0, 0, 0, .null)] [] (WW' := [w_Xx G A K s0, w_Rd G (A 1) q3]) (lv' := [some (.ref (A 0 0)), some (.int x1), some (.int x2), some (.int x3), some (.int x4), some (.int x5)]) (pc' := 35) (st' := [.int x3, .ref ((A 1) 0)]) (by decide +kernel) rfl rfl ⟨trivial, ⟨rfl, rfl, zw_2_149⟩, trivial, trivial⟩ ?_
      refine zr_callV (c_X7_take l G (A 1) q3 x3 q4 e4) (WW' := fun _ => [w_Xx G A K s0, w_Rd G (A 1) q4]) (st := []) (st' := []) [1] rfl rfl (fun _ => Nat.le_of_ble_eq_true rfl) (fun _ => rfl) rfl rfl nm_X7_take zw_2_215 zw_2_216 zw_2_217 zw_1_2 zw_2_218 rfl rfl rfl (Nat.le_of_ble_eq_true rfl) ⟨Nat.le_of_ble_eq_true rfl, Nat.le_of_ble_eq_true rfl⟩ (by decide +kernel) (fun _ => ?_)
      obtain ⟨q5, e5, hf⟩ := zbi_of hf
      refine zr_run [(.aload_n 0, 0, 0, 0, .null), (.getfield 10, 0, 0, 0, .null), (.iload 4, 0, 0, 0, .null)] [] (WW' := [w_Xx G A K s0, w_Rd G (A 1) q4]) (lv' := [some (.ref (A 0 0)), some (.int x1), some (.int x2), some (.int x3), some (.int x4), some (.int x5)]) (pc' := 44) (st' := [.int x4, .ref ((A 1) 0)]) (by decide +kernel) rfl rfl ⟨trivial, ⟨rfl, rfl, zw_2_149⟩, trivial, trivial⟩ ?_
      refine zr_callV (c_X7_take l G (A 1) q4 x4 q5 e5) (WW' := fun _ => [w_Xx G A K s0, w_Rd G (A 1) q5]) (st := []) (st' := []) [1] rfl rfl (fun _ => Nat.le_of_ble_eq_true rfl) (fun _ => rfl) rfl rfl nm_X7_take zw_2_215 zw_2_216 zw_2_217 zw_1_2 zw_2_218 rfl rfl rfl (Nat.le_of_ble_eq_true rfl) ⟨Nat.le_of_ble_eq_true rfl, Nat.le_of_ble_eq_true rfl⟩ (by decide +kernel) (fun _ => ?_)
      obtain ⟨q6, e6, hf⟩ := zbi_of hf
      refine zr_run [(.aload_n 0, 0, 0, 0, .null), (.getfield 10, 0, 0, 0, .null), (.iload 5, 0, 0, 0, .null)] [] (WW' := [w_Xx G A K s0, w_Rd G (A 1) q5]) (lv' := [some (.ref (A 0 0)), some (.int x1), some (.int x2), some (.int x3), some (.int x4), some (.int x5)]) (pc' := 53) (st' := [.int x5, .ref ((A 1) 0)]) (by decide +kernel) rfl rfl ⟨trivial, ⟨rfl, rfl, zw_2_149⟩, trivial, trivial⟩ ?_
      refine zr_callV (c_X7_take l G (A 1) q5 x5 q6 e6) (WW' := fun _ => [w_Xx G A K s0, w_Rd G (A 1) q6]) (st := []) (st' := []) [1] rfl rfl (fun _ => Nat.le_of_ble_eq_true rfl) (fun _ => rfl) rfl rfl nm_X7_take zw_2_215 zw_2_216 zw_2_217 zw_1_2 zw_2_218 rfl rfl rfl (Nat.le_of_ble_eq_true rfl) ⟨Nat.le_of_ble_eq_true rfl, Nat.le_of_ble_eq_true rfl⟩ (by decide +kernel) (fun _ => ?_)
      refine zr_run [(.aload_n 0, 0, 0, 0, .null), (.getfield 10, 0, 0, 0, .null), (.getfield 123, 1, 0, 1, .null)] [] (WW' := [w_Xx G A K s0, w_Rd G (A 1) q6]) (lv' := [some (.ref (A 0 0)), some (.int x1), some (.int x2), some (.int x3), some (.int x4), some (.int x5)]) (pc' := 63) (st' := [.int (Rd_length q6)]) (by decide +kernel) rfl rfl ⟨trivial, ⟨rfl, rfl, zw_2_149⟩, ⟨rfl, rfl, zw_1_94⟩, trivial⟩ ?_
      obtain rfl := Option.some.inj hf
      exact zr_iret (b0 := fun _ => 0) (by decide +kernel) rfl rfl rfl rfl rfl
  exact zj_entry [some (.ref (A 0 0)), some (.int x1), some (.int x2), some (.int x3), some (.int x4), some (.int x5)] (by decide +kernel) rfl (by decide) (Nat.le_of_ble_eq_true rfl) rfl rfl (key _)
def M_X11_end : zj_M := (RX11, cX11_end, 2, (some .boolean), { frames := 0, cells := 0, slots := 0, locals := 0 }, false)
theorem nm_X11_end : zj_nm yX11_end 1 := ⟨by decide +kernel, by decide +kernel, by decide +kernel⟩
def f_X11_end  (s0 : XxT) (s1 : RdT) (x1 : Int32) : Option (Int32 × RdT) := (if x1 < 0 then some ((0 : Int32), s1) else (if (Rd_length s1) < x1 then some ((0 : Int32), s1) else (zlet (Rd_s_length s1 x1) fun y1 => some ((1 : Int32), y1))))
set_option maxRecDepth 100000 in
set_option maxHeartbeats 4000000 in
theorem c_X11_end (l : Launch) (G : zj_G) (A : Nat → Nat → Nat) (K : Nat → Nat → Option Nat) (s0 : XxT) (s1 : RdT) (x1 : Int32) (r : Int32 × RdT) (hf : f_X11_end s0 s1 x1 = some r) : zj_C l G M_X11_end yX11_end [w_Xx G A K s0, w_Rd G (A 1) s1] [.ref (A 0 0), .int x1] (some (.int r.1)) (fun _ => [w_Xx G A K s0, w_Rd G (A 1) r.2]) := by
  have key : ∀ W0 : List va_W, zj_J l G M_X11_end W0 (zj_ret G M_X11_end W0 (some (.int r.1)) (fun _ => [w_Xx G A K s0, w_Rd G (A 1) r.2])) 0 0 [w_Xx G A K s0, w_Rd G (A 1) s1] [some (.ref (A 0 0)), some (.int x1)] 0 [] := by
    intro W0
    unfold f_X11_end at hf
    refine zr_run [(.iload_n 1, 0, 0, 0, .null)] [] (WW' := [w_Xx G A K s0, w_Rd G (A 1) s1]) (lv' := [some (.ref (A 0 0)), some (.int x1)]) (pc' := 1) (st' := [.int x1]) (by decide +kernel) rfl rfl ⟨trivial, trivial⟩ ?_
    refine zr_if_lt (off := 14) (tgt := 15) (by decide +kernel) (by decide) (fun hc => ?_) (fun hc => ?_)
    · have hf := zift hf hc
      refine zr_run [(.iconst 0, 0, 0, 0, .int (0 : Int32))] [] (WW' := [w_Xx G A K s0, w_Rd G (A 1) s1]) (lv' := [some (.ref (A 0 0)), some (.int x1)]) (pc' := 16) (st' := [.int (0 : Int32)]) (by decide +kernel) rfl rfl ⟨trivial, trivial⟩ ?_
      obtain rfl := Option.some.inj hf
      exact zr_zret (by decide) (b0 := fun _ => 0) (by decide +kernel) rfl rfl rfl rfl rfl
    · have hf := ziff hf hc
      refine zr_run [(.iload_n 1, 0, 0, 0, .null), (.aload_n 0, 0, 0, 0, .null), (.getfield 10, 0, 0, 0, .null), (.getfield 123, 1, 0, 1, .null)] [] (WW' := [w_Xx G A K s0, w_Rd G (A 1) s1]) (lv' := [some (.ref (A 0 0)), some (.int x1)]) (pc' := 12) (st' := [.int (Rd_length s1), .int x1]) (by decide +kernel) rfl rfl ⟨trivial, trivial, ⟨rfl, rfl, zw_2_149⟩, ⟨rfl, rfl, zw_1_94⟩, trivial⟩ ?_
      refine zr_icmp_le (off := 5) (tgt := 17) (by decide +kernel) (by decide) (fun hc => ?_) (fun hc => ?_)
      · have hf := zift hf hc
        refine zr_run [(.iconst 0, 0, 0, 0, .int (0 : Int32))] [] (WW' := [w_Xx G A K s0, w_Rd G (A 1) s1]) (lv' := [some (.ref (A 0 0)), some (.int x1)]) (pc' := 16) (st' := [.int (0 : Int32)]) (by decide +kernel) rfl rfl ⟨trivial, trivial⟩ ?_
        obtain rfl := Option.some.inj hf
        exact zr_zret (by decide) (b0 := fun _ => 0) (by decide +kernel) rfl rfl rfl rfl rfl
      · have hf := ziff hf hc
        obtain ⟨y1, e1, hf⟩ := zlet_of hf
        refine zr_run [(.aload_n 0, 0, 0, 0, .null), (.getfield 10, 0, 0, 0, .null), (.iload_n 1, 0, 0, 0, .null), (.putfield 123, 1, 0, 1, .null)] [] (WW' := [w_Xx G A K s0, w_Rd G (A 1) (Rd_s_length s1 x1)]) (lv' := [some (.ref (A 0 0)), some (.int x1)]) (pc' := 25) (st' := []) (by decide +kernel) rfl rfl ⟨trivial, ⟨rfl, rfl, zw_2_149⟩, trivial, ⟨rfl, rfl, rfl, trivial, rfl, rfl, zw_1_94⟩, trivial⟩ ?_
        refine zr_eq (WW2 := [w_Xx G A K s0, w_Rd G (A 1) y1]) (lv2 := [some (.ref (A 0 0)), some (.int x1)]) (st2 := []) (by rw [e1]) rfl rfl ?_
        refine zr_run [(.iconst 1, 0, 0, 0, .int (1 : Int32))] [] (WW' := [w_Xx G A K s0, w_Rd G (A 1) y1]) (lv' := [some (.ref (A 0 0)), some (.int x1)]) (pc' := 26) (st' := [.int (1 : Int32)]) (by decide +kernel) rfl rfl ⟨trivial, trivial⟩ ?_
        obtain rfl := Option.some.inj hf
        exact zr_zret (by decide) (b0 := fun _ => 0) (by decide +kernel) rfl rfl rfl rfl rfl
  exact zj_entry [some (.ref (A 0 0)), some (.int x1)] (by decide +kernel) rfl (by decide) (Nat.le_of_ble_eq_true rfl) rfl rfl (key _)
def M_X11_land : zj_M := (RX11, cX11_land, 3, (some .int), { frames := 6, cells := 0, slots := 0, locals := 134 }, false)
theorem nm_X11_land : zj_nm yX11_land 0 := ⟨by decide +kernel, by decide +kernel, by decide +kernel⟩
def f_X11_land  (s0 : XxT) (s1 : LdT) (s2 : RdT) (s3 : LdT) (s4 : FkT) (s5 : PhT) (s6 : HiT)  : Option (Int32 × XxT × LdT × RdT × FkT × PhT × HiT × Bool) := ((f_X3_read s1 s2).bind fun q1 => (zlet (Rd_s_length q1.2.2 (0 : Int32)) fun y2 => (if q1.1 = 0 then some (((-1 : Int32) - (Rd_faultAt y2)), s0, q1.2.1, y2, s4, s5, s6, false) else ((f_X1_settle s4 q1.2.1).bind fun q3 => ((f_X5_clear s5).bind fun q4 => ((f_X2_clear s6).bind fun q5 => some ((Ld_lines q1.2.1), s0, q1.2.1, y2, q3, q4, q5, true)))))))
set_option maxRecDepth 100000 in
set_option maxHeartbeats 4000000 in
theorem c_X11_land (l : Launch) (G : zj_G) (A : Nat → Nat → Nat) (K : Nat → Nat → Option Nat) (s0 : XxT) (s1 : LdT) (s2 : RdT) (s3 : LdT) (s4 : FkT) (s5 : PhT) (s6 : HiT)  (r : Int32 × XxT × LdT × RdT × FkT × PhT × HiT × Bool) (hf : f_X11_land s0 s1 s2 s3 s4 s5 s6 = some r) : zj_C l G M_X11_land yX11_land [w_Xx G A K s0, w_Ld G (A 3) s1, w_Rd G (A 1) s2, w_Ld G (A 2) s3, w_Fk G (A 4) s4, w_Ph G (A 6) s5, w_Hi G (A 8) (fun i => A (9 + i)) s6] [.ref (A 0 0)] (some (.int r.1)) (fun _ => [w_Xx G (zsf r.2.2.2.2.2.2.2 A 2 3) K r.2.1, w_Ld G (A 3) r.2.2.1, w_Rd G (A 1) r.2.2.2.1, w_Ld G (A 2) s3, w_Fk G (A 4) r.2.2.2.2.1, w_Ph G (A 6) r.2.2.2.2.2.1, w_Hi G (A 8) (fun i => A (9 + i)) r.2.2.2.2.2.2.1]) := by
  have key : ∀ W0 : List va_W, zj_J l G M_X11_land W0 (zj_ret G M_X11_land W0 (some (.int r.1)) (fun _ => [w_Xx G (zsf r.2.2.2.2.2.2.2 A 2 3) K r.2.1, w_Ld G (A 3) r.2.2.1, w_Rd G (A 1) r.2.2.2.1, w_Ld G (A 2) s3, w_Fk G (A 4) r.2.2.2.2.1, w_Ph G (A 6) r.2.2.2.2.2.1, w_Hi G (A 8) (fun i => A (9 + i)) r.2.2.2.2.2.2.1])) 0 0 [w_Xx G A K s0, w_Ld G (A 3) s1, w_Rd G (A 1) s2, w_Ld G (A 2) s3, w_Fk G (A 4) s4, w_Ph G (A 6) s5, w_Hi G (A 8) (fun i => A (9 + i)) s6] [some (.ref (A 0 0)), none, none] 0 [] := by
    intro W0
    unfold f_X11_land at hf
    obtain ⟨q1, e1, hf⟩ := zbi_of hf
    refine zr_run [(.aload_n 0, 0, 0, 0, .null), (.getfield 23, 0, 0, 2, .null), (.aload_n 0, 0, 0, 0, .null), (.getfield 10, 0, 0, 0, .null)] [] (WW' := [w_Xx G A K s0, w_Ld G (A 3) s1, w_Rd G (A 1) s2, w_Ld G (A 2) s3, w_Fk G (A 4) s4, w_Ph G (A 6) s5, w_Hi G (A 8) (fun i => A (9 + i)) s6]) (lv' := [some (.ref (A 0 0)), none, none]) (pc' := 8) (st' := [.ref ((A 1) 0), .ref ((A 3) 0)]) (by decide +kernel) rfl rfl ⟨trivial, ⟨rfl, rfl, zw_2_151⟩, trivial, ⟨rfl, rfl, zw_2_149⟩, trivial⟩ ?_
    refine zr_callV (c_X3_read l G (A 3) (A 1) s1 s2 q1 e1) (WW' := fun _ => [w_Xx G A K s0, w_Ld G (A 3) q1.2.1, w_Rd G (A 1) q1.2.2, w_Ld G (A 2) s3, w_Fk G (A 4) s4, w_Ph G (A 6) s5, w_Hi G (A 8) (fun i => A (9 + i)) s6]) (st := []) (st' := [.int q1.1]) [1, 2] rfl rfl (fun _ => Nat.le_of_ble_eq_true rfl) (fun _ => rfl) rfl rfl nm_X3_read zw_2_227 zw_2_228 zw_2_229 zw_1_7 zw_2_230 rfl rfl rfl (Nat.le_of_ble_eq_true rfl) ⟨Nat.le_of_ble_eq_true rfl, Nat.le_of_ble_eq_true rfl⟩ (by decide +kernel) (fun _ => ?_)
    obtain ⟨y2, e2, hf⟩ := zlet_of hf
    refine zr_run [(.istore_n 1, 0, 0, 0, .null), (.aload_n 0, 0, 0, 0, .null), (.getfield 10, 0, 0, 0, .null), (.iconst 0, 0, 0, 0, .int (0 : Int32)), (.putfield 123, 2, 0, 1, .null)] [] (WW' := [w_Xx G A K s0, w_Ld G (A 3) q1.2.1, w_Rd G (A 1) (Rd_s_length q1.2.2 (0 : Int32)), w_Ld G (A 2) s3, w_Fk G (A 4) s4, w_Ph G (A 6) s5, w_Hi G (A 8) (fun i => A (9 + i)) s6]) (lv' := [some (.ref (A 0 0)), some (.int q1.1), none]) (pc' := 20) (st' := []) (by decide +kernel) rfl rfl ⟨trivial, trivial, ⟨rfl, rfl, zw_2_149⟩, trivial, ⟨rfl, rfl, rfl, trivial, rfl, rfl, zw_1_94⟩, trivial⟩ ?_
    refine zr_eq (WW2 := [w_Xx G A K s0, w_Ld G (A 3) q1.2.1, w_Rd G (A 1) y2, w_Ld G (A 2) s3, w_Fk G (A 4) s4, w_Ph G (A 6) s5, w_Hi G (A 8) (fun i => A (9 + i)) s6]) (lv2 := [some (.ref (A 0 0)), some (.int q1.1), none]) (st2 := []) (by rw [e2]) rfl rfl ?_
    refine zr_run [(.iload_n 1, 0, 0, 0, .null)] [] (WW' := [w_Xx G A K s0, w_Ld G (A 3) q1.2.1, w_Rd G (A 1) y2, w_Ld G (A 2) s3, w_Fk G (A 4) s4, w_Ph G (A 6) s5, w_Hi G (A 8) (fun i => A (9 + i)) s6]) (lv' := [some (.ref (A 0 0)), some (.int q1.1), none]) (pc' := 21) (st' := [.int q1.1]) (by decide +kernel) rfl rfl ⟨trivial, trivial⟩ ?_
    refine zr_if_ne (off := 13) (tgt := 34) (by decide +kernel) (by decide) (fun hc => ?_) (fun hc => ?_)
    · have hf := zift hf hc
      refine zr_run [(.iconst (-1), 0, 0, 0, .int (-1 : Int32)), (.aload_n 0, 0, 0, 0, .null), (.getfield 10, 0, 0, 0, .null), (.getfield 130, 2, 0, 12, .null), (.isub, 0, 0, 0, .null)] [] (WW' := [w_Xx G A K s0, w_Ld G (A 3) q1.2.1, w_Rd G (A 1) y2, w_Ld G (A 2) s3, w_Fk G (A 4) s4, w_Ph G (A 6) s5, w_Hi G (A 8) (fun i => A (9 + i)) s6]) (lv' := [some (.ref (A 0 0)), some (.int q1.1), none]) (pc' := 33) (st' := [.int ((-1 : Int32) - (Rd_faultAt y2))]) (by decide +kernel) rfl rfl ⟨trivial, trivial, ⟨rfl, rfl, zw_2_149⟩, ⟨rfl, rfl, zw_1_116⟩, trivial, trivial⟩ ?_
      obtain rfl := Option.some.inj hf
      exact zr_iret (b0 := fun _ => 0) (by decide +kernel) rfl rfl rfl rfl rfl
    · have hf := ziff hf hc
      obtain ⟨q3, e3, hf⟩ := zbi_of hf
      refine zr_run [(.aload_n 0, 0, 0, 0, .null), (.getfield 19, 0, 0, 1, .null), (.astore_n 2, 0, 0, 0, .null), (.aload_n 0, 0, 0, 0, .null), (.aload_n 0, 0, 0, 0, .null), (.getfield 23, 0, 0, 2, .null), (.putfield 19, 0, 0, 1, .null), (.aload_n 0, 0, 0, 0, .null), (.aload_n 2, 0, 0, 0, .null), (.putfield 23, 0, 0, 2, .null), (.aload_n 0, 0, 0, 0, .null), (.getfield 29, 0, 0, 3, .null), (.aload_n 0, 0, 0, 0, .null), (.getfield 19, 0, 0, 1, .null)] [] (WW' := [w_Xx G (zsw A 2 3) K s0, w_Ld G (A 3) q1.2.1, w_Rd G (A 1) y2, w_Ld G (A 2) s3, w_Fk G (A 4) s4, w_Ph G (A 6) s5, w_Hi G (A 8) (fun i => A (9 + i)) s6]) (lv' := [some (.ref (A 0 0)), some (.int q1.1), some (.ref ((A 2) 0))]) (pc' := 60) (st' := [.ref ((A 3) 0), .ref ((A 4) 0)]) (by decide +kernel) rfl rfl ⟨trivial, ⟨rfl, rfl, zw_2_150⟩, trivial, trivial, trivial, ⟨rfl, rfl, zw_2_151⟩, ⟨rfl, rfl, rfl, trivial, rfl, rfl, zw_2_150⟩, trivial, trivial, ⟨rfl, rfl, rfl, trivial, rfl, rfl, zw_2_151⟩, trivial, ⟨rfl, rfl, zw_2_152⟩, trivial, ⟨rfl, rfl, zw_2_150⟩, trivial⟩ ?_
      refine zr_callV (c_X1_settle l G (A 4) (A 3) s4 q1.2.1 q3 e3) (WW' := fun _ => [w_Xx G (zsw A 2 3) K s0, w_Ld G (A 3) q1.2.1, w_Rd G (A 1) y2, w_Ld G (A 2) s3, w_Fk G (A 4) q3, w_Ph G (A 6) s5, w_Hi G (A 8) (fun i => A (9 + i)) s6]) (st := []) (st' := []) [4, 1] rfl rfl (fun _ => Nat.le_of_ble_eq_true rfl) (fun _ => rfl) rfl rfl nm_X1_settle zw_3_99 zw_3_100 zw_3_101 zw_1_8 zw_3_102 rfl rfl rfl (Nat.le_of_ble_eq_true rfl) ⟨Nat.le_of_ble_eq_true rfl, Nat.le_of_ble_eq_true rfl⟩ (by decide +kernel) (fun _ => ?_)
      obtain ⟨q4, e4, hf⟩ := zbi_of hf
      refine zr_run [(.aload_n 0, 0, 0, 0, .null), (.getfield 39, 0, 0, 5, .null)] [] (WW' := [w_Xx G (zsw A 2 3) K s0, w_Ld G (A 3) q1.2.1, w_Rd G (A 1) y2, w_Ld G (A 2) s3, w_Fk G (A 4) q3, w_Ph G (A 6) s5, w_Hi G (A 8) (fun i => A (9 + i)) s6]) (lv' := [some (.ref (A 0 0)), some (.int q1.1), some (.ref ((A 2) 0))]) (pc' := 67) (st' := [.ref ((A 6) 0)]) (by decide +kernel) rfl rfl ⟨trivial, ⟨rfl, rfl, zw_2_154⟩, trivial⟩ ?_
      refine zr_callV (c_X5_clear l G (A 6) s5 q4 e4) (WW' := fun _ => [w_Xx G (zsw A 2 3) K s0, w_Ld G (A 3) q1.2.1, w_Rd G (A 1) y2, w_Ld G (A 2) s3, w_Fk G (A 4) q3, w_Ph G (A 6) q4, w_Hi G (A 8) (fun i => A (9 + i)) s6]) (st := []) (st' := []) [5] rfl rfl (fun _ => Nat.le_of_ble_eq_true rfl) (fun _ => rfl) rfl rfl nm_X5_clear zw_3_109 zw_3_110 zw_3_111 zw_1_9 zw_3_112 rfl rfl rfl (Nat.le_of_ble_eq_true rfl) ⟨Nat.le_of_ble_eq_true rfl, Nat.le_of_ble_eq_true rfl⟩ (by decide +kernel) (fun _ => ?_)
      obtain ⟨q5, e5, hf⟩ := zbi_of hf
      refine zr_run [(.aload_n 0, 0, 0, 0, .null), (.getfield 49, 0, 0, 7, .null)] [] (WW' := [w_Xx G (zsw A 2 3) K s0, w_Ld G (A 3) q1.2.1, w_Rd G (A 1) y2, w_Ld G (A 2) s3, w_Fk G (A 4) q3, w_Ph G (A 6) q4, w_Hi G (A 8) (fun i => A (9 + i)) s6]) (lv' := [some (.ref (A 0 0)), some (.int q1.1), some (.ref ((A 2) 0))]) (pc' := 74) (st' := [.ref ((A 8) 0)]) (by decide +kernel) rfl rfl ⟨trivial, ⟨rfl, rfl, zw_2_156⟩, trivial⟩ ?_
      refine zr_callV (c_X2_clear l G (A 8) (fun i => A (9 + i)) s6 q5 e5) (WW' := fun _ => [w_Xx G (zsw A 2 3) K s0, w_Ld G (A 3) q1.2.1, w_Rd G (A 1) y2, w_Ld G (A 2) s3, w_Fk G (A 4) q3, w_Ph G (A 6) q4, w_Hi G (A 8) (fun i => A (9 + i)) q5]) (st := []) (st' := []) [6] rfl rfl (fun _ => Nat.le_of_ble_eq_true rfl) (fun _ => rfl) rfl rfl nm_X2_clear zw_3_113 zw_3_114 zw_3_115 zw_1_10 zw_3_116 rfl rfl rfl (Nat.le_of_ble_eq_true rfl) ⟨Nat.le_of_ble_eq_true rfl, Nat.le_of_ble_eq_true rfl⟩ (by decide +kernel) (fun _ => ?_)
      refine zr_run [(.aload_n 0, 0, 0, 0, .null), (.getfield 19, 0, 0, 1, .null), (.getfield 141, 1, 0, 4, .null)] [] (WW' := [w_Xx G (zsw A 2 3) K s0, w_Ld G (A 3) q1.2.1, w_Rd G (A 1) y2, w_Ld G (A 2) s3, w_Fk G (A 4) q3, w_Ph G (A 6) q4, w_Hi G (A 8) (fun i => A (9 + i)) q5]) (lv' := [some (.ref (A 0 0)), some (.int q1.1), some (.ref ((A 2) 0))]) (pc' := 84) (st' := [.int (Ld_lines q1.2.1)]) (by decide +kernel) rfl rfl ⟨trivial, ⟨rfl, rfl, zw_2_150⟩, ⟨rfl, rfl, zw_1_166⟩, trivial⟩ ?_
      obtain rfl := Option.some.inj hf
      exact zr_iret (b0 := fun _ => 0) (by decide +kernel) rfl rfl rfl rfl rfl
  exact zj_entry [some (.ref (A 0 0)), none, none] (by decide +kernel) rfl (by decide) (Nat.le_of_ble_eq_true rfl) rfl rfl (key _)
def M_X11_fault : zj_M := (RX11, cX11_fault, 1, (some .int), { frames := 0, cells := 0, slots := 0, locals := 0 }, false)
theorem nm_X11_fault : zj_nm yX11_fault 0 := ⟨by decide +kernel, by decide +kernel, by decide +kernel⟩
def f_X11_fault  (s0 : XxT) (s1 : RdT)  : Option (Int32) := some (Rd_fault s1)
set_option maxRecDepth 100000 in
set_option maxHeartbeats 4000000 in
theorem c_X11_fault (l : Launch) (G : zj_G) (A : Nat → Nat → Nat) (K : Nat → Nat → Option Nat) (s0 : XxT) (s1 : RdT)  (r : Int32) (hf : f_X11_fault s0 s1 = some r) : zj_C l G M_X11_fault yX11_fault [w_Xx G A K s0, w_Rd G (A 1) s1] [.ref (A 0 0)] (some (.int r)) (fun _ => [w_Xx G A K s0, w_Rd G (A 1) s1]) := by
  have key : ∀ W0 : List va_W, zj_J l G M_X11_fault W0 (zj_ret G M_X11_fault W0 (some (.int r)) (fun _ => [w_Xx G A K s0, w_Rd G (A 1) s1])) 0 0 [w_Xx G A K s0, w_Rd G (A 1) s1] [some (.ref (A 0 0))] 0 [] := by
    intro W0
    unfold f_X11_fault at hf
    refine zr_run [(.aload_n 0, 0, 0, 0, .null), (.getfield 10, 0, 0, 0, .null), (.getfield 144, 1, 0, 11, .null)] [] (WW' := [w_Xx G A K s0, w_Rd G (A 1) s1]) (lv' := [some (.ref (A 0 0))]) (pc' := 7) (st' := [.int (Rd_fault s1)]) (by decide +kernel) rfl rfl ⟨trivial, ⟨rfl, rfl, zw_2_149⟩, ⟨rfl, rfl, zw_1_113⟩, trivial⟩ ?_
    obtain rfl := Option.some.inj hf
    exact zr_iret (b0 := fun _ => 0) (by decide +kernel) rfl rfl rfl rfl rfl
  exact zj_entry [some (.ref (A 0 0))] (by decide +kernel) rfl (by decide) (Nat.le_of_ble_eq_true rfl) rfl rfl (key _)
def M_X11_count : zj_M := (RX11, cX11_count, 2, (some .int), { frames := 0, cells := 0, slots := 0, locals := 0 }, false)
theorem nm_X11_count : zj_nm yX11_count 1 := ⟨by decide +kernel, by decide +kernel, by decide +kernel⟩
def f_X11_count  (s0 : XxT) (s1 : LdT) (s2 : RdT) (x1 : Int32) : Option (Int32) := (if x1 = (0 : Int32) then some (Ld_places s1) else (if x1 = (1 : Int32) then some (Ld_roads s1) else (if x1 = (2 : Int32) then some (Ld_men s1) else (if x1 = (3 : Int32) then some (Ld_ports s1) else (if x1 = (4 : Int32) then some (Rd_length s2) else some (-1 : Int32))))))
set_option maxRecDepth 100000 in
set_option maxHeartbeats 4000000 in
theorem c_X11_count (l : Launch) (G : zj_G) (A : Nat → Nat → Nat) (K : Nat → Nat → Option Nat) (s0 : XxT) (s1 : LdT) (s2 : RdT) (x1 : Int32) (r : Int32) (hf : f_X11_count s0 s1 s2 x1 = some r) : zj_C l G M_X11_count yX11_count [w_Xx G A K s0, w_Ld G (A 2) s1, w_Rd G (A 1) s2] [.ref (A 0 0), .int x1] (some (.int r)) (fun _ => [w_Xx G A K s0, w_Ld G (A 2) s1, w_Rd G (A 1) s2]) := by
  have key : ∀ W0 : List va_W, zj_J l G M_X11_count W0 (zj_ret G M_X11_count W0 (some (.int r)) (fun _ => [w_Xx G A K s0, w_Ld G (A 2) s1, w_Rd G (A 1) s2])) 0 0 [w_Xx G A K s0, w_Ld G (A 2) s1, w_Rd G (A 1) s2] [some (.ref (A 0 0)), some (.int x1)] 0 [] := by
    intro W0
    unfold f_X11_count at hf
    refine zr_run [(.iload_n 1, 0, 0, 0, .null)] [] (WW' := [w_Xx G A K s0, w_Ld G (A 2) s1, w_Rd G (A 1) s2]) (lv' := [some (.ref (A 0 0)), some (.int x1)]) (pc' := 1) (st' := [.int x1]) (by decide +kernel) rfl rfl ⟨trivial, trivial⟩ ?_
    by_cases hc0 : x1 = (0 : Int32)
    · have hf := zift hf hc0
      refine zr_tabIn (v := (0 : Int32)) (tgt := 36) (dflt := 75) (lo := 0) (hi := 4) (offs := #[35, 43, 51, 59, 67]) (len := 35) (off := 35) hc0 (by decide +kernel) (by decide) (by decide) (by decide) ?_
      refine zr_run [(.aload_n 0, 0, 0, 0, .null), (.getfield 19, 0, 0, 1, .null), (.getfield 147, 1, 0, 0, .null)] [] (WW' := [w_Xx G A K s0, w_Ld G (A 2) s1, w_Rd G (A 1) s2]) (lv' := [some (.ref (A 0 0)), some (.int x1)]) (pc' := 43) (st' := [.int (Ld_places s1)]) (by decide +kernel) rfl rfl ⟨trivial, ⟨rfl, rfl, zw_2_150⟩, ⟨rfl, rfl, zw_1_154⟩, trivial⟩ ?_
      obtain rfl := Option.some.inj hf
      exact zr_iret (b0 := fun _ => 0) (by decide +kernel) rfl rfl rfl rfl rfl
    · have hf := ziff hf hc0
      by_cases hc1 : x1 = (1 : Int32)
      · have hf := zift hf hc1
        refine zr_tabIn (v := (1 : Int32)) (tgt := 44) (dflt := 75) (lo := 0) (hi := 4) (offs := #[35, 43, 51, 59, 67]) (len := 35) (off := 43) hc1 (by decide +kernel) (by decide) (by decide) (by decide) ?_
        refine zr_run [(.aload_n 0, 0, 0, 0, .null), (.getfield 19, 0, 0, 1, .null), (.getfield 150, 1, 0, 1, .null)] [] (WW' := [w_Xx G A K s0, w_Ld G (A 2) s1, w_Rd G (A 1) s2]) (lv' := [some (.ref (A 0 0)), some (.int x1)]) (pc' := 51) (st' := [.int (Ld_roads s1)]) (by decide +kernel) rfl rfl ⟨trivial, ⟨rfl, rfl, zw_2_150⟩, ⟨rfl, rfl, zw_1_157⟩, trivial⟩ ?_
        obtain rfl := Option.some.inj hf
        exact zr_iret (b0 := fun _ => 0) (by decide +kernel) rfl rfl rfl rfl rfl
      · have hf := ziff hf hc1
        by_cases hc2 : x1 = (2 : Int32)
        · have hf := zift hf hc2
          refine zr_tabIn (v := (2 : Int32)) (tgt := 52) (dflt := 75) (lo := 0) (hi := 4) (offs := #[35, 43, 51, 59, 67]) (len := 35) (off := 51) hc2 (by decide +kernel) (by decide) (by decide) (by decide) ?_
          refine zr_run [(.aload_n 0, 0, 0, 0, .null), (.getfield 19, 0, 0, 1, .null), (.getfield 153, 1, 0, 2, .null)] [] (WW' := [w_Xx G A K s0, w_Ld G (A 2) s1, w_Rd G (A 1) s2]) (lv' := [some (.ref (A 0 0)), some (.int x1)]) (pc' := 59) (st' := [.int (Ld_men s1)]) (by decide +kernel) rfl rfl ⟨trivial, ⟨rfl, rfl, zw_2_150⟩, ⟨rfl, rfl, zw_1_162⟩, trivial⟩ ?_
          obtain rfl := Option.some.inj hf
          exact zr_iret (b0 := fun _ => 0) (by decide +kernel) rfl rfl rfl rfl rfl
        · have hf := ziff hf hc2
          by_cases hc3 : x1 = (3 : Int32)
          · have hf := zift hf hc3
            refine zr_tabIn (v := (3 : Int32)) (tgt := 60) (dflt := 75) (lo := 0) (hi := 4) (offs := #[35, 43, 51, 59, 67]) (len := 35) (off := 59) hc3 (by decide +kernel) (by decide) (by decide) (by decide) ?_
            refine zr_run [(.aload_n 0, 0, 0, 0, .null), (.getfield 19, 0, 0, 1, .null), (.getfield 156, 1, 0, 3, .null)] [] (WW' := [w_Xx G A K s0, w_Ld G (A 2) s1, w_Rd G (A 1) s2]) (lv' := [some (.ref (A 0 0)), some (.int x1)]) (pc' := 67) (st' := [.int (Ld_ports s1)]) (by decide +kernel) rfl rfl ⟨trivial, ⟨rfl, rfl, zw_2_150⟩, ⟨rfl, rfl, zw_1_164⟩, trivial⟩ ?_
            obtain rfl := Option.some.inj hf
            exact zr_iret (b0 := fun _ => 0) (by decide +kernel) rfl rfl rfl rfl rfl
          · have hf := ziff hf hc3
            by_cases hc4 : x1 = (4 : Int32)
            · have hf := zift hf hc4
              refine zr_tabIn (v := (4 : Int32)) (tgt := 68) (dflt := 75) (lo := 0) (hi := 4) (offs := #[35, 43, 51, 59, 67]) (len := 35) (off := 67) hc4 (by decide +kernel) (by decide) (by decide) (by decide) ?_
              refine zr_run [(.aload_n 0, 0, 0, 0, .null), (.getfield 10, 0, 0, 0, .null), (.getfield 123, 2, 0, 1, .null)] [] (WW' := [w_Xx G A K s0, w_Ld G (A 2) s1, w_Rd G (A 1) s2]) (lv' := [some (.ref (A 0 0)), some (.int x1)]) (pc' := 75) (st' := [.int (Rd_length s2)]) (by decide +kernel) rfl rfl ⟨trivial, ⟨rfl, rfl, zw_2_149⟩, ⟨rfl, rfl, zw_1_94⟩, trivial⟩ ?_
              obtain rfl := Option.some.inj hf
              exact zr_iret (b0 := fun _ => 0) (by decide +kernel) rfl rfl rfl rfl rfl
            · have hf := ziff hf hc4
              refine zr_tabOut (tgt := 76) (dflt := 75) (lo := 0) (hi := 4) (offs := #[35, 43, 51, 59, 67]) (len := 35) (by decide +kernel) (by have q0 := lv_neT hc0 (a := 0) (by decide); have q1 := lv_neT hc1 (a := 1) (by decide); have q2 := lv_neT hc2 (a := 2) (by decide); have q3 := lv_neT hc3 (a := 3) (by decide); have q4 := lv_neT hc4 (a := 4) (by decide); omega) (by decide) ?_
              refine zr_run [(.iconst (-1), 0, 0, 0, .int (-1 : Int32))] [] (WW' := [w_Xx G A K s0, w_Ld G (A 2) s1, w_Rd G (A 1) s2]) (lv' := [some (.ref (A 0 0)), some (.int x1)]) (pc' := 77) (st' := [.int (-1 : Int32)]) (by decide +kernel) rfl rfl ⟨trivial, trivial⟩ ?_
              obtain rfl := Option.some.inj hf
              exact zr_iret (b0 := fun _ => 0) (by decide +kernel) rfl rfl rfl rfl rfl
  exact zj_entry [some (.ref (A 0 0)), some (.int x1)] (by decide +kernel) rfl (by decide) (Nat.le_of_ble_eq_true rfl) rfl rfl (key _)
def M_X11_place : zj_M := (RX11, cX11_place, 3, (some .int), { frames := 3, cells := 0, slots := 0, locals := 69 }, false)
theorem nm_X11_place : zj_nm yX11_place 2 := ⟨by decide +kernel, by decide +kernel, by decide +kernel⟩
def f_X11_place  (s0 : XxT) (s1 : LdT) (s2 : FkT) (x1 : Int32) (x2 : Int32) : Option (Int32) := ((f_X3_hasPlace s1 x1).bind fun q1 => (if q1 = 0 then some (-1 : Int32) else (if x2 < 0 then some (-1 : Int32) else (if (4 : Int32) < x2 then some (-1 : Int32) else (if x2 = (4 : Int32) then ((f_X1_menAt s2 (Ld_men s1) x1).bind fun q2 => some q2) else ((f_X3_ofPlace s1 x1 x2).bind fun q3 => some q3))))))
set_option maxRecDepth 100000 in
set_option maxHeartbeats 4000000 in
theorem c_X11_place (l : Launch) (G : zj_G) (A : Nat → Nat → Nat) (K : Nat → Nat → Option Nat) (s0 : XxT) (s1 : LdT) (s2 : FkT) (x1 : Int32) (x2 : Int32) (r : Int32) (hf : f_X11_place s0 s1 s2 x1 x2 = some r) : zj_C l G M_X11_place yX11_place [w_Xx G A K s0, w_Ld G (A 2) s1, w_Fk G (A 4) s2] [.ref (A 0 0), .int x1, .int x2] (some (.int r)) (fun _ => [w_Xx G A K s0, w_Ld G (A 2) s1, w_Fk G (A 4) s2]) := by
  have key : ∀ W0 : List va_W, zj_J l G M_X11_place W0 (zj_ret G M_X11_place W0 (some (.int r)) (fun _ => [w_Xx G A K s0, w_Ld G (A 2) s1, w_Fk G (A 4) s2])) 0 0 [w_Xx G A K s0, w_Ld G (A 2) s1, w_Fk G (A 4) s2] [some (.ref (A 0 0)), some (.int x1), some (.int x2)] 0 [] := by
    intro W0
    unfold f_X11_place at hf
    obtain ⟨q1, e1, hf⟩ := zbi_of hf
    refine zr_run [(.aload_n 0, 0, 0, 0, .null), (.getfield 19, 0, 0, 1, .null), (.iload_n 1, 0, 0, 0, .null)] [] (WW' := [w_Xx G A K s0, w_Ld G (A 2) s1, w_Fk G (A 4) s2]) (lv' := [some (.ref (A 0 0)), some (.int x1), some (.int x2)]) (pc' := 5) (st' := [.int x1, .ref ((A 2) 0)]) (by decide +kernel) rfl rfl ⟨trivial, ⟨rfl, rfl, zw_2_150⟩, trivial, trivial⟩ ?_
    refine zr_callV (c_X3_hasPlace l G (A 2) s1 x1 q1 e1) (WW' := fun _ => [w_Xx G A K s0, w_Ld G (A 2) s1, w_Fk G (A 4) s2]) (st := []) (st' := [.int q1]) [1] rfl rfl (fun _ => Nat.le_of_ble_eq_true rfl) (fun _ => rfl) rfl rfl nm_X3_hasPlace zw_3_129 zw_3_130 zw_3_131 zw_1_7 zw_3_132 rfl rfl rfl (Nat.le_of_ble_eq_true rfl) ⟨Nat.le_of_ble_eq_true rfl, Nat.le_of_ble_eq_true rfl⟩ (by decide +kernel) (fun _ => ?_)
    refine zr_if_eq (off := 12) (tgt := 20) (by decide +kernel) (by decide) (fun hc => ?_) (fun hc => ?_)
    · have hf := zift hf hc
      refine zr_run [(.iconst (-1), 0, 0, 0, .int (-1 : Int32))] [] (WW' := [w_Xx G A K s0, w_Ld G (A 2) s1, w_Fk G (A 4) s2]) (lv' := [some (.ref (A 0 0)), some (.int x1), some (.int x2)]) (pc' := 21) (st' := [.int (-1 : Int32)]) (by decide +kernel) rfl rfl ⟨trivial, trivial⟩ ?_
      obtain rfl := Option.some.inj hf
      exact zr_iret (b0 := fun _ => 0) (by decide +kernel) rfl rfl rfl rfl rfl
    · have hf := ziff hf hc
      refine zr_run [(.iload_n 2, 0, 0, 0, .null)] [] (WW' := [w_Xx G A K s0, w_Ld G (A 2) s1, w_Fk G (A 4) s2]) (lv' := [some (.ref (A 0 0)), some (.int x1), some (.int x2)]) (pc' := 12) (st' := [.int x2]) (by decide +kernel) rfl rfl ⟨trivial, trivial⟩ ?_
      refine zr_if_lt (off := 8) (tgt := 20) (by decide +kernel) (by decide) (fun hc => ?_) (fun hc => ?_)
      · have hf := zift hf hc
        refine zr_run [(.iconst (-1), 0, 0, 0, .int (-1 : Int32))] [] (WW' := [w_Xx G A K s0, w_Ld G (A 2) s1, w_Fk G (A 4) s2]) (lv' := [some (.ref (A 0 0)), some (.int x1), some (.int x2)]) (pc' := 21) (st' := [.int (-1 : Int32)]) (by decide +kernel) rfl rfl ⟨trivial, trivial⟩ ?_
        obtain rfl := Option.some.inj hf
        exact zr_iret (b0 := fun _ => 0) (by decide +kernel) rfl rfl rfl rfl rfl
      · have hf := ziff hf hc
        refine zr_run [(.iload_n 2, 0, 0, 0, .null), (.iconst 4, 0, 0, 0, .int (4 : Int32))] [] (WW' := [w_Xx G A K s0, w_Ld G (A 2) s1, w_Fk G (A 4) s2]) (lv' := [some (.ref (A 0 0)), some (.int x1), some (.int x2)]) (pc' := 17) (st' := [.int (4 : Int32), .int x2]) (by decide +kernel) rfl rfl ⟨trivial, trivial, trivial⟩ ?_
        refine zr_icmp_le (off := 5) (tgt := 22) (by decide +kernel) (by decide) (fun hc => ?_) (fun hc => ?_)
        · have hf := zift hf hc
          refine zr_run [(.iconst (-1), 0, 0, 0, .int (-1 : Int32))] [] (WW' := [w_Xx G A K s0, w_Ld G (A 2) s1, w_Fk G (A 4) s2]) (lv' := [some (.ref (A 0 0)), some (.int x1), some (.int x2)]) (pc' := 21) (st' := [.int (-1 : Int32)]) (by decide +kernel) rfl rfl ⟨trivial, trivial⟩ ?_
          obtain rfl := Option.some.inj hf
          exact zr_iret (b0 := fun _ => 0) (by decide +kernel) rfl rfl rfl rfl rfl
        · have hf := ziff hf hc
          refine zr_run [(.iload_n 2, 0, 0, 0, .null), (.iconst 4, 0, 0, 0, .int (4 : Int32))] [] (WW' := [w_Xx G A K s0, w_Ld G (A 2) s1, w_Fk G (A 4) s2]) (lv' := [some (.ref (A 0 0)), some (.int x1), some (.int x2)]) (pc' := 24) (st' := [.int (4 : Int32), .int x2]) (by decide +kernel) rfl rfl ⟨trivial, trivial, trivial⟩ ?_
          refine zr_icmp_ne (off := 21) (tgt := 45) (by decide +kernel) (by decide) (fun hc => ?_) (fun hc => ?_)
          · have hf := zift hf hc
            obtain ⟨q2, e2, hf⟩ := zbi_of hf
            refine zr_run [(.aload_n 0, 0, 0, 0, .null), (.getfield 29, 0, 0, 3, .null), (.aload_n 0, 0, 0, 0, .null), (.getfield 19, 0, 0, 1, .null), (.getfield 153, 1, 0, 2, .null), (.iload_n 1, 0, 0, 0, .null)] [] (WW' := [w_Xx G A K s0, w_Ld G (A 2) s1, w_Fk G (A 4) s2]) (lv' := [some (.ref (A 0 0)), some (.int x1), some (.int x2)]) (pc' := 39) (st' := [.int x1, .int (Ld_men s1), .ref ((A 4) 0)]) (by decide +kernel) rfl rfl ⟨trivial, ⟨rfl, rfl, zw_2_152⟩, trivial, ⟨rfl, rfl, zw_2_150⟩, ⟨rfl, rfl, zw_1_162⟩, trivial, trivial⟩ ?_
            refine zr_callV (c_X1_menAt l G (A 4) s2 (Ld_men s1) x1 q2 e2) (WW' := fun _ => [w_Xx G A K s0, w_Ld G (A 2) s1, w_Fk G (A 4) s2]) (st := []) (st' := [.int q2]) [2] rfl rfl (fun _ => Nat.le_of_ble_eq_true rfl) (fun _ => rfl) rfl rfl nm_X1_menAt zw_3_133 zw_3_134 zw_3_135 zw_1_8 zw_3_136 rfl rfl rfl (Nat.le_of_ble_eq_true rfl) ⟨Nat.le_of_ble_eq_true rfl, Nat.le_of_ble_eq_true rfl⟩ (by decide +kernel) (fun _ => ?_)
            refine zr_goto (off := 12) (tgt := 54) (by decide +kernel) (by decide) ?_
            obtain rfl := Option.some.inj hf
            exact zr_iret (b0 := fun _ => 0) (by decide +kernel) rfl rfl rfl rfl rfl
          · have hf := ziff hf hc
            obtain ⟨q3, e3, hf⟩ := zbi_of hf
            refine zr_run [(.aload_n 0, 0, 0, 0, .null), (.getfield 19, 0, 0, 1, .null), (.iload_n 1, 0, 0, 0, .null), (.iload_n 2, 0, 0, 0, .null)] [] (WW' := [w_Xx G A K s0, w_Ld G (A 2) s1, w_Fk G (A 4) s2]) (lv' := [some (.ref (A 0 0)), some (.int x1), some (.int x2)]) (pc' := 51) (st' := [.int x2, .int x1, .ref ((A 2) 0)]) (by decide +kernel) rfl rfl ⟨trivial, ⟨rfl, rfl, zw_2_150⟩, trivial, trivial, trivial⟩ ?_
            refine zr_callV (c_X3_ofPlace l G (A 2) s1 x1 x2 q3 e3) (WW' := fun _ => [w_Xx G A K s0, w_Ld G (A 2) s1, w_Fk G (A 4) s2]) (st := []) (st' := [.int q3]) [1] rfl rfl (fun _ => Nat.le_of_ble_eq_true rfl) (fun _ => rfl) rfl rfl nm_X3_ofPlace zw_3_145 zw_3_55 zw_3_56 zw_1_7 zw_3_55n rfl rfl rfl (Nat.le_of_ble_eq_true rfl) ⟨Nat.le_of_ble_eq_true rfl, Nat.le_of_ble_eq_true rfl⟩ (by decide +kernel) (fun _ => ?_)
            obtain rfl := Option.some.inj hf
            exact zr_iret (b0 := fun _ => 0) (by decide +kernel) rfl rfl rfl rfl rfl
  exact zj_entry [some (.ref (A 0 0)), some (.int x1), some (.int x2)] (by decide +kernel) rfl (by decide) (Nat.le_of_ble_eq_true rfl) rfl rfl (key _)
def M_X11_road : zj_M := (RX11, cX11_road, 5, (some .int), { frames := 1, cells := 0, slots := 0, locals := 23 }, false)
theorem nm_X11_road : zj_nm yX11_road 3 := ⟨by decide +kernel, by decide +kernel, by decide +kernel⟩
def f_X11_road  (s0 : XxT) (s1 : LdT) (x1 : Int32) (x2 : Int32) (x3 : Int32) : Option (Int32) := ((f_X3_hasPlace s1 x1).bind fun q1 => (if q1 = 0 then some (-1 : Int32) else ((f_X3_hasPlace s1 x2).bind fun q2 => (if q2 = 0 then some (-1 : Int32) else (if x3 < 0 then some (-1 : Int32) else (if (2 : Int32) < x3 then some (-1 : Int32) else ((f_X3_roadBetween s1 x1 x2).bind fun q3 => (if q3 = (-1 : Int32) then some (-1 : Int32) else ((f_X3_ofRoad s1 q3 ((2 : Int32) + x3)).bind fun q4 => some q4)))))))))
set_option maxRecDepth 100000 in
set_option maxHeartbeats 4000000 in
theorem c_X11_road (l : Launch) (G : zj_G) (A : Nat → Nat → Nat) (K : Nat → Nat → Option Nat) (s0 : XxT) (s1 : LdT) (x1 : Int32) (x2 : Int32) (x3 : Int32) (r : Int32) (hf : f_X11_road s0 s1 x1 x2 x3 = some r) : zj_C l G M_X11_road yX11_road [w_Xx G A K s0, w_Ld G (A 2) s1] [.ref (A 0 0), .int x1, .int x2, .int x3] (some (.int r)) (fun _ => [w_Xx G A K s0, w_Ld G (A 2) s1]) := by
  have key : ∀ W0 : List va_W, zj_J l G M_X11_road W0 (zj_ret G M_X11_road W0 (some (.int r)) (fun _ => [w_Xx G A K s0, w_Ld G (A 2) s1])) 0 0 [w_Xx G A K s0, w_Ld G (A 2) s1] [some (.ref (A 0 0)), some (.int x1), some (.int x2), some (.int x3), none] 0 [] := by
    intro W0
    unfold f_X11_road at hf
    obtain ⟨q1, e1, hf⟩ := zbi_of hf
    refine zr_run [(.aload_n 0, 0, 0, 0, .null), (.getfield 19, 0, 0, 1, .null), (.iload_n 1, 0, 0, 0, .null)] [] (WW' := [w_Xx G A K s0, w_Ld G (A 2) s1]) (lv' := [some (.ref (A 0 0)), some (.int x1), some (.int x2), some (.int x3), none]) (pc' := 5) (st' := [.int x1, .ref ((A 2) 0)]) (by decide +kernel) rfl rfl ⟨trivial, ⟨rfl, rfl, zw_2_150⟩, trivial, trivial⟩ ?_
    refine zr_callV (c_X3_hasPlace l G (A 2) s1 x1 q1 e1) (WW' := fun _ => [w_Xx G A K s0, w_Ld G (A 2) s1]) (st := []) (st' := [.int q1]) [1] rfl rfl (fun _ => Nat.le_of_ble_eq_true rfl) (fun _ => rfl) rfl rfl nm_X3_hasPlace zw_3_129 zw_3_130 zw_3_131 zw_1_7 zw_3_132 rfl rfl rfl (Nat.le_of_ble_eq_true rfl) ⟨Nat.le_of_ble_eq_true rfl, Nat.le_of_ble_eq_true rfl⟩ (by decide +kernel) (fun _ => ?_)
    refine zr_if_eq (off := 23) (tgt := 31) (by decide +kernel) (by decide) (fun hc => ?_) (fun hc => ?_)
    · have hf := zift hf hc
      refine zr_run [(.iconst (-1), 0, 0, 0, .int (-1 : Int32))] [] (WW' := [w_Xx G A K s0, w_Ld G (A 2) s1]) (lv' := [some (.ref (A 0 0)), some (.int x1), some (.int x2), some (.int x3), none]) (pc' := 32) (st' := [.int (-1 : Int32)]) (by decide +kernel) rfl rfl ⟨trivial, trivial⟩ ?_
      obtain rfl := Option.some.inj hf
      exact zr_iret (b0 := fun _ => 0) (by decide +kernel) rfl rfl rfl rfl rfl
    · have hf := ziff hf hc
      obtain ⟨q2, e2, hf⟩ := zbi_of hf
      refine zr_run [(.aload_n 0, 0, 0, 0, .null), (.getfield 19, 0, 0, 1, .null), (.iload_n 2, 0, 0, 0, .null)] [] (WW' := [w_Xx G A K s0, w_Ld G (A 2) s1]) (lv' := [some (.ref (A 0 0)), some (.int x1), some (.int x2), some (.int x3), none]) (pc' := 16) (st' := [.int x2, .ref ((A 2) 0)]) (by decide +kernel) rfl rfl ⟨trivial, ⟨rfl, rfl, zw_2_150⟩, trivial, trivial⟩ ?_
      refine zr_callV (c_X3_hasPlace l G (A 2) s1 x2 q2 e2) (WW' := fun _ => [w_Xx G A K s0, w_Ld G (A 2) s1]) (st := []) (st' := [.int q2]) [1] rfl rfl (fun _ => Nat.le_of_ble_eq_true rfl) (fun _ => rfl) rfl rfl nm_X3_hasPlace zw_3_129 zw_3_130 zw_3_131 zw_1_7 zw_3_132 rfl rfl rfl (Nat.le_of_ble_eq_true rfl) ⟨Nat.le_of_ble_eq_true rfl, Nat.le_of_ble_eq_true rfl⟩ (by decide +kernel) (fun _ => ?_)
      refine zr_if_eq (off := 12) (tgt := 31) (by decide +kernel) (by decide) (fun hc => ?_) (fun hc => ?_)
      · have hf := zift hf hc
        refine zr_run [(.iconst (-1), 0, 0, 0, .int (-1 : Int32))] [] (WW' := [w_Xx G A K s0, w_Ld G (A 2) s1]) (lv' := [some (.ref (A 0 0)), some (.int x1), some (.int x2), some (.int x3), none]) (pc' := 32) (st' := [.int (-1 : Int32)]) (by decide +kernel) rfl rfl ⟨trivial, trivial⟩ ?_
        obtain rfl := Option.some.inj hf
        exact zr_iret (b0 := fun _ => 0) (by decide +kernel) rfl rfl rfl rfl rfl
      · have hf := ziff hf hc
        refine zr_run [(.iload_n 3, 0, 0, 0, .null)] [] (WW' := [w_Xx G A K s0, w_Ld G (A 2) s1]) (lv' := [some (.ref (A 0 0)), some (.int x1), some (.int x2), some (.int x3), none]) (pc' := 23) (st' := [.int x3]) (by decide +kernel) rfl rfl ⟨trivial, trivial⟩ ?_
        refine zr_if_lt (off := 8) (tgt := 31) (by decide +kernel) (by decide) (fun hc => ?_) (fun hc => ?_)
        · have hf := zift hf hc
          refine zr_run [(.iconst (-1), 0, 0, 0, .int (-1 : Int32))] [] (WW' := [w_Xx G A K s0, w_Ld G (A 2) s1]) (lv' := [some (.ref (A 0 0)), some (.int x1), some (.int x2), some (.int x3), none]) (pc' := 32) (st' := [.int (-1 : Int32)]) (by decide +kernel) rfl rfl ⟨trivial, trivial⟩ ?_
          obtain rfl := Option.some.inj hf
          exact zr_iret (b0 := fun _ => 0) (by decide +kernel) rfl rfl rfl rfl rfl
        · have hf := ziff hf hc
          refine zr_run [(.iload_n 3, 0, 0, 0, .null), (.iconst 2, 0, 0, 0, .int (2 : Int32))] [] (WW' := [w_Xx G A K s0, w_Ld G (A 2) s1]) (lv' := [some (.ref (A 0 0)), some (.int x1), some (.int x2), some (.int x3), none]) (pc' := 28) (st' := [.int (2 : Int32), .int x3]) (by decide +kernel) rfl rfl ⟨trivial, trivial, trivial⟩ ?_
          refine zr_icmp_le (off := 5) (tgt := 33) (by decide +kernel) (by decide) (fun hc => ?_) (fun hc => ?_)
          · have hf := zift hf hc
            refine zr_run [(.iconst (-1), 0, 0, 0, .int (-1 : Int32))] [] (WW' := [w_Xx G A K s0, w_Ld G (A 2) s1]) (lv' := [some (.ref (A 0 0)), some (.int x1), some (.int x2), some (.int x3), none]) (pc' := 32) (st' := [.int (-1 : Int32)]) (by decide +kernel) rfl rfl ⟨trivial, trivial⟩ ?_
            obtain rfl := Option.some.inj hf
            exact zr_iret (b0 := fun _ => 0) (by decide +kernel) rfl rfl rfl rfl rfl
          · have hf := ziff hf hc
            obtain ⟨q3, e3, hf⟩ := zbi_of hf
            refine zr_run [(.aload_n 0, 0, 0, 0, .null), (.getfield 19, 0, 0, 1, .null), (.iload_n 1, 0, 0, 0, .null), (.iload_n 2, 0, 0, 0, .null)] [] (WW' := [w_Xx G A K s0, w_Ld G (A 2) s1]) (lv' := [some (.ref (A 0 0)), some (.int x1), some (.int x2), some (.int x3), none]) (pc' := 39) (st' := [.int x2, .int x1, .ref ((A 2) 0)]) (by decide +kernel) rfl rfl ⟨trivial, ⟨rfl, rfl, zw_2_150⟩, trivial, trivial, trivial⟩ ?_
            refine zr_callV (c_X3_roadBetween l G (A 2) s1 x1 x2 q3 e3) (WW' := fun _ => [w_Xx G A K s0, w_Ld G (A 2) s1]) (st := []) (st' := [.int q3]) [1] rfl rfl (fun _ => Nat.le_of_ble_eq_true rfl) (fun _ => rfl) rfl rfl nm_X3_roadBetween zw_3_150 zw_3_47 zw_3_48 zw_1_7 zw_3_47n rfl rfl rfl (Nat.le_of_ble_eq_true rfl) ⟨Nat.le_of_ble_eq_true rfl, Nat.le_of_ble_eq_true rfl⟩ (by decide +kernel) (fun _ => ?_)
            refine zr_run [(.istore 4, 0, 0, 0, .null), (.iload 4, 0, 0, 0, .null), (.iconst (-1), 0, 0, 0, .int (-1 : Int32))] [] (WW' := [w_Xx G A K s0, w_Ld G (A 2) s1]) (lv' := [some (.ref (A 0 0)), some (.int x1), some (.int x2), some (.int x3), some (.int q3)]) (pc' := 47) (st' := [.int (-1 : Int32), .int q3]) (by decide +kernel) rfl rfl ⟨trivial, trivial, trivial, trivial⟩ ?_
            refine zr_icmp_ne (off := 7) (tgt := 54) (by decide +kernel) (by decide) (fun hc => ?_) (fun hc => ?_)
            · have hf := zift hf hc
              refine zr_run [(.iconst (-1), 0, 0, 0, .int (-1 : Int32))] [] (WW' := [w_Xx G A K s0, w_Ld G (A 2) s1]) (lv' := [some (.ref (A 0 0)), some (.int x1), some (.int x2), some (.int x3), some (.int q3)]) (pc' := 51) (st' := [.int (-1 : Int32)]) (by decide +kernel) rfl rfl ⟨trivial, trivial⟩ ?_
              refine zr_goto (off := 15) (tgt := 66) (by decide +kernel) (by decide) ?_
              obtain rfl := Option.some.inj hf
              exact zr_iret (b0 := fun _ => 0) (by decide +kernel) rfl rfl rfl rfl rfl
            · have hf := ziff hf hc
              obtain ⟨q4, e4, hf⟩ := zbi_of hf
              refine zr_run [(.aload_n 0, 0, 0, 0, .null), (.getfield 19, 0, 0, 1, .null), (.iload 4, 0, 0, 0, .null), (.iconst 2, 0, 0, 0, .int (2 : Int32)), (.iload_n 3, 0, 0, 0, .null), (.iadd, 0, 0, 0, .null)] [] (WW' := [w_Xx G A K s0, w_Ld G (A 2) s1]) (lv' := [some (.ref (A 0 0)), some (.int x1), some (.int x2), some (.int x3), some (.int q3)]) (pc' := 63) (st' := [.int ((2 : Int32) + x3), .int q3, .ref ((A 2) 0)]) (by decide +kernel) rfl rfl ⟨trivial, ⟨rfl, rfl, zw_2_150⟩, trivial, trivial, trivial, trivial, trivial⟩ ?_
              refine zr_callV (c_X3_ofRoad l G (A 2) s1 q3 ((2 : Int32) + x3) q4 e4) (WW' := fun _ => [w_Xx G A K s0, w_Ld G (A 2) s1]) (st := []) (st' := [.int q4]) [1] rfl rfl (fun _ => Nat.le_of_ble_eq_true rfl) (fun _ => rfl) rfl rfl nm_X3_ofRoad zw_3_151 zw_3_80 zw_3_81 zw_1_7 zw_3_80n rfl rfl rfl (Nat.le_of_ble_eq_true rfl) ⟨Nat.le_of_ble_eq_true rfl, Nat.le_of_ble_eq_true rfl⟩ (by decide +kernel) (fun _ => ?_)
              obtain rfl := Option.some.inj hf
              exact zr_iret (b0 := fun _ => 0) (by decide +kernel) rfl rfl rfl rfl rfl
  exact zj_entry [some (.ref (A 0 0)), some (.int x1), some (.int x2), some (.int x3), none] (by decide +kernel) rfl (by decide) (Nat.le_of_ble_eq_true rfl) rfl rfl (key _)
def M_X11_man : zj_M := (RX11, cX11_man, 3, (some .int), { frames := 6, cells := 1, slots := 6, locals := 100 }, false)
theorem nm_X11_man : zj_nm yX11_man 2 := ⟨by decide +kernel, by decide +kernel, by decide +kernel⟩
def f_X11_man_b21  (s0 : XxT) (s1 : LdT) (s2 : FkT)   : Option (Option (Int32)) := some none
def f_X11_man  (s0 : XxT) (s1 : LdT) (s2 : FkT) (x1 : Int32) (x2 : Int32) : Option (Option (Int32)) := ((f_X3_hasMan s1 x1).bind fun q1 => (if q1 = 0 then f_X11_man_b21 s0 s1 s2 else (if x2 < 0 then f_X11_man_b21 s0 s1 s2 else (if (13 : Int32) < x2 then f_X11_man_b21 s0 s1 s2 else (if x2 = (0 : Int32) then ((f_X1_of s2 x1 (0 : Int32)).bind fun q2 => some (some q2)) else (if x2 = (1 : Int32) then ((f_X3_ofMan s1 x1 (1 : Int32)).bind fun q3 => some (some q3)) else (if x2 = (2 : Int32) then ((f_X1_of s2 x1 (1 : Int32)).bind fun q4 => some (some q4)) else (if x2 = (3 : Int32) then ((f_X3_ofMan s1 x1 (3 : Int32)).bind fun q5 => some (some q5)) else (if x2 = (4 : Int32) then ((f_X1_of s2 x1 (2 : Int32)).bind fun q6 => some (some q6)) else (if x2 = (5 : Int32) then ((f_X1_of s2 x1 (3 : Int32)).bind fun q7 => some (some q7)) else (if x2 = (6 : Int32) then ((f_X1_of s2 x1 (4 : Int32)).bind fun q8 => some (some q8)) else (if x2 = (7 : Int32) then ((f_X1_of s2 x1 (5 : Int32)).bind fun q9 => some (some q9)) else (if x2 = (8 : Int32) then ((f_X1_allMiles s2 s1 x1).bind fun q10 => some (some q10)) else (if x2 = (9 : Int32) then ((f_X1_daysYet s2 x1).bind fun q11 => some (some q11)) else (if x2 = (10 : Int32) then ((f_X1_of s2 x1 (7 : Int32)).bind fun q12 => some (some q12)) else (if x2 = (11 : Int32) then ((f_X1_of s2 x1 (8 : Int32)).bind fun q13 => some (some q13)) else (if x2 = (12 : Int32) then ((f_X1_of s2 x1 (9 : Int32)).bind fun q14 => some (some q14)) else ((f_X1_of s2 x1 (10 : Int32)).bind fun q15 => some (some q15)))))))))))))))))))
set_option maxRecDepth 100000 in
set_option maxHeartbeats 4000000 in
theorem t_X11_man_b21 (l : Launch) (G : zj_G) (hl : l.stackTraces = false) (A : Nat → Nat → Nat) (K : Nat → Nat → Option Nat) (W0 : List va_W) (r : Option (Int32)) (s0 : XxT) (s1 : LdT) (s2 : FkT)    (hf : f_X11_man_b21 s0 s1 s2 = some r) : zj_J l G M_X11_man W0 (zj_thr G M_X11_man W0 (r.map fun q => some (.int q)) (fun _ => [w_Xx G A K s0, w_Ld G (A 2) s1, w_Fk G (A 4) s2])) 0 0 [w_Xx G A K s0, w_Ld G (A 2) s1, w_Fk G (A 4) s2] [none, none, none] 21 [] := by
  unfold f_X11_man_b21 at hf
  obtain rfl := Option.some.inj hf
  exact zr_throw (b0 := fun _ => 0) hl rfl zw_5_147 zw_1_22 (by decide +kernel) (by decide +kernel) (by decide +kernel) (by decide +kernel) (by decide) (by decide) ⟨Nat.le_of_ble_eq_true rfl, Nat.le_of_ble_eq_true rfl⟩ rfl
set_option maxRecDepth 100000 in
set_option maxHeartbeats 4000000 in
theorem c_X11_man (l : Launch) (G : zj_G) (hl : l.stackTraces = false) (A : Nat → Nat → Nat) (K : Nat → Nat → Option Nat) (s0 : XxT) (s1 : LdT) (s2 : FkT) (x1 : Int32) (x2 : Int32) (r : Option (Int32)) (hf : f_X11_man s0 s1 s2 x1 x2 = some r) : zj_CX l G M_X11_man yX11_man [w_Xx G A K s0, w_Ld G (A 2) s1, w_Fk G (A 4) s2] [.ref (A 0 0), .int x1, .int x2] ((r.map fun q => some (.int q))) (fun _ => [w_Xx G A K s0, w_Ld G (A 2) s1, w_Fk G (A 4) s2]) := by
  have key : ∀ W0 : List va_W, zj_J l G M_X11_man W0 (zj_thr G M_X11_man W0 (r.map fun q => some (.int q)) (fun _ => [w_Xx G A K s0, w_Ld G (A 2) s1, w_Fk G (A 4) s2])) 0 0 [w_Xx G A K s0, w_Ld G (A 2) s1, w_Fk G (A 4) s2] [some (.ref (A 0 0)), some (.int x1), some (.int x2)] 0 [] := by
    intro W0
    unfold f_X11_man at hf
    obtain ⟨q1, e1, hf⟩ := zbi_of hf
    refine zr_run [(.aload_n 0, 0, 0, 0, .null), (.getfield 19, 0, 0, 1, .null), (.iload_n 1, 0, 0, 0, .null)] [] (WW' := [w_Xx G A K s0, w_Ld G (A 2) s1, w_Fk G (A 4) s2]) (lv' := [some (.ref (A 0 0)), some (.int x1), some (.int x2)]) (pc' := 5) (st' := [.int x1, .ref ((A 2) 0)]) (by decide +kernel) rfl rfl ⟨trivial, ⟨rfl, rfl, zw_2_150⟩, trivial, trivial⟩ ?_
    refine zr_callV (c_X3_hasMan l G (A 2) s1 x1 q1 e1) (WW' := fun _ => [w_Xx G A K s0, w_Ld G (A 2) s1, w_Fk G (A 4) s2]) (st := []) (st' := [.int q1]) [1] rfl rfl (fun _ => Nat.le_of_ble_eq_true rfl) (fun _ => rfl) rfl rfl nm_X3_hasMan zw_3_168 zw_3_169 zw_3_170 zw_1_7 zw_3_171 rfl rfl rfl (Nat.le_of_ble_eq_true rfl) ⟨Nat.le_of_ble_eq_true rfl, Nat.le_of_ble_eq_true rfl⟩ (by decide +kernel) (fun _ => ?_)
    refine zr_if_eq (off := 13) (tgt := 21) (by decide +kernel) (by decide) (fun hc => ?_) (fun hc => ?_)
    · have hf := zift hf hc
      refine zr_run [] [0, 1, 2] (WW' := [w_Xx G A K s0, w_Ld G (A 2) s1, w_Fk G (A 4) s2]) (lv' := [none, none, none]) (pc' := 21) (st' := []) (by decide +kernel) rfl rfl trivial ?_
      exact t_X11_man_b21 l G hl A K W0 r s0 s1 s2 hf
    · have hf := ziff hf hc
      refine zr_run [(.iload_n 2, 0, 0, 0, .null)] [] (WW' := [w_Xx G A K s0, w_Ld G (A 2) s1, w_Fk G (A 4) s2]) (lv' := [some (.ref (A 0 0)), some (.int x1), some (.int x2)]) (pc' := 12) (st' := [.int x2]) (by decide +kernel) rfl rfl ⟨trivial, trivial⟩ ?_
      refine zr_if_lt (off := 9) (tgt := 21) (by decide +kernel) (by decide) (fun hc => ?_) (fun hc => ?_)
      · have hf := zift hf hc
        refine zr_run [] [0, 1, 2] (WW' := [w_Xx G A K s0, w_Ld G (A 2) s1, w_Fk G (A 4) s2]) (lv' := [none, none, none]) (pc' := 21) (st' := []) (by decide +kernel) rfl rfl trivial ?_
        exact t_X11_man_b21 l G hl A K W0 r s0 s1 s2 hf
      · have hf := ziff hf hc
        refine zr_run [(.iload_n 2, 0, 0, 0, .null), (.bipush 13, 0, 0, 0, .int (13 : Int32))] [] (WW' := [w_Xx G A K s0, w_Ld G (A 2) s1, w_Fk G (A 4) s2]) (lv' := [some (.ref (A 0 0)), some (.int x1), some (.int x2)]) (pc' := 18) (st' := [.int (13 : Int32), .int x2]) (by decide +kernel) rfl rfl ⟨trivial, trivial, trivial⟩ ?_
        refine zr_icmp_le (off := 11) (tgt := 29) (by decide +kernel) (by decide) (fun hc => ?_) (fun hc => ?_)
        · have hf := zift hf hc
          refine zr_run [] [0, 1, 2] (WW' := [w_Xx G A K s0, w_Ld G (A 2) s1, w_Fk G (A 4) s2]) (lv' := [none, none, none]) (pc' := 21) (st' := []) (by decide +kernel) rfl rfl trivial ?_
          exact t_X11_man_b21 l G hl A K W0 r s0 s1 s2 hf
        · have hf := ziff hf hc
          refine zr_run [(.iload_n 2, 0, 0, 0, .null)] [] (WW' := [w_Xx G A K s0, w_Ld G (A 2) s1, w_Fk G (A 4) s2]) (lv' := [some (.ref (A 0 0)), some (.int x1), some (.int x2)]) (pc' := 30) (st' := [.int x2]) (by decide +kernel) rfl rfl ⟨trivial, trivial⟩ ?_
          by_cases hc0 : x2 = (0 : Int32)
          · have hf := zift hf hc0
            refine zr_tabIn (v := (0 : Int32)) (tgt := 96) (dflt := 201) (lo := 0) (hi := 12) (offs := #[66, 76, 86, 96, 106, 116, 126, 136, 146, 159, 168, 179, 190]) (len := 66) (off := 66) hc0 (by decide +kernel) (by decide) (by decide) (by decide) ?_
            obtain ⟨q2, e2, hf⟩ := zbi_of hf
            refine zr_run [(.aload_n 0, 0, 0, 0, .null), (.getfield 29, 0, 0, 3, .null), (.iload_n 1, 0, 0, 0, .null), (.iconst 0, 0, 0, 0, .int (0 : Int32))] [] (WW' := [w_Xx G A K s0, w_Ld G (A 2) s1, w_Fk G (A 4) s2]) (lv' := [some (.ref (A 0 0)), some (.int x1), some (.int x2)]) (pc' := 102) (st' := [.int (0 : Int32), .int x1, .ref ((A 4) 0)]) (by decide +kernel) rfl rfl ⟨trivial, ⟨rfl, rfl, zw_2_152⟩, trivial, trivial, trivial⟩ ?_
            refine zr_callV (c_X1_of l G (A 4) s2 x1 (0 : Int32) q2 e2) (WW' := fun _ => [w_Xx G A K s0, w_Ld G (A 2) s1, w_Fk G (A 4) s2]) (st := []) (st' := [.int q2]) [2] rfl rfl (fun _ => Nat.le_of_ble_eq_true rfl) (fun _ => rfl) rfl rfl nm_X1_of zw_4_168 zw_3_142 zw_3_143 zw_1_8 zw_3_142n rfl rfl rfl (Nat.le_of_ble_eq_true rfl) ⟨Nat.le_of_ble_eq_true rfl, Nat.le_of_ble_eq_true rfl⟩ (by decide +kernel) (fun _ => ?_)
            obtain rfl := Option.some.inj hf
            refine zj_toX ?_
            refine zr_widen (k2 := 1) (n2 := 6) (Nat.le_of_ble_eq_true rfl) (Nat.le_of_ble_eq_true rfl) ?_
            exact zr_iret (b0 := fun _ => 0) (by decide +kernel) rfl rfl rfl rfl rfl
          · have hf := ziff hf hc0
            by_cases hc1 : x2 = (1 : Int32)
            · have hf := zift hf hc1
              refine zr_tabIn (v := (1 : Int32)) (tgt := 106) (dflt := 201) (lo := 0) (hi := 12) (offs := #[66, 76, 86, 96, 106, 116, 126, 136, 146, 159, 168, 179, 190]) (len := 66) (off := 76) hc1 (by decide +kernel) (by decide) (by decide) (by decide) ?_
              obtain ⟨q3, e3, hf⟩ := zbi_of hf
              refine zr_run [(.aload_n 0, 0, 0, 0, .null), (.getfield 19, 0, 0, 1, .null), (.iload_n 1, 0, 0, 0, .null), (.iconst 1, 0, 0, 0, .int (1 : Int32))] [] (WW' := [w_Xx G A K s0, w_Ld G (A 2) s1, w_Fk G (A 4) s2]) (lv' := [some (.ref (A 0 0)), some (.int x1), some (.int x2)]) (pc' := 112) (st' := [.int (1 : Int32), .int x1, .ref ((A 2) 0)]) (by decide +kernel) rfl rfl ⟨trivial, ⟨rfl, rfl, zw_2_150⟩, trivial, trivial, trivial⟩ ?_
              refine zr_callV (c_X3_ofMan l G (A 2) s1 x1 (1 : Int32) q3 e3) (WW' := fun _ => [w_Xx G A K s0, w_Ld G (A 2) s1, w_Fk G (A 4) s2]) (st := []) (st' := [.int q3]) [1] rfl rfl (fun _ => Nat.le_of_ble_eq_true rfl) (fun _ => rfl) rfl rfl nm_X3_ofMan zw_4_169 zw_3_67 zw_3_68 zw_1_7 zw_3_67n rfl rfl rfl (Nat.le_of_ble_eq_true rfl) ⟨Nat.le_of_ble_eq_true rfl, Nat.le_of_ble_eq_true rfl⟩ (by decide +kernel) (fun _ => ?_)
              obtain rfl := Option.some.inj hf
              refine zj_toX ?_
              refine zr_widen (k2 := 1) (n2 := 6) (Nat.le_of_ble_eq_true rfl) (Nat.le_of_ble_eq_true rfl) ?_
              exact zr_iret (b0 := fun _ => 0) (by decide +kernel) rfl rfl rfl rfl rfl
            · have hf := ziff hf hc1
              by_cases hc2 : x2 = (2 : Int32)
              · have hf := zift hf hc2
                refine zr_tabIn (v := (2 : Int32)) (tgt := 116) (dflt := 201) (lo := 0) (hi := 12) (offs := #[66, 76, 86, 96, 106, 116, 126, 136, 146, 159, 168, 179, 190]) (len := 66) (off := 86) hc2 (by decide +kernel) (by decide) (by decide) (by decide) ?_
                obtain ⟨q4, e4, hf⟩ := zbi_of hf
                refine zr_run [(.aload_n 0, 0, 0, 0, .null), (.getfield 29, 0, 0, 3, .null), (.iload_n 1, 0, 0, 0, .null), (.iconst 1, 0, 0, 0, .int (1 : Int32))] [] (WW' := [w_Xx G A K s0, w_Ld G (A 2) s1, w_Fk G (A 4) s2]) (lv' := [some (.ref (A 0 0)), some (.int x1), some (.int x2)]) (pc' := 122) (st' := [.int (1 : Int32), .int x1, .ref ((A 4) 0)]) (by decide +kernel) rfl rfl ⟨trivial, ⟨rfl, rfl, zw_2_152⟩, trivial, trivial, trivial⟩ ?_
                refine zr_callV (c_X1_of l G (A 4) s2 x1 (1 : Int32) q4 e4) (WW' := fun _ => [w_Xx G A K s0, w_Ld G (A 2) s1, w_Fk G (A 4) s2]) (st := []) (st' := [.int q4]) [2] rfl rfl (fun _ => Nat.le_of_ble_eq_true rfl) (fun _ => rfl) rfl rfl nm_X1_of zw_4_168 zw_3_142 zw_3_143 zw_1_8 zw_3_142n rfl rfl rfl (Nat.le_of_ble_eq_true rfl) ⟨Nat.le_of_ble_eq_true rfl, Nat.le_of_ble_eq_true rfl⟩ (by decide +kernel) (fun _ => ?_)
                obtain rfl := Option.some.inj hf
                refine zj_toX ?_
                refine zr_widen (k2 := 1) (n2 := 6) (Nat.le_of_ble_eq_true rfl) (Nat.le_of_ble_eq_true rfl) ?_
                exact zr_iret (b0 := fun _ => 0) (by decide +kernel) rfl rfl rfl rfl rfl
              · have hf := ziff hf hc2
                by_cases hc3 : x2 = (3 : Int32)
                · have hf := zift hf hc3
                  refine zr_tabIn (v := (3 : Int32)) (tgt := 126) (dflt := 201) (lo := 0) (hi := 12) (offs := #[66, 76, 86, 96, 106, 116, 126, 136, 146, 159, 168, 179, 190]) (len := 66) (off := 96) hc3 (by decide +kernel) (by decide) (by decide) (by decide) ?_
                  obtain ⟨q5, e5, hf⟩ := zbi_of hf
                  refine zr_run [(.aload_n 0, 0, 0, 0, .null), (.getfield 19, 0, 0, 1, .null), (.iload_n 1, 0, 0, 0, .null), (.iconst 3, 0, 0, 0, .int (3 : Int32))] [] (WW' := [w_Xx G A K s0, w_Ld G (A 2) s1, w_Fk G (A 4) s2]) (lv' := [some (.ref (A 0 0)), some (.int x1), some (.int x2)]) (pc' := 132) (st' := [.int (3 : Int32), .int x1, .ref ((A 2) 0)]) (by decide +kernel) rfl rfl ⟨trivial, ⟨rfl, rfl, zw_2_150⟩, trivial, trivial, trivial⟩ ?_
                  refine zr_callV (c_X3_ofMan l G (A 2) s1 x1 (3 : Int32) q5 e5) (WW' := fun _ => [w_Xx G A K s0, w_Ld G (A 2) s1, w_Fk G (A 4) s2]) (st := []) (st' := [.int q5]) [1] rfl rfl (fun _ => Nat.le_of_ble_eq_true rfl) (fun _ => rfl) rfl rfl nm_X3_ofMan zw_4_169 zw_3_67 zw_3_68 zw_1_7 zw_3_67n rfl rfl rfl (Nat.le_of_ble_eq_true rfl) ⟨Nat.le_of_ble_eq_true rfl, Nat.le_of_ble_eq_true rfl⟩ (by decide +kernel) (fun _ => ?_)
                  obtain rfl := Option.some.inj hf
                  refine zj_toX ?_
                  refine zr_widen (k2 := 1) (n2 := 6) (Nat.le_of_ble_eq_true rfl) (Nat.le_of_ble_eq_true rfl) ?_
                  exact zr_iret (b0 := fun _ => 0) (by decide +kernel) rfl rfl rfl rfl rfl
                · have hf := ziff hf hc3
                  by_cases hc4 : x2 = (4 : Int32)
                  · have hf := zift hf hc4
                    refine zr_tabIn (v := (4 : Int32)) (tgt := 136) (dflt := 201) (lo := 0) (hi := 12) (offs := #[66, 76, 86, 96, 106, 116, 126, 136, 146, 159, 168, 179, 190]) (len := 66) (off := 106) hc4 (by decide +kernel) (by decide) (by decide) (by decide) ?_
                    obtain ⟨q6, e6, hf⟩ := zbi_of hf
                    refine zr_run [(.aload_n 0, 0, 0, 0, .null), (.getfield 29, 0, 0, 3, .null), (.iload_n 1, 0, 0, 0, .null), (.iconst 2, 0, 0, 0, .int (2 : Int32))] [] (WW' := [w_Xx G A K s0, w_Ld G (A 2) s1, w_Fk G (A 4) s2]) (lv' := [some (.ref (A 0 0)), some (.int x1), some (.int x2)]) (pc' := 142) (st' := [.int (2 : Int32), .int x1, .ref ((A 4) 0)]) (by decide +kernel) rfl rfl ⟨trivial, ⟨rfl, rfl, zw_2_152⟩, trivial, trivial, trivial⟩ ?_
                    refine zr_callV (c_X1_of l G (A 4) s2 x1 (2 : Int32) q6 e6) (WW' := fun _ => [w_Xx G A K s0, w_Ld G (A 2) s1, w_Fk G (A 4) s2]) (st := []) (st' := [.int q6]) [2] rfl rfl (fun _ => Nat.le_of_ble_eq_true rfl) (fun _ => rfl) rfl rfl nm_X1_of zw_4_168 zw_3_142 zw_3_143 zw_1_8 zw_3_142n rfl rfl rfl (Nat.le_of_ble_eq_true rfl) ⟨Nat.le_of_ble_eq_true rfl, Nat.le_of_ble_eq_true rfl⟩ (by decide +kernel) (fun _ => ?_)
                    obtain rfl := Option.some.inj hf
                    refine zj_toX ?_
                    refine zr_widen (k2 := 1) (n2 := 6) (Nat.le_of_ble_eq_true rfl) (Nat.le_of_ble_eq_true rfl) ?_
                    exact zr_iret (b0 := fun _ => 0) (by decide +kernel) rfl rfl rfl rfl rfl
                  · have hf := ziff hf hc4
                    by_cases hc5 : x2 = (5 : Int32)
                    · have hf := zift hf hc5
                      refine zr_tabIn (v := (5 : Int32)) (tgt := 146) (dflt := 201) (lo := 0) (hi := 12) (offs := #[66, 76, 86, 96, 106, 116, 126, 136, 146, 159, 168, 179, 190]) (len := 66) (off := 116) hc5 (by decide +kernel) (by decide) (by decide) (by decide) ?_
                      obtain ⟨q7, e7, hf⟩ := zbi_of hf
                      refine zr_run [(.aload_n 0, 0, 0, 0, .null), (.getfield 29, 0, 0, 3, .null), (.iload_n 1, 0, 0, 0, .null), (.iconst 3, 0, 0, 0, .int (3 : Int32))] [] (WW' := [w_Xx G A K s0, w_Ld G (A 2) s1, w_Fk G (A 4) s2]) (lv' := [some (.ref (A 0 0)), some (.int x1), some (.int x2)]) (pc' := 152) (st' := [.int (3 : Int32), .int x1, .ref ((A 4) 0)]) (by decide +kernel) rfl rfl ⟨trivial, ⟨rfl, rfl, zw_2_152⟩, trivial, trivial, trivial⟩ ?_
                      refine zr_callV (c_X1_of l G (A 4) s2 x1 (3 : Int32) q7 e7) (WW' := fun _ => [w_Xx G A K s0, w_Ld G (A 2) s1, w_Fk G (A 4) s2]) (st := []) (st' := [.int q7]) [2] rfl rfl (fun _ => Nat.le_of_ble_eq_true rfl) (fun _ => rfl) rfl rfl nm_X1_of zw_4_168 zw_3_142 zw_3_143 zw_1_8 zw_3_142n rfl rfl rfl (Nat.le_of_ble_eq_true rfl) ⟨Nat.le_of_ble_eq_true rfl, Nat.le_of_ble_eq_true rfl⟩ (by decide +kernel) (fun _ => ?_)
                      obtain rfl := Option.some.inj hf
                      refine zj_toX ?_
                      refine zr_widen (k2 := 1) (n2 := 6) (Nat.le_of_ble_eq_true rfl) (Nat.le_of_ble_eq_true rfl) ?_
                      exact zr_iret (b0 := fun _ => 0) (by decide +kernel) rfl rfl rfl rfl rfl
                    · have hf := ziff hf hc5
                      by_cases hc6 : x2 = (6 : Int32)
                      · have hf := zift hf hc6
                        refine zr_tabIn (v := (6 : Int32)) (tgt := 156) (dflt := 201) (lo := 0) (hi := 12) (offs := #[66, 76, 86, 96, 106, 116, 126, 136, 146, 159, 168, 179, 190]) (len := 66) (off := 126) hc6 (by decide +kernel) (by decide) (by decide) (by decide) ?_
                        obtain ⟨q8, e8, hf⟩ := zbi_of hf
                        refine zr_run [(.aload_n 0, 0, 0, 0, .null), (.getfield 29, 0, 0, 3, .null), (.iload_n 1, 0, 0, 0, .null), (.iconst 4, 0, 0, 0, .int (4 : Int32))] [] (WW' := [w_Xx G A K s0, w_Ld G (A 2) s1, w_Fk G (A 4) s2]) (lv' := [some (.ref (A 0 0)), some (.int x1), some (.int x2)]) (pc' := 162) (st' := [.int (4 : Int32), .int x1, .ref ((A 4) 0)]) (by decide +kernel) rfl rfl ⟨trivial, ⟨rfl, rfl, zw_2_152⟩, trivial, trivial, trivial⟩ ?_
                        refine zr_callV (c_X1_of l G (A 4) s2 x1 (4 : Int32) q8 e8) (WW' := fun _ => [w_Xx G A K s0, w_Ld G (A 2) s1, w_Fk G (A 4) s2]) (st := []) (st' := [.int q8]) [2] rfl rfl (fun _ => Nat.le_of_ble_eq_true rfl) (fun _ => rfl) rfl rfl nm_X1_of zw_4_168 zw_3_142 zw_3_143 zw_1_8 zw_3_142n rfl rfl rfl (Nat.le_of_ble_eq_true rfl) ⟨Nat.le_of_ble_eq_true rfl, Nat.le_of_ble_eq_true rfl⟩ (by decide +kernel) (fun _ => ?_)
                        obtain rfl := Option.some.inj hf
                        refine zj_toX ?_
                        refine zr_widen (k2 := 1) (n2 := 6) (Nat.le_of_ble_eq_true rfl) (Nat.le_of_ble_eq_true rfl) ?_
                        exact zr_iret (b0 := fun _ => 0) (by decide +kernel) rfl rfl rfl rfl rfl
                      · have hf := ziff hf hc6
                        by_cases hc7 : x2 = (7 : Int32)
                        · have hf := zift hf hc7
                          refine zr_tabIn (v := (7 : Int32)) (tgt := 166) (dflt := 201) (lo := 0) (hi := 12) (offs := #[66, 76, 86, 96, 106, 116, 126, 136, 146, 159, 168, 179, 190]) (len := 66) (off := 136) hc7 (by decide +kernel) (by decide) (by decide) (by decide) ?_
                          obtain ⟨q9, e9, hf⟩ := zbi_of hf
                          refine zr_run [(.aload_n 0, 0, 0, 0, .null), (.getfield 29, 0, 0, 3, .null), (.iload_n 1, 0, 0, 0, .null), (.iconst 5, 0, 0, 0, .int (5 : Int32))] [] (WW' := [w_Xx G A K s0, w_Ld G (A 2) s1, w_Fk G (A 4) s2]) (lv' := [some (.ref (A 0 0)), some (.int x1), some (.int x2)]) (pc' := 172) (st' := [.int (5 : Int32), .int x1, .ref ((A 4) 0)]) (by decide +kernel) rfl rfl ⟨trivial, ⟨rfl, rfl, zw_2_152⟩, trivial, trivial, trivial⟩ ?_
                          refine zr_callV (c_X1_of l G (A 4) s2 x1 (5 : Int32) q9 e9) (WW' := fun _ => [w_Xx G A K s0, w_Ld G (A 2) s1, w_Fk G (A 4) s2]) (st := []) (st' := [.int q9]) [2] rfl rfl (fun _ => Nat.le_of_ble_eq_true rfl) (fun _ => rfl) rfl rfl nm_X1_of zw_4_168 zw_3_142 zw_3_143 zw_1_8 zw_3_142n rfl rfl rfl (Nat.le_of_ble_eq_true rfl) ⟨Nat.le_of_ble_eq_true rfl, Nat.le_of_ble_eq_true rfl⟩ (by decide +kernel) (fun _ => ?_)
                          obtain rfl := Option.some.inj hf
                          refine zj_toX ?_
                          refine zr_widen (k2 := 1) (n2 := 6) (Nat.le_of_ble_eq_true rfl) (Nat.le_of_ble_eq_true rfl) ?_
                          exact zr_iret (b0 := fun _ => 0) (by decide +kernel) rfl rfl rfl rfl rfl
                        · have hf := ziff hf hc7
                          by_cases hc8 : x2 = (8 : Int32)
                          · have hf := zift hf hc8
                            refine zr_tabIn (v := (8 : Int32)) (tgt := 176) (dflt := 201) (lo := 0) (hi := 12) (offs := #[66, 76, 86, 96, 106, 116, 126, 136, 146, 159, 168, 179, 190]) (len := 66) (off := 146) hc8 (by decide +kernel) (by decide) (by decide) (by decide) ?_
                            obtain ⟨q10, e10, hf⟩ := zbi_of hf
                            refine zr_run [(.aload_n 0, 0, 0, 0, .null), (.getfield 29, 0, 0, 3, .null), (.aload_n 0, 0, 0, 0, .null), (.getfield 19, 0, 0, 1, .null), (.iload_n 1, 0, 0, 0, .null)] [] (WW' := [w_Xx G A K s0, w_Ld G (A 2) s1, w_Fk G (A 4) s2]) (lv' := [some (.ref (A 0 0)), some (.int x1), some (.int x2)]) (pc' := 185) (st' := [.int x1, .ref ((A 2) 0), .ref ((A 4) 0)]) (by decide +kernel) rfl rfl ⟨trivial, ⟨rfl, rfl, zw_2_152⟩, trivial, ⟨rfl, rfl, zw_2_150⟩, trivial, trivial⟩ ?_
                            refine zr_callV (c_X1_allMiles l G (A 4) (A 2) s2 s1 x1 q10 e10) (WW' := fun _ => [w_Xx G A K s0, w_Ld G (A 2) s1, w_Fk G (A 4) s2]) (st := []) (st' := [.int q10]) [2, 1] rfl rfl (fun _ => Nat.le_of_ble_eq_true rfl) (fun _ => rfl) rfl rfl nm_X1_allMiles zw_4_170 zw_4_28 zw_4_29 zw_1_8 zw_4_30 rfl rfl rfl (Nat.le_of_ble_eq_true rfl) ⟨Nat.le_of_ble_eq_true rfl, Nat.le_of_ble_eq_true rfl⟩ (by decide +kernel) (fun _ => ?_)
                            obtain rfl := Option.some.inj hf
                            refine zj_toX ?_
                            refine zr_widen (k2 := 1) (n2 := 6) (Nat.le_of_ble_eq_true rfl) (Nat.le_of_ble_eq_true rfl) ?_
                            exact zr_iret (b0 := fun _ => 0) (by decide +kernel) rfl rfl rfl rfl rfl
                          · have hf := ziff hf hc8
                            by_cases hc9 : x2 = (9 : Int32)
                            · have hf := zift hf hc9
                              refine zr_tabIn (v := (9 : Int32)) (tgt := 189) (dflt := 201) (lo := 0) (hi := 12) (offs := #[66, 76, 86, 96, 106, 116, 126, 136, 146, 159, 168, 179, 190]) (len := 66) (off := 159) hc9 (by decide +kernel) (by decide) (by decide) (by decide) ?_
                              obtain ⟨q11, e11, hf⟩ := zbi_of hf
                              refine zr_run [(.aload_n 0, 0, 0, 0, .null), (.getfield 29, 0, 0, 3, .null), (.iload_n 1, 0, 0, 0, .null)] [] (WW' := [w_Xx G A K s0, w_Ld G (A 2) s1, w_Fk G (A 4) s2]) (lv' := [some (.ref (A 0 0)), some (.int x1), some (.int x2)]) (pc' := 194) (st' := [.int x1, .ref ((A 4) 0)]) (by decide +kernel) rfl rfl ⟨trivial, ⟨rfl, rfl, zw_2_152⟩, trivial, trivial⟩ ?_
                              refine zr_callV (c_X1_daysYet l G (A 4) s2 x1 q11 e11) (WW' := fun _ => [w_Xx G A K s0, w_Ld G (A 2) s1, w_Fk G (A 4) s2]) (st := []) (st' := [.int q11]) [2] rfl rfl (fun _ => Nat.le_of_ble_eq_true rfl) (fun _ => rfl) rfl rfl nm_X1_daysYet zw_4_209 zw_4_210 zw_4_211 zw_1_8 zw_4_212 rfl rfl rfl (Nat.le_of_ble_eq_true rfl) ⟨Nat.le_of_ble_eq_true rfl, Nat.le_of_ble_eq_true rfl⟩ (by decide +kernel) (fun _ => ?_)
                              obtain rfl := Option.some.inj hf
                              refine zj_toX ?_
                              refine zr_widen (k2 := 1) (n2 := 6) (Nat.le_of_ble_eq_true rfl) (Nat.le_of_ble_eq_true rfl) ?_
                              exact zr_iret (b0 := fun _ => 0) (by decide +kernel) rfl rfl rfl rfl rfl
                            · have hf := ziff hf hc9
                              by_cases hc10 : x2 = (10 : Int32)
                              · have hf := zift hf hc10
                                refine zr_tabIn (v := (10 : Int32)) (tgt := 198) (dflt := 201) (lo := 0) (hi := 12) (offs := #[66, 76, 86, 96, 106, 116, 126, 136, 146, 159, 168, 179, 190]) (len := 66) (off := 168) hc10 (by decide +kernel) (by decide) (by decide) (by decide) ?_
                                obtain ⟨q12, e12, hf⟩ := zbi_of hf
                                refine zr_run [(.aload_n 0, 0, 0, 0, .null), (.getfield 29, 0, 0, 3, .null), (.iload_n 1, 0, 0, 0, .null), (.bipush 7, 0, 0, 0, .int (7 : Int32))] [] (WW' := [w_Xx G A K s0, w_Ld G (A 2) s1, w_Fk G (A 4) s2]) (lv' := [some (.ref (A 0 0)), some (.int x1), some (.int x2)]) (pc' := 205) (st' := [.int (7 : Int32), .int x1, .ref ((A 4) 0)]) (by decide +kernel) rfl rfl ⟨trivial, ⟨rfl, rfl, zw_2_152⟩, trivial, trivial, trivial⟩ ?_
                                refine zr_callV (c_X1_of l G (A 4) s2 x1 (7 : Int32) q12 e12) (WW' := fun _ => [w_Xx G A K s0, w_Ld G (A 2) s1, w_Fk G (A 4) s2]) (st := []) (st' := [.int q12]) [2] rfl rfl (fun _ => Nat.le_of_ble_eq_true rfl) (fun _ => rfl) rfl rfl nm_X1_of zw_4_168 zw_3_142 zw_3_143 zw_1_8 zw_3_142n rfl rfl rfl (Nat.le_of_ble_eq_true rfl) ⟨Nat.le_of_ble_eq_true rfl, Nat.le_of_ble_eq_true rfl⟩ (by decide +kernel) (fun _ => ?_)
                                obtain rfl := Option.some.inj hf
                                refine zj_toX ?_
                                refine zr_widen (k2 := 1) (n2 := 6) (Nat.le_of_ble_eq_true rfl) (Nat.le_of_ble_eq_true rfl) ?_
                                exact zr_iret (b0 := fun _ => 0) (by decide +kernel) rfl rfl rfl rfl rfl
                              · have hf := ziff hf hc10
                                by_cases hc11 : x2 = (11 : Int32)
                                · have hf := zift hf hc11
                                  refine zr_tabIn (v := (11 : Int32)) (tgt := 209) (dflt := 201) (lo := 0) (hi := 12) (offs := #[66, 76, 86, 96, 106, 116, 126, 136, 146, 159, 168, 179, 190]) (len := 66) (off := 179) hc11 (by decide +kernel) (by decide) (by decide) (by decide) ?_
                                  obtain ⟨q13, e13, hf⟩ := zbi_of hf
                                  refine zr_run [(.aload_n 0, 0, 0, 0, .null), (.getfield 29, 0, 0, 3, .null), (.iload_n 1, 0, 0, 0, .null), (.bipush 8, 0, 0, 0, .int (8 : Int32))] [] (WW' := [w_Xx G A K s0, w_Ld G (A 2) s1, w_Fk G (A 4) s2]) (lv' := [some (.ref (A 0 0)), some (.int x1), some (.int x2)]) (pc' := 216) (st' := [.int (8 : Int32), .int x1, .ref ((A 4) 0)]) (by decide +kernel) rfl rfl ⟨trivial, ⟨rfl, rfl, zw_2_152⟩, trivial, trivial, trivial⟩ ?_
                                  refine zr_callV (c_X1_of l G (A 4) s2 x1 (8 : Int32) q13 e13) (WW' := fun _ => [w_Xx G A K s0, w_Ld G (A 2) s1, w_Fk G (A 4) s2]) (st := []) (st' := [.int q13]) [2] rfl rfl (fun _ => Nat.le_of_ble_eq_true rfl) (fun _ => rfl) rfl rfl nm_X1_of zw_4_168 zw_3_142 zw_3_143 zw_1_8 zw_3_142n rfl rfl rfl (Nat.le_of_ble_eq_true rfl) ⟨Nat.le_of_ble_eq_true rfl, Nat.le_of_ble_eq_true rfl⟩ (by decide +kernel) (fun _ => ?_)
                                  obtain rfl := Option.some.inj hf
                                  refine zj_toX ?_
                                  refine zr_widen (k2 := 1) (n2 := 6) (Nat.le_of_ble_eq_true rfl) (Nat.le_of_ble_eq_true rfl) ?_
                                  exact zr_iret (b0 := fun _ => 0) (by decide +kernel) rfl rfl rfl rfl rfl
                                · have hf := ziff hf hc11
                                  by_cases hc12 : x2 = (12 : Int32)
                                  · have hf := zift hf hc12
                                    refine zr_tabIn (v := (12 : Int32)) (tgt := 220) (dflt := 201) (lo := 0) (hi := 12) (offs := #[66, 76, 86, 96, 106, 116, 126, 136, 146, 159, 168, 179, 190]) (len := 66) (off := 190) hc12 (by decide +kernel) (by decide) (by decide) (by decide) ?_
                                    obtain ⟨q14, e14, hf⟩ := zbi_of hf
                                    refine zr_run [(.aload_n 0, 0, 0, 0, .null), (.getfield 29, 0, 0, 3, .null), (.iload_n 1, 0, 0, 0, .null), (.bipush 9, 0, 0, 0, .int (9 : Int32))] [] (WW' := [w_Xx G A K s0, w_Ld G (A 2) s1, w_Fk G (A 4) s2]) (lv' := [some (.ref (A 0 0)), some (.int x1), some (.int x2)]) (pc' := 227) (st' := [.int (9 : Int32), .int x1, .ref ((A 4) 0)]) (by decide +kernel) rfl rfl ⟨trivial, ⟨rfl, rfl, zw_2_152⟩, trivial, trivial, trivial⟩ ?_
                                    refine zr_callV (c_X1_of l G (A 4) s2 x1 (9 : Int32) q14 e14) (WW' := fun _ => [w_Xx G A K s0, w_Ld G (A 2) s1, w_Fk G (A 4) s2]) (st := []) (st' := [.int q14]) [2] rfl rfl (fun _ => Nat.le_of_ble_eq_true rfl) (fun _ => rfl) rfl rfl nm_X1_of zw_4_168 zw_3_142 zw_3_143 zw_1_8 zw_3_142n rfl rfl rfl (Nat.le_of_ble_eq_true rfl) ⟨Nat.le_of_ble_eq_true rfl, Nat.le_of_ble_eq_true rfl⟩ (by decide +kernel) (fun _ => ?_)
                                    obtain rfl := Option.some.inj hf
                                    refine zj_toX ?_
                                    refine zr_widen (k2 := 1) (n2 := 6) (Nat.le_of_ble_eq_true rfl) (Nat.le_of_ble_eq_true rfl) ?_
                                    exact zr_iret (b0 := fun _ => 0) (by decide +kernel) rfl rfl rfl rfl rfl
                                  · have hf := ziff hf hc12
                                    refine zr_tabOut (tgt := 231) (dflt := 201) (lo := 0) (hi := 12) (offs := #[66, 76, 86, 96, 106, 116, 126, 136, 146, 159, 168, 179, 190]) (len := 66) (by decide +kernel) (by have q0 := lv_neT hc0 (a := 0) (by decide); have q1 := lv_neT hc1 (a := 1) (by decide); have q2 := lv_neT hc2 (a := 2) (by decide); have q3 := lv_neT hc3 (a := 3) (by decide); have q4 := lv_neT hc4 (a := 4) (by decide); have q5 := lv_neT hc5 (a := 5) (by decide); have q6 := lv_neT hc6 (a := 6) (by decide); have q7 := lv_neT hc7 (a := 7) (by decide); have q8 := lv_neT hc8 (a := 8) (by decide); have q9 := lv_neT hc9 (a := 9) (by decide); have q10 := lv_neT hc10 (a := 10) (by decide); have q11 := lv_neT hc11 (a := 11) (by decide); have q12 := lv_neT hc12 (a := 12) (by decide); omega) (by decide) ?_
                                    obtain ⟨q15, e15, hf⟩ := zbi_of hf
                                    refine zr_run [(.aload_n 0, 0, 0, 0, .null), (.getfield 29, 0, 0, 3, .null), (.iload_n 1, 0, 0, 0, .null), (.bipush 10, 0, 0, 0, .int (10 : Int32))] [] (WW' := [w_Xx G A K s0, w_Ld G (A 2) s1, w_Fk G (A 4) s2]) (lv' := [some (.ref (A 0 0)), some (.int x1), some (.int x2)]) (pc' := 238) (st' := [.int (10 : Int32), .int x1, .ref ((A 4) 0)]) (by decide +kernel) rfl rfl ⟨trivial, ⟨rfl, rfl, zw_2_152⟩, trivial, trivial, trivial⟩ ?_
                                    refine zr_callV (c_X1_of l G (A 4) s2 x1 (10 : Int32) q15 e15) (WW' := fun _ => [w_Xx G A K s0, w_Ld G (A 2) s1, w_Fk G (A 4) s2]) (st := []) (st' := [.int q15]) [2] rfl rfl (fun _ => Nat.le_of_ble_eq_true rfl) (fun _ => rfl) rfl rfl nm_X1_of zw_4_168 zw_3_142 zw_3_143 zw_1_8 zw_3_142n rfl rfl rfl (Nat.le_of_ble_eq_true rfl) ⟨Nat.le_of_ble_eq_true rfl, Nat.le_of_ble_eq_true rfl⟩ (by decide +kernel) (fun _ => ?_)
                                    obtain rfl := Option.some.inj hf
                                    refine zj_toX ?_
                                    refine zr_widen (k2 := 1) (n2 := 6) (Nat.le_of_ble_eq_true rfl) (Nat.le_of_ble_eq_true rfl) ?_
                                    exact zr_iret (b0 := fun _ => 0) (by decide +kernel) rfl rfl rfl rfl rfl
  exact zj_entryX [some (.ref (A 0 0)), some (.int x1), some (.int x2)] (by decide +kernel) rfl (by decide) (Nat.le_of_ble_eq_true rfl) rfl rfl (key _)
def M_X11_now : zj_M := (RX11, cX11_now, 2, (some .int), { frames := 2, cells := 0, slots := 0, locals := 47 }, false)
theorem nm_X11_now : zj_nm yX11_now 1 := ⟨by decide +kernel, by decide +kernel, by decide +kernel⟩
def f_X11_now_b23  (s0 : XxT) (s1 : FkT) (s2 : LdT)   : Option (Int32) := some (-1 : Int32)
def f_X11_now  (s0 : XxT) (s1 : FkT) (s2 : LdT) (x1 : Int32) : Option (Int32) := (if x1 = 0 then ((f_X1_today s1).bind fun q1 => some q1) else (if x1 < (1 : Int32) then f_X11_now_b23 s0 s1 s2 else (if (6 : Int32) < x1 then f_X11_now_b23 s0 s1 s2 else ((f_X1_menWho s1 (Ld_men s2) (x1 - (1 : Int32))).bind fun q2 => some q2))))
set_option maxRecDepth 100000 in
set_option maxHeartbeats 4000000 in
theorem t_X11_now_b23 (l : Launch) (G : zj_G) (A : Nat → Nat → Nat) (K : Nat → Nat → Option Nat) (W0 : List va_W) (r : Int32) (s0 : XxT) (s1 : FkT) (s2 : LdT)    (hf : f_X11_now_b23 s0 s1 s2 = some r) : zj_J l G M_X11_now W0 (zj_ret G M_X11_now W0 (some (.int r)) (fun _ => [w_Xx G A K s0, w_Fk G (A 4) s1, w_Ld G (A 2) s2])) 0 0 [w_Xx G A K s0, w_Fk G (A 4) s1, w_Ld G (A 2) s2] [none, none] 23 [] := by
  unfold f_X11_now_b23 at hf
  refine zr_run [(.iconst (-1), 0, 0, 0, .int (-1 : Int32))] [] (WW' := [w_Xx G A K s0, w_Fk G (A 4) s1, w_Ld G (A 2) s2]) (lv' := [none, none]) (pc' := 24) (st' := [.int (-1 : Int32)]) (by decide +kernel) rfl rfl ⟨trivial, trivial⟩ ?_
  refine zr_goto (off := 20) (tgt := 44) (by decide +kernel) (by decide) ?_
  obtain rfl := Option.some.inj hf
  exact zr_iret (b0 := fun _ => 0) (by decide +kernel) rfl rfl rfl rfl rfl
set_option maxRecDepth 100000 in
set_option maxHeartbeats 4000000 in
theorem c_X11_now (l : Launch) (G : zj_G) (A : Nat → Nat → Nat) (K : Nat → Nat → Option Nat) (s0 : XxT) (s1 : FkT) (s2 : LdT) (x1 : Int32) (r : Int32) (hf : f_X11_now s0 s1 s2 x1 = some r) : zj_C l G M_X11_now yX11_now [w_Xx G A K s0, w_Fk G (A 4) s1, w_Ld G (A 2) s2] [.ref (A 0 0), .int x1] (some (.int r)) (fun _ => [w_Xx G A K s0, w_Fk G (A 4) s1, w_Ld G (A 2) s2]) := by
  have key : ∀ W0 : List va_W, zj_J l G M_X11_now W0 (zj_ret G M_X11_now W0 (some (.int r)) (fun _ => [w_Xx G A K s0, w_Fk G (A 4) s1, w_Ld G (A 2) s2])) 0 0 [w_Xx G A K s0, w_Fk G (A 4) s1, w_Ld G (A 2) s2] [some (.ref (A 0 0)), some (.int x1)] 0 [] := by
    intro W0
    unfold f_X11_now at hf
    refine zr_run [(.iload_n 1, 0, 0, 0, .null)] [] (WW' := [w_Xx G A K s0, w_Fk G (A 4) s1, w_Ld G (A 2) s2]) (lv' := [some (.ref (A 0 0)), some (.int x1)]) (pc' := 1) (st' := [.int x1]) (by decide +kernel) rfl rfl ⟨trivial, trivial⟩ ?_
    refine zr_if_ne (off := 11) (tgt := 12) (by decide +kernel) (by decide) (fun hc => ?_) (fun hc => ?_)
    · have hf := zift hf hc
      obtain ⟨q1, e1, hf⟩ := zbi_of hf
      refine zr_run [(.aload_n 0, 0, 0, 0, .null), (.getfield 29, 0, 0, 3, .null)] [] (WW' := [w_Xx G A K s0, w_Fk G (A 4) s1, w_Ld G (A 2) s2]) (lv' := [some (.ref (A 0 0)), some (.int x1)]) (pc' := 8) (st' := [.ref ((A 4) 0)]) (by decide +kernel) rfl rfl ⟨trivial, ⟨rfl, rfl, zw_2_152⟩, trivial⟩ ?_
      refine zr_callV (c_X1_today l G (A 4) s1 q1 e1) (WW' := fun _ => [w_Xx G A K s0, w_Fk G (A 4) s1, w_Ld G (A 2) s2]) (st := []) (st' := [.int q1]) [1] rfl rfl (fun _ => Nat.le_of_ble_eq_true rfl) (fun _ => rfl) rfl rfl nm_X1_today zw_3_156 zw_3_157 zw_3_158 zw_1_8 zw_3_159 rfl rfl rfl (Nat.le_of_ble_eq_true rfl) ⟨Nat.le_of_ble_eq_true rfl, Nat.le_of_ble_eq_true rfl⟩ (by decide +kernel) (fun _ => ?_)
      obtain rfl := Option.some.inj hf
      exact zr_iret (b0 := fun _ => 0) (by decide +kernel) rfl rfl rfl rfl rfl
    · have hf := ziff hf hc
      refine zr_run [(.iload_n 1, 0, 0, 0, .null), (.iconst 1, 0, 0, 0, .int (1 : Int32))] [] (WW' := [w_Xx G A K s0, w_Fk G (A 4) s1, w_Ld G (A 2) s2]) (lv' := [some (.ref (A 0 0)), some (.int x1)]) (pc' := 14) (st' := [.int (1 : Int32), .int x1]) (by decide +kernel) rfl rfl ⟨trivial, trivial, trivial⟩ ?_
      refine zr_icmp_lt (off := 9) (tgt := 23) (by decide +kernel) (by decide) (fun hc => ?_) (fun hc => ?_)
      · have hf := zift hf hc
        refine zr_run [] [0, 1] (WW' := [w_Xx G A K s0, w_Fk G (A 4) s1, w_Ld G (A 2) s2]) (lv' := [none, none]) (pc' := 23) (st' := []) (by decide +kernel) rfl rfl trivial ?_
        exact t_X11_now_b23 l G A K W0 r s0 s1 s2 hf
      · have hf := ziff hf hc
        refine zr_run [(.iload_n 1, 0, 0, 0, .null), (.bipush 6, 0, 0, 0, .int (6 : Int32))] [] (WW' := [w_Xx G A K s0, w_Fk G (A 4) s1, w_Ld G (A 2) s2]) (lv' := [some (.ref (A 0 0)), some (.int x1)]) (pc' := 20) (st' := [.int (6 : Int32), .int x1]) (by decide +kernel) rfl rfl ⟨trivial, trivial, trivial⟩ ?_
        refine zr_icmp_le (off := 7) (tgt := 27) (by decide +kernel) (by decide) (fun hc => ?_) (fun hc => ?_)
        · have hf := zift hf hc
          refine zr_run [] [0, 1] (WW' := [w_Xx G A K s0, w_Fk G (A 4) s1, w_Ld G (A 2) s2]) (lv' := [none, none]) (pc' := 23) (st' := []) (by decide +kernel) rfl rfl trivial ?_
          exact t_X11_now_b23 l G A K W0 r s0 s1 s2 hf
        · have hf := ziff hf hc
          obtain ⟨q2, e2, hf⟩ := zbi_of hf
          refine zr_run [(.aload_n 0, 0, 0, 0, .null), (.getfield 29, 0, 0, 3, .null), (.aload_n 0, 0, 0, 0, .null), (.getfield 19, 0, 0, 1, .null), (.getfield 153, 2, 0, 2, .null), (.iload_n 1, 0, 0, 0, .null), (.iconst 1, 0, 0, 0, .int (1 : Int32)), (.isub, 0, 0, 0, .null)] [] (WW' := [w_Xx G A K s0, w_Fk G (A 4) s1, w_Ld G (A 2) s2]) (lv' := [some (.ref (A 0 0)), some (.int x1)]) (pc' := 41) (st' := [.int (x1 - (1 : Int32)), .int (Ld_men s2), .ref ((A 4) 0)]) (by decide +kernel) rfl rfl ⟨trivial, ⟨rfl, rfl, zw_2_152⟩, trivial, ⟨rfl, rfl, zw_2_150⟩, ⟨rfl, rfl, zw_1_162⟩, trivial, trivial, trivial, trivial⟩ ?_
          refine zr_callV (c_X1_menWho l G (A 4) s1 (Ld_men s2) (x1 - (1 : Int32)) q2 e2) (WW' := fun _ => [w_Xx G A K s0, w_Fk G (A 4) s1, w_Ld G (A 2) s2]) (st := []) (st' := [.int q2]) [1] rfl rfl (fun _ => Nat.le_of_ble_eq_true rfl) (fun _ => rfl) rfl rfl nm_X1_menWho zw_3_160 zw_3_161 zw_3_162 zw_1_8 zw_3_163 rfl rfl rfl (Nat.le_of_ble_eq_true rfl) ⟨Nat.le_of_ble_eq_true rfl, Nat.le_of_ble_eq_true rfl⟩ (by decide +kernel) (fun _ => ?_)
          obtain rfl := Option.some.inj hf
          exact zr_iret (b0 := fun _ => 0) (by decide +kernel) rfl rfl rfl rfl rfl
  exact zj_entry [some (.ref (A 0 0)), some (.int x1)] (by decide +kernel) rfl (by decide) (Nat.le_of_ble_eq_true rfl) rfl rfl (key _)
def M_X11_keptIfDone : zj_M := (RX11, cX11_keptIfDone, 2, (some .int), { frames := 3, cells := 0, slots := 0, locals := 102 }, false)
theorem nm_X11_keptIfDone : zj_nm yX11_keptIfDone 1 := ⟨by decide +kernel, by decide +kernel, by decide +kernel⟩
def f_X11_keptIfDone  (s0 : XxT) (s1 : HiT) (s2 : FkT) (s3 : H8T) (x1 : Int32) : Option (Int32 × HiT × H8T) := (if x1 = 0 then ((f_X2_keep s1 s3 s2).bind fun q1 => some (x1, q1.1, q1.2)) else some (x1, s1, s3))
set_option maxRecDepth 100000 in
set_option maxHeartbeats 4000000 in
theorem c_X11_keptIfDone (l : Launch) (G : zj_G) (A : Nat → Nat → Nat) (K : Nat → Nat → Option Nat) (s0 : XxT) (s1 : HiT) (s2 : FkT) (s3 : H8T) (x1 : Int32) (r : Int32 × HiT × H8T) (hf : f_X11_keptIfDone s0 s1 s2 s3 x1 = some r) : zj_C l G M_X11_keptIfDone yX11_keptIfDone [w_Xx G A K s0, w_Hi G (A 8) (fun i => A (9 + i)) s1, w_Fk G (A 5) s2, w_H8 G (fun i => A (9 + i)) s3] [.ref (A 0 0), .int x1] (some (.int r.1)) (fun _ => [w_Xx G A K s0, w_Hi G (A 8) (fun i => A (9 + i)) r.2.1, w_Fk G (A 5) s2, w_H8 G (fun i => A (9 + i)) r.2.2]) := by
  have key : ∀ W0 : List va_W, zj_J l G M_X11_keptIfDone W0 (zj_ret G M_X11_keptIfDone W0 (some (.int r.1)) (fun _ => [w_Xx G A K s0, w_Hi G (A 8) (fun i => A (9 + i)) r.2.1, w_Fk G (A 5) s2, w_H8 G (fun i => A (9 + i)) r.2.2])) 0 0 [w_Xx G A K s0, w_Hi G (A 8) (fun i => A (9 + i)) s1, w_Fk G (A 5) s2, w_H8 G (fun i => A (9 + i)) s3] [some (.ref (A 0 0)), some (.int x1)] 0 [] := by
    intro W0
    unfold f_X11_keptIfDone at hf
    refine zr_run [(.iload_n 1, 0, 0, 0, .null)] [] (WW' := [w_Xx G A K s0, w_Hi G (A 8) (fun i => A (9 + i)) s1, w_Fk G (A 5) s2, w_H8 G (fun i => A (9 + i)) s3]) (lv' := [some (.ref (A 0 0)), some (.int x1)]) (pc' := 1) (st' := [.int x1]) (by decide +kernel) rfl rfl ⟨trivial, trivial⟩ ?_
    refine zr_if_ne (off := 14) (tgt := 15) (by decide +kernel) (by decide) (fun hc => ?_) (fun hc => ?_)
    · have hf := zift hf hc
      obtain ⟨q1, e1, hf⟩ := zbi_of hf
      refine zr_run [(.aload_n 0, 0, 0, 0, .null), (.getfield 49, 0, 0, 7, .null), (.aload_n 0, 0, 0, 0, .null), (.getfield 33, 0, 0, 4, .null)] [] (WW' := [w_Xx G A K s0, w_Hi G (A 8) (fun i => A (9 + i)) s1, w_Fk G (A 5) s2, w_H8 G (fun i => A (9 + i)) s3]) (lv' := [some (.ref (A 0 0)), some (.int x1)]) (pc' := 12) (st' := [.ref ((A 5) 0), .ref ((A 8) 0)]) (by decide +kernel) rfl rfl ⟨trivial, ⟨rfl, rfl, zw_2_156⟩, trivial, ⟨rfl, rfl, zw_2_153⟩, trivial⟩ ?_
      refine zr_callV (c_X2_keep l G (A 8) (fun i => A (9 + i)) (A 5) s1 s3 s2 q1 e1) (WW' := fun _ => [w_Xx G A K s0, w_Hi G (A 8) (fun i => A (9 + i)) q1.1, w_Fk G (A 5) s2, w_H8 G (fun i => A (9 + i)) q1.2]) (st := []) (st' := []) [1, 3, 2] rfl rfl (fun _ => Nat.le_of_ble_eq_true rfl) (fun _ => rfl) rfl rfl nm_X2_keep zw_3_197 zw_3_198 zw_3_199 zw_1_10 zw_3_200 rfl rfl rfl (Nat.le_of_ble_eq_true rfl) ⟨Nat.le_of_ble_eq_true rfl, Nat.le_of_ble_eq_true rfl⟩ (by decide +kernel) (fun _ => ?_)
      refine zr_run [(.iload_n 1, 0, 0, 0, .null)] [] (WW' := [w_Xx G A K s0, w_Hi G (A 8) (fun i => A (9 + i)) q1.1, w_Fk G (A 5) s2, w_H8 G (fun i => A (9 + i)) q1.2]) (lv' := [some (.ref (A 0 0)), some (.int x1)]) (pc' := 16) (st' := [.int x1]) (by decide +kernel) rfl rfl ⟨trivial, trivial⟩ ?_
      obtain rfl := Option.some.inj hf
      exact zr_iret (b0 := fun _ => 0) (by decide +kernel) rfl rfl rfl rfl rfl
    · have hf := ziff hf hc
      refine zr_run [(.iload_n 1, 0, 0, 0, .null)] [] (WW' := [w_Xx G A K s0, w_Hi G (A 8) (fun i => A (9 + i)) s1, w_Fk G (A 5) s2, w_H8 G (fun i => A (9 + i)) s3]) (lv' := [some (.ref (A 0 0)), some (.int x1)]) (pc' := 16) (st' := [.int x1]) (by decide +kernel) rfl rfl ⟨trivial, trivial⟩ ?_
      obtain rfl := Option.some.inj hf
      exact zr_iret (b0 := fun _ => 0) (by decide +kernel) rfl rfl rfl rfl rfl
  exact zj_entry [some (.ref (A 0 0)), some (.int x1)] (by decide +kernel) rfl (by decide) (Nat.le_of_ble_eq_true rfl) rfl rfl (key _)
def M_X11_swear : zj_M := (RX11, cX11_swear, 4, (some .int), { frames := 4, cells := 0, slots := 0, locals := 123 }, false)
theorem nm_X11_swear : zj_nm yX11_swear 3 := ⟨by decide +kernel, by decide +kernel, by decide +kernel⟩
def f_X11_swear  (s0 : XxT) (s1 : LdT) (s2 : FkT) (s3 : FkT) (s4 : HiT) (s5 : H8T) (x1 : Int32) (x2 : Int32) (x3 : Int32) : Option (Int32 × FkT × FkT × HiT × H8T) := ((f_X3_hasMan s1 x1).bind fun q1 => (if q1 = 0 then some ((-1 : Int32), s2, s3, s4, s5) else ((f_X3_isPort s1 x2).bind fun q2 => (if q2 = 0 then some ((-1 : Int32), s2, s3, s4, s5) else (if x3 < (1 : Int32) then some ((-1 : Int32), s2, s3, s4, s5) else (if (40 : Int32) < x3 then some ((-1 : Int32), s2, s3, s4, s5) else ((f_X1_copy s2 s3).bind fun q3 => ((f_X1_swears s3 s1 x1 x2 x3).bind fun q4 => ((f_X11_keptIfDone s0 s4 q3 s5 q4.1).bind fun q5 => some (q5.1, q3, q4.2, q5.2.1, q5.2.2))))))))))
set_option maxRecDepth 100000 in
set_option maxHeartbeats 4000000 in
theorem c_X11_swear (l : Launch) (G : zj_G) (A : Nat → Nat → Nat) (K : Nat → Nat → Option Nat) (s0 : XxT) (s1 : LdT) (s2 : FkT) (s3 : FkT) (s4 : HiT) (s5 : H8T) (x1 : Int32) (x2 : Int32) (x3 : Int32) (r : Int32 × FkT × FkT × HiT × H8T) (hf : f_X11_swear s0 s1 s2 s3 s4 s5 x1 x2 x3 = some r) : zj_C l G M_X11_swear yX11_swear [w_Xx G A K s0, w_Ld G (A 2) s1, w_Fk G (A 5) s2, w_Fk G (A 4) s3, w_Hi G (A 8) (fun i => A (9 + i)) s4, w_H8 G (fun i => A (9 + i)) s5] [.ref (A 0 0), .int x1, .int x2, .int x3] (some (.int r.1)) (fun _ => [w_Xx G A K s0, w_Ld G (A 2) s1, w_Fk G (A 5) r.2.1, w_Fk G (A 4) r.2.2.1, w_Hi G (A 8) (fun i => A (9 + i)) r.2.2.2.1, w_H8 G (fun i => A (9 + i)) r.2.2.2.2]) := by
  have key : ∀ W0 : List va_W, zj_J l G M_X11_swear W0 (zj_ret G M_X11_swear W0 (some (.int r.1)) (fun _ => [w_Xx G A K s0, w_Ld G (A 2) s1, w_Fk G (A 5) r.2.1, w_Fk G (A 4) r.2.2.1, w_Hi G (A 8) (fun i => A (9 + i)) r.2.2.2.1, w_H8 G (fun i => A (9 + i)) r.2.2.2.2])) 0 0 [w_Xx G A K s0, w_Ld G (A 2) s1, w_Fk G (A 5) s2, w_Fk G (A 4) s3, w_Hi G (A 8) (fun i => A (9 + i)) s4, w_H8 G (fun i => A (9 + i)) s5] [some (.ref (A 0 0)), some (.int x1), some (.int x2), some (.int x3)] 0 [] := by
    intro W0
    unfold f_X11_swear at hf
    obtain ⟨q1, e1, hf⟩ := zbi_of hf
    refine zr_run [(.aload_n 0, 0, 0, 0, .null), (.getfield 19, 0, 0, 1, .null), (.iload_n 1, 0, 0, 0, .null)] [] (WW' := [w_Xx G A K s0, w_Ld G (A 2) s1, w_Fk G (A 5) s2, w_Fk G (A 4) s3, w_Hi G (A 8) (fun i => A (9 + i)) s4, w_H8 G (fun i => A (9 + i)) s5]) (lv' := [some (.ref (A 0 0)), some (.int x1), some (.int x2), some (.int x3)]) (pc' := 5) (st' := [.int x1, .ref ((A 2) 0)]) (by decide +kernel) rfl rfl ⟨trivial, ⟨rfl, rfl, zw_2_150⟩, trivial, trivial⟩ ?_
    refine zr_callV (c_X3_hasMan l G (A 2) s1 x1 q1 e1) (WW' := fun _ => [w_Xx G A K s0, w_Ld G (A 2) s1, w_Fk G (A 5) s2, w_Fk G (A 4) s3, w_Hi G (A 8) (fun i => A (9 + i)) s4, w_H8 G (fun i => A (9 + i)) s5]) (st := []) (st' := [.int q1]) [1] rfl rfl (fun _ => Nat.le_of_ble_eq_true rfl) (fun _ => rfl) rfl rfl nm_X3_hasMan zw_3_168 zw_3_169 zw_3_170 zw_1_7 zw_3_171 rfl rfl rfl (Nat.le_of_ble_eq_true rfl) ⟨Nat.le_of_ble_eq_true rfl, Nat.le_of_ble_eq_true rfl⟩ (by decide +kernel) (fun _ => ?_)
    refine zr_if_eq (off := 25) (tgt := 33) (by decide +kernel) (by decide) (fun hc => ?_) (fun hc => ?_)
    · have hf := zift hf hc
      refine zr_run [(.iconst (-1), 0, 0, 0, .int (-1 : Int32))] [] (WW' := [w_Xx G A K s0, w_Ld G (A 2) s1, w_Fk G (A 5) s2, w_Fk G (A 4) s3, w_Hi G (A 8) (fun i => A (9 + i)) s4, w_H8 G (fun i => A (9 + i)) s5]) (lv' := [some (.ref (A 0 0)), some (.int x1), some (.int x2), some (.int x3)]) (pc' := 34) (st' := [.int (-1 : Int32)]) (by decide +kernel) rfl rfl ⟨trivial, trivial⟩ ?_
      obtain rfl := Option.some.inj hf
      exact zr_iret (b0 := fun _ => 0) (by decide +kernel) rfl rfl rfl rfl rfl
    · have hf := ziff hf hc
      obtain ⟨q2, e2, hf⟩ := zbi_of hf
      refine zr_run [(.aload_n 0, 0, 0, 0, .null), (.getfield 19, 0, 0, 1, .null), (.iload_n 2, 0, 0, 0, .null)] [] (WW' := [w_Xx G A K s0, w_Ld G (A 2) s1, w_Fk G (A 5) s2, w_Fk G (A 4) s3, w_Hi G (A 8) (fun i => A (9 + i)) s4, w_H8 G (fun i => A (9 + i)) s5]) (lv' := [some (.ref (A 0 0)), some (.int x1), some (.int x2), some (.int x3)]) (pc' := 16) (st' := [.int x2, .ref ((A 2) 0)]) (by decide +kernel) rfl rfl ⟨trivial, ⟨rfl, rfl, zw_2_150⟩, trivial, trivial⟩ ?_
      refine zr_callV (c_X3_isPort l G (A 2) s1 x2 q2 e2) (WW' := fun _ => [w_Xx G A K s0, w_Ld G (A 2) s1, w_Fk G (A 5) s2, w_Fk G (A 4) s3, w_Hi G (A 8) (fun i => A (9 + i)) s4, w_H8 G (fun i => A (9 + i)) s5]) (st := []) (st' := [.int q2]) [1] rfl rfl (fun _ => Nat.le_of_ble_eq_true rfl) (fun _ => rfl) rfl rfl nm_X3_isPort zw_3_172 zw_3_173 zw_3_174 zw_1_7 zw_3_175 rfl rfl rfl (Nat.le_of_ble_eq_true rfl) ⟨Nat.le_of_ble_eq_true rfl, Nat.le_of_ble_eq_true rfl⟩ (by decide +kernel) (fun _ => ?_)
      refine zr_if_eq (off := 14) (tgt := 33) (by decide +kernel) (by decide) (fun hc => ?_) (fun hc => ?_)
      · have hf := zift hf hc
        refine zr_run [(.iconst (-1), 0, 0, 0, .int (-1 : Int32))] [] (WW' := [w_Xx G A K s0, w_Ld G (A 2) s1, w_Fk G (A 5) s2, w_Fk G (A 4) s3, w_Hi G (A 8) (fun i => A (9 + i)) s4, w_H8 G (fun i => A (9 + i)) s5]) (lv' := [some (.ref (A 0 0)), some (.int x1), some (.int x2), some (.int x3)]) (pc' := 34) (st' := [.int (-1 : Int32)]) (by decide +kernel) rfl rfl ⟨trivial, trivial⟩ ?_
        obtain rfl := Option.some.inj hf
        exact zr_iret (b0 := fun _ => 0) (by decide +kernel) rfl rfl rfl rfl rfl
      · have hf := ziff hf hc
        refine zr_run [(.iload_n 3, 0, 0, 0, .null), (.iconst 1, 0, 0, 0, .int (1 : Int32))] [] (WW' := [w_Xx G A K s0, w_Ld G (A 2) s1, w_Fk G (A 5) s2, w_Fk G (A 4) s3, w_Hi G (A 8) (fun i => A (9 + i)) s4, w_H8 G (fun i => A (9 + i)) s5]) (lv' := [some (.ref (A 0 0)), some (.int x1), some (.int x2), some (.int x3)]) (pc' := 24) (st' := [.int (1 : Int32), .int x3]) (by decide +kernel) rfl rfl ⟨trivial, trivial, trivial⟩ ?_
        refine zr_icmp_lt (off := 9) (tgt := 33) (by decide +kernel) (by decide) (fun hc => ?_) (fun hc => ?_)
        · have hf := zift hf hc
          refine zr_run [(.iconst (-1), 0, 0, 0, .int (-1 : Int32))] [] (WW' := [w_Xx G A K s0, w_Ld G (A 2) s1, w_Fk G (A 5) s2, w_Fk G (A 4) s3, w_Hi G (A 8) (fun i => A (9 + i)) s4, w_H8 G (fun i => A (9 + i)) s5]) (lv' := [some (.ref (A 0 0)), some (.int x1), some (.int x2), some (.int x3)]) (pc' := 34) (st' := [.int (-1 : Int32)]) (by decide +kernel) rfl rfl ⟨trivial, trivial⟩ ?_
          obtain rfl := Option.some.inj hf
          exact zr_iret (b0 := fun _ => 0) (by decide +kernel) rfl rfl rfl rfl rfl
        · have hf := ziff hf hc
          refine zr_run [(.iload_n 3, 0, 0, 0, .null), (.bipush 40, 0, 0, 0, .int (40 : Int32))] [] (WW' := [w_Xx G A K s0, w_Ld G (A 2) s1, w_Fk G (A 5) s2, w_Fk G (A 4) s3, w_Hi G (A 8) (fun i => A (9 + i)) s4, w_H8 G (fun i => A (9 + i)) s5]) (lv' := [some (.ref (A 0 0)), some (.int x1), some (.int x2), some (.int x3)]) (pc' := 30) (st' := [.int (40 : Int32), .int x3]) (by decide +kernel) rfl rfl ⟨trivial, trivial, trivial⟩ ?_
          refine zr_icmp_le (off := 5) (tgt := 35) (by decide +kernel) (by decide) (fun hc => ?_) (fun hc => ?_)
          · have hf := zift hf hc
            refine zr_run [(.iconst (-1), 0, 0, 0, .int (-1 : Int32))] [] (WW' := [w_Xx G A K s0, w_Ld G (A 2) s1, w_Fk G (A 5) s2, w_Fk G (A 4) s3, w_Hi G (A 8) (fun i => A (9 + i)) s4, w_H8 G (fun i => A (9 + i)) s5]) (lv' := [some (.ref (A 0 0)), some (.int x1), some (.int x2), some (.int x3)]) (pc' := 34) (st' := [.int (-1 : Int32)]) (by decide +kernel) rfl rfl ⟨trivial, trivial⟩ ?_
            obtain rfl := Option.some.inj hf
            exact zr_iret (b0 := fun _ => 0) (by decide +kernel) rfl rfl rfl rfl rfl
          · have hf := ziff hf hc
            obtain ⟨q3, e3, hf⟩ := zbi_of hf
            refine zr_run [(.aload_n 0, 0, 0, 0, .null), (.getfield 33, 0, 0, 4, .null), (.aload_n 0, 0, 0, 0, .null), (.getfield 29, 0, 0, 3, .null)] [] (WW' := [w_Xx G A K s0, w_Ld G (A 2) s1, w_Fk G (A 5) s2, w_Fk G (A 4) s3, w_Hi G (A 8) (fun i => A (9 + i)) s4, w_H8 G (fun i => A (9 + i)) s5]) (lv' := [some (.ref (A 0 0)), some (.int x1), some (.int x2), some (.int x3)]) (pc' := 43) (st' := [.ref ((A 4) 0), .ref ((A 5) 0)]) (by decide +kernel) rfl rfl ⟨trivial, ⟨rfl, rfl, zw_2_153⟩, trivial, ⟨rfl, rfl, zw_2_152⟩, trivial⟩ ?_
            refine zr_callV (c_X1_copy l G (A 5) (A 4) s2 s3 q3 e3) (WW' := fun _ => [w_Xx G A K s0, w_Ld G (A 2) s1, w_Fk G (A 5) q3, w_Fk G (A 4) s3, w_Hi G (A 8) (fun i => A (9 + i)) s4, w_H8 G (fun i => A (9 + i)) s5]) (st := []) (st' := []) [2, 3] rfl rfl (fun _ => Nat.le_of_ble_eq_true rfl) (fun _ => rfl) rfl rfl nm_X1_copy zw_3_177 zw_3_178 zw_3_179 zw_1_8 zw_3_180 rfl rfl rfl (Nat.le_of_ble_eq_true rfl) ⟨Nat.le_of_ble_eq_true rfl, Nat.le_of_ble_eq_true rfl⟩ (by decide +kernel) (fun _ => ?_)
            obtain ⟨q4, e4, hf⟩ := zbi_of hf
            refine zr_run [(.aload_n 0, 0, 0, 0, .null), (.aload_n 0, 0, 0, 0, .null), (.getfield 29, 0, 0, 3, .null), (.aload_n 0, 0, 0, 0, .null), (.getfield 19, 0, 0, 1, .null), (.iload_n 1, 0, 0, 0, .null), (.iload_n 2, 0, 0, 0, .null), (.iload_n 3, 0, 0, 0, .null)] [] (WW' := [w_Xx G A K s0, w_Ld G (A 2) s1, w_Fk G (A 5) q3, w_Fk G (A 4) s3, w_Hi G (A 8) (fun i => A (9 + i)) s4, w_H8 G (fun i => A (9 + i)) s5]) (lv' := [some (.ref (A 0 0)), some (.int x1), some (.int x2), some (.int x3)]) (pc' := 58) (st' := [.int x3, .int x2, .int x1, .ref ((A 2) 0), .ref ((A 4) 0), .ref (A 0 0)]) (by decide +kernel) rfl rfl ⟨trivial, trivial, ⟨rfl, rfl, zw_2_152⟩, trivial, ⟨rfl, rfl, zw_2_150⟩, trivial, trivial, trivial, trivial⟩ ?_
            refine zr_callV (c_X1_swears l G (A 4) (A 2) s3 s1 x1 x2 x3 q4 e4) (WW' := fun _ => [w_Xx G A K s0, w_Ld G (A 2) s1, w_Fk G (A 5) q3, w_Fk G (A 4) q4.2, w_Hi G (A 8) (fun i => A (9 + i)) s4, w_H8 G (fun i => A (9 + i)) s5]) (st := [.ref (A 0 0)]) (st' := [.int q4.1, .ref (A 0 0)]) [3, 1] rfl rfl (fun _ => Nat.le_of_ble_eq_true rfl) (fun _ => rfl) rfl rfl nm_X1_swears zw_3_184 zw_3_185 zw_3_186 zw_1_8 zw_3_187 rfl rfl rfl (Nat.le_of_ble_eq_true rfl) ⟨Nat.le_of_ble_eq_true rfl, Nat.le_of_ble_eq_true rfl⟩ (by decide +kernel) (fun _ => ?_)
            obtain ⟨q5, e5, hf⟩ := zbi_of hf
            refine zr_callV (c_X11_keptIfDone l G A K s0 s4 q3 s5 q4.1 q5 e5) (WW' := fun _ => [w_Xx G A K s0, w_Ld G (A 2) s1, w_Fk G (A 5) q3, w_Fk G (A 4) q4.2, w_Hi G (A 8) (fun i => A (9 + i)) q5.2.1, w_H8 G (fun i => A (9 + i)) q5.2.2]) (st := []) (st' := [.int q5.1]) [0, 4, 2, 5] rfl rfl (fun _ => Nat.le_of_ble_eq_true rfl) (fun _ => rfl) rfl rfl nm_X11_keptIfDone zw_3_193 zw_3_195 zw_0_12 zw_1_1 zw_3_196 rfl rfl rfl (Nat.le_of_ble_eq_true rfl) ⟨Nat.le_of_ble_eq_true rfl, Nat.le_of_ble_eq_true rfl⟩ (by decide +kernel) (fun _ => ?_)
            obtain rfl := Option.some.inj hf
            exact zr_iret (b0 := fun _ => 0) (by decide +kernel) rfl rfl rfl rfl rfl
  exact zj_entry [some (.ref (A 0 0)), some (.int x1), some (.int x2), some (.int x3)] (by decide +kernel) rfl (by decide) (Nat.le_of_ble_eq_true rfl) rfl rfl (key _)
def M_X11_order : zj_M := (RX11, cX11_order, 3, (some .int), { frames := 4, cells := 0, slots := 0, locals := 123 }, false)
theorem nm_X11_order : zj_nm yX11_order 2 := ⟨by decide +kernel, by decide +kernel, by decide +kernel⟩
def f_X11_order  (s0 : XxT) (s1 : LdT) (s2 : FkT) (s3 : FkT) (s4 : HiT) (s5 : H8T) (x1 : Int32) (x2 : Int32) : Option (Int32 × FkT × FkT × HiT × H8T) := ((f_X3_hasMan s1 x1).bind fun q1 => (if q1 = 0 then some ((-1 : Int32), s2, s3, s4, s5) else (if x2 < 0 then some ((-1 : Int32), s2, s3, s4, s5) else (if (20 : Int32) < x2 then some ((-1 : Int32), s2, s3, s4, s5) else ((f_X1_copy s2 s3).bind fun q2 => ((f_X1_orders s3 s1 x1 x2).bind fun q3 => ((f_X11_keptIfDone s0 s4 q2 s5 q3.1).bind fun q4 => some (q4.1, q2, q3.2, q4.2.1, q4.2.2))))))))
set_option maxRecDepth 100000 in
set_option maxHeartbeats 4000000 in
theorem c_X11_order (l : Launch) (G : zj_G) (A : Nat → Nat → Nat) (K : Nat → Nat → Option Nat) (s0 : XxT) (s1 : LdT) (s2 : FkT) (s3 : FkT) (s4 : HiT) (s5 : H8T) (x1 : Int32) (x2 : Int32) (r : Int32 × FkT × FkT × HiT × H8T) (hf : f_X11_order s0 s1 s2 s3 s4 s5 x1 x2 = some r) : zj_C l G M_X11_order yX11_order [w_Xx G A K s0, w_Ld G (A 2) s1, w_Fk G (A 5) s2, w_Fk G (A 4) s3, w_Hi G (A 8) (fun i => A (9 + i)) s4, w_H8 G (fun i => A (9 + i)) s5] [.ref (A 0 0), .int x1, .int x2] (some (.int r.1)) (fun _ => [w_Xx G A K s0, w_Ld G (A 2) s1, w_Fk G (A 5) r.2.1, w_Fk G (A 4) r.2.2.1, w_Hi G (A 8) (fun i => A (9 + i)) r.2.2.2.1, w_H8 G (fun i => A (9 + i)) r.2.2.2.2]) := by
  have key : ∀ W0 : List va_W, zj_J l G M_X11_order W0 (zj_ret G M_X11_order W0 (some (.int r.1)) (fun _ => [w_Xx G A K s0, w_Ld G (A 2) s1, w_Fk G (A 5) r.2.1, w_Fk G (A 4) r.2.2.1, w_Hi G (A 8) (fun i => A (9 + i)) r.2.2.2.1, w_H8 G (fun i => A (9 + i)) r.2.2.2.2])) 0 0 [w_Xx G A K s0, w_Ld G (A 2) s1, w_Fk G (A 5) s2, w_Fk G (A 4) s3, w_Hi G (A 8) (fun i => A (9 + i)) s4, w_H8 G (fun i => A (9 + i)) s5] [some (.ref (A 0 0)), some (.int x1), some (.int x2)] 0 [] := by
    intro W0
    unfold f_X11_order at hf
    obtain ⟨q1, e1, hf⟩ := zbi_of hf
    refine zr_run [(.aload_n 0, 0, 0, 0, .null), (.getfield 19, 0, 0, 1, .null), (.iload_n 1, 0, 0, 0, .null)] [] (WW' := [w_Xx G A K s0, w_Ld G (A 2) s1, w_Fk G (A 5) s2, w_Fk G (A 4) s3, w_Hi G (A 8) (fun i => A (9 + i)) s4, w_H8 G (fun i => A (9 + i)) s5]) (lv' := [some (.ref (A 0 0)), some (.int x1), some (.int x2)]) (pc' := 5) (st' := [.int x1, .ref ((A 2) 0)]) (by decide +kernel) rfl rfl ⟨trivial, ⟨rfl, rfl, zw_2_150⟩, trivial, trivial⟩ ?_
    refine zr_callV (c_X3_hasMan l G (A 2) s1 x1 q1 e1) (WW' := fun _ => [w_Xx G A K s0, w_Ld G (A 2) s1, w_Fk G (A 5) s2, w_Fk G (A 4) s3, w_Hi G (A 8) (fun i => A (9 + i)) s4, w_H8 G (fun i => A (9 + i)) s5]) (st := []) (st' := [.int q1]) [1] rfl rfl (fun _ => Nat.le_of_ble_eq_true rfl) (fun _ => rfl) rfl rfl nm_X3_hasMan zw_3_168 zw_3_169 zw_3_170 zw_1_7 zw_3_171 rfl rfl rfl (Nat.le_of_ble_eq_true rfl) ⟨Nat.le_of_ble_eq_true rfl, Nat.le_of_ble_eq_true rfl⟩ (by decide +kernel) (fun _ => ?_)
    refine zr_if_eq (off := 13) (tgt := 21) (by decide +kernel) (by decide) (fun hc => ?_) (fun hc => ?_)
    · have hf := zift hf hc
      refine zr_run [(.iconst (-1), 0, 0, 0, .int (-1 : Int32))] [] (WW' := [w_Xx G A K s0, w_Ld G (A 2) s1, w_Fk G (A 5) s2, w_Fk G (A 4) s3, w_Hi G (A 8) (fun i => A (9 + i)) s4, w_H8 G (fun i => A (9 + i)) s5]) (lv' := [some (.ref (A 0 0)), some (.int x1), some (.int x2)]) (pc' := 22) (st' := [.int (-1 : Int32)]) (by decide +kernel) rfl rfl ⟨trivial, trivial⟩ ?_
      obtain rfl := Option.some.inj hf
      exact zr_iret (b0 := fun _ => 0) (by decide +kernel) rfl rfl rfl rfl rfl
    · have hf := ziff hf hc
      refine zr_run [(.iload_n 2, 0, 0, 0, .null)] [] (WW' := [w_Xx G A K s0, w_Ld G (A 2) s1, w_Fk G (A 5) s2, w_Fk G (A 4) s3, w_Hi G (A 8) (fun i => A (9 + i)) s4, w_H8 G (fun i => A (9 + i)) s5]) (lv' := [some (.ref (A 0 0)), some (.int x1), some (.int x2)]) (pc' := 12) (st' := [.int x2]) (by decide +kernel) rfl rfl ⟨trivial, trivial⟩ ?_
      refine zr_if_lt (off := 9) (tgt := 21) (by decide +kernel) (by decide) (fun hc => ?_) (fun hc => ?_)
      · have hf := zift hf hc
        refine zr_run [(.iconst (-1), 0, 0, 0, .int (-1 : Int32))] [] (WW' := [w_Xx G A K s0, w_Ld G (A 2) s1, w_Fk G (A 5) s2, w_Fk G (A 4) s3, w_Hi G (A 8) (fun i => A (9 + i)) s4, w_H8 G (fun i => A (9 + i)) s5]) (lv' := [some (.ref (A 0 0)), some (.int x1), some (.int x2)]) (pc' := 22) (st' := [.int (-1 : Int32)]) (by decide +kernel) rfl rfl ⟨trivial, trivial⟩ ?_
        obtain rfl := Option.some.inj hf
        exact zr_iret (b0 := fun _ => 0) (by decide +kernel) rfl rfl rfl rfl rfl
      · have hf := ziff hf hc
        refine zr_run [(.iload_n 2, 0, 0, 0, .null), (.bipush 20, 0, 0, 0, .int (20 : Int32))] [] (WW' := [w_Xx G A K s0, w_Ld G (A 2) s1, w_Fk G (A 5) s2, w_Fk G (A 4) s3, w_Hi G (A 8) (fun i => A (9 + i)) s4, w_H8 G (fun i => A (9 + i)) s5]) (lv' := [some (.ref (A 0 0)), some (.int x1), some (.int x2)]) (pc' := 18) (st' := [.int (20 : Int32), .int x2]) (by decide +kernel) rfl rfl ⟨trivial, trivial, trivial⟩ ?_
        refine zr_icmp_le (off := 5) (tgt := 23) (by decide +kernel) (by decide) (fun hc => ?_) (fun hc => ?_)
        · have hf := zift hf hc
          refine zr_run [(.iconst (-1), 0, 0, 0, .int (-1 : Int32))] [] (WW' := [w_Xx G A K s0, w_Ld G (A 2) s1, w_Fk G (A 5) s2, w_Fk G (A 4) s3, w_Hi G (A 8) (fun i => A (9 + i)) s4, w_H8 G (fun i => A (9 + i)) s5]) (lv' := [some (.ref (A 0 0)), some (.int x1), some (.int x2)]) (pc' := 22) (st' := [.int (-1 : Int32)]) (by decide +kernel) rfl rfl ⟨trivial, trivial⟩ ?_
          obtain rfl := Option.some.inj hf
          exact zr_iret (b0 := fun _ => 0) (by decide +kernel) rfl rfl rfl rfl rfl
        · have hf := ziff hf hc
          obtain ⟨q2, e2, hf⟩ := zbi_of hf
          refine zr_run [(.aload_n 0, 0, 0, 0, .null), (.getfield 33, 0, 0, 4, .null), (.aload_n 0, 0, 0, 0, .null), (.getfield 29, 0, 0, 3, .null)] [] (WW' := [w_Xx G A K s0, w_Ld G (A 2) s1, w_Fk G (A 5) s2, w_Fk G (A 4) s3, w_Hi G (A 8) (fun i => A (9 + i)) s4, w_H8 G (fun i => A (9 + i)) s5]) (lv' := [some (.ref (A 0 0)), some (.int x1), some (.int x2)]) (pc' := 31) (st' := [.ref ((A 4) 0), .ref ((A 5) 0)]) (by decide +kernel) rfl rfl ⟨trivial, ⟨rfl, rfl, zw_2_153⟩, trivial, ⟨rfl, rfl, zw_2_152⟩, trivial⟩ ?_
          refine zr_callV (c_X1_copy l G (A 5) (A 4) s2 s3 q2 e2) (WW' := fun _ => [w_Xx G A K s0, w_Ld G (A 2) s1, w_Fk G (A 5) q2, w_Fk G (A 4) s3, w_Hi G (A 8) (fun i => A (9 + i)) s4, w_H8 G (fun i => A (9 + i)) s5]) (st := []) (st' := []) [2, 3] rfl rfl (fun _ => Nat.le_of_ble_eq_true rfl) (fun _ => rfl) rfl rfl nm_X1_copy zw_3_177 zw_3_178 zw_3_179 zw_1_8 zw_3_180 rfl rfl rfl (Nat.le_of_ble_eq_true rfl) ⟨Nat.le_of_ble_eq_true rfl, Nat.le_of_ble_eq_true rfl⟩ (by decide +kernel) (fun _ => ?_)
          obtain ⟨q3, e3, hf⟩ := zbi_of hf
          refine zr_run [(.aload_n 0, 0, 0, 0, .null), (.aload_n 0, 0, 0, 0, .null), (.getfield 29, 0, 0, 3, .null), (.aload_n 0, 0, 0, 0, .null), (.getfield 19, 0, 0, 1, .null), (.iload_n 1, 0, 0, 0, .null), (.iload_n 2, 0, 0, 0, .null)] [] (WW' := [w_Xx G A K s0, w_Ld G (A 2) s1, w_Fk G (A 5) q2, w_Fk G (A 4) s3, w_Hi G (A 8) (fun i => A (9 + i)) s4, w_H8 G (fun i => A (9 + i)) s5]) (lv' := [some (.ref (A 0 0)), some (.int x1), some (.int x2)]) (pc' := 45) (st' := [.int x2, .int x1, .ref ((A 2) 0), .ref ((A 4) 0), .ref (A 0 0)]) (by decide +kernel) rfl rfl ⟨trivial, trivial, ⟨rfl, rfl, zw_2_152⟩, trivial, ⟨rfl, rfl, zw_2_150⟩, trivial, trivial, trivial⟩ ?_
          refine zr_callV (c_X1_orders l G (A 4) (A 2) s3 s1 x1 x2 q3 e3) (WW' := fun _ => [w_Xx G A K s0, w_Ld G (A 2) s1, w_Fk G (A 5) q2, w_Fk G (A 4) q3.2, w_Hi G (A 8) (fun i => A (9 + i)) s4, w_H8 G (fun i => A (9 + i)) s5]) (st := [.ref (A 0 0)]) (st' := [.int q3.1, .ref (A 0 0)]) [3, 1] rfl rfl (fun _ => Nat.le_of_ble_eq_true rfl) (fun _ => rfl) rfl rfl nm_X1_orders zw_3_206 zw_3_207 zw_3_208 zw_1_8 zw_3_209 rfl rfl rfl (Nat.le_of_ble_eq_true rfl) ⟨Nat.le_of_ble_eq_true rfl, Nat.le_of_ble_eq_true rfl⟩ (by decide +kernel) (fun _ => ?_)
          obtain ⟨q4, e4, hf⟩ := zbi_of hf
          refine zr_callV (c_X11_keptIfDone l G A K s0 s4 q2 s5 q3.1 q4 e4) (WW' := fun _ => [w_Xx G A K s0, w_Ld G (A 2) s1, w_Fk G (A 5) q2, w_Fk G (A 4) q3.2, w_Hi G (A 8) (fun i => A (9 + i)) q4.2.1, w_H8 G (fun i => A (9 + i)) q4.2.2]) (st := []) (st' := [.int q4.1]) [0, 4, 2, 5] rfl rfl (fun _ => Nat.le_of_ble_eq_true rfl) (fun _ => rfl) rfl rfl nm_X11_keptIfDone zw_3_193 zw_3_195 zw_0_12 zw_1_1 zw_3_196 rfl rfl rfl (Nat.le_of_ble_eq_true rfl) ⟨Nat.le_of_ble_eq_true rfl, Nat.le_of_ble_eq_true rfl⟩ (by decide +kernel) (fun _ => ?_)
          obtain rfl := Option.some.inj hf
          exact zr_iret (b0 := fun _ => 0) (by decide +kernel) rfl rfl rfl rfl rfl
  exact zj_entry [some (.ref (A 0 0)), some (.int x1), some (.int x2)] (by decide +kernel) rfl (by decide) (Nat.le_of_ble_eq_true rfl) rfl rfl (key _)
def M_X11_slip : zj_M := (RX11, cX11_slip, 2, (some .int), { frames := 4, cells := 0, slots := 0, locals := 123 }, false)
theorem nm_X11_slip : zj_nm yX11_slip 1 := ⟨by decide +kernel, by decide +kernel, by decide +kernel⟩
def f_X11_slip  (s0 : XxT) (s1 : LdT) (s2 : FkT) (s3 : FkT) (s4 : HiT) (s5 : H8T) (x1 : Int32) : Option (Int32 × FkT × FkT × HiT × H8T) := ((f_X3_hasMan s1 x1).bind fun q1 => (if q1 = 0 then some ((-1 : Int32), s2, s3, s4, s5) else ((f_X1_copy s2 s3).bind fun q2 => ((f_X1_slips s3 x1).bind fun q3 => ((f_X11_keptIfDone s0 s4 q2 s5 q3.1).bind fun q4 => some (q4.1, q2, q3.2, q4.2.1, q4.2.2))))))
set_option maxRecDepth 100000 in
set_option maxHeartbeats 4000000 in
theorem c_X11_slip (l : Launch) (G : zj_G) (A : Nat → Nat → Nat) (K : Nat → Nat → Option Nat) (s0 : XxT) (s1 : LdT) (s2 : FkT) (s3 : FkT) (s4 : HiT) (s5 : H8T) (x1 : Int32) (r : Int32 × FkT × FkT × HiT × H8T) (hf : f_X11_slip s0 s1 s2 s3 s4 s5 x1 = some r) : zj_C l G M_X11_slip yX11_slip [w_Xx G A K s0, w_Ld G (A 2) s1, w_Fk G (A 5) s2, w_Fk G (A 4) s3, w_Hi G (A 8) (fun i => A (9 + i)) s4, w_H8 G (fun i => A (9 + i)) s5] [.ref (A 0 0), .int x1] (some (.int r.1)) (fun _ => [w_Xx G A K s0, w_Ld G (A 2) s1, w_Fk G (A 5) r.2.1, w_Fk G (A 4) r.2.2.1, w_Hi G (A 8) (fun i => A (9 + i)) r.2.2.2.1, w_H8 G (fun i => A (9 + i)) r.2.2.2.2]) := by
  have key : ∀ W0 : List va_W, zj_J l G M_X11_slip W0 (zj_ret G M_X11_slip W0 (some (.int r.1)) (fun _ => [w_Xx G A K s0, w_Ld G (A 2) s1, w_Fk G (A 5) r.2.1, w_Fk G (A 4) r.2.2.1, w_Hi G (A 8) (fun i => A (9 + i)) r.2.2.2.1, w_H8 G (fun i => A (9 + i)) r.2.2.2.2])) 0 0 [w_Xx G A K s0, w_Ld G (A 2) s1, w_Fk G (A 5) s2, w_Fk G (A 4) s3, w_Hi G (A 8) (fun i => A (9 + i)) s4, w_H8 G (fun i => A (9 + i)) s5] [some (.ref (A 0 0)), some (.int x1)] 0 [] := by
    intro W0
    unfold f_X11_slip at hf
    obtain ⟨q1, e1, hf⟩ := zbi_of hf
    refine zr_run [(.aload_n 0, 0, 0, 0, .null), (.getfield 19, 0, 0, 1, .null), (.iload_n 1, 0, 0, 0, .null)] [] (WW' := [w_Xx G A K s0, w_Ld G (A 2) s1, w_Fk G (A 5) s2, w_Fk G (A 4) s3, w_Hi G (A 8) (fun i => A (9 + i)) s4, w_H8 G (fun i => A (9 + i)) s5]) (lv' := [some (.ref (A 0 0)), some (.int x1)]) (pc' := 5) (st' := [.int x1, .ref ((A 2) 0)]) (by decide +kernel) rfl rfl ⟨trivial, ⟨rfl, rfl, zw_2_150⟩, trivial, trivial⟩ ?_
    refine zr_callV (c_X3_hasMan l G (A 2) s1 x1 q1 e1) (WW' := fun _ => [w_Xx G A K s0, w_Ld G (A 2) s1, w_Fk G (A 5) s2, w_Fk G (A 4) s3, w_Hi G (A 8) (fun i => A (9 + i)) s4, w_H8 G (fun i => A (9 + i)) s5]) (st := []) (st' := [.int q1]) [1] rfl rfl (fun _ => Nat.le_of_ble_eq_true rfl) (fun _ => rfl) rfl rfl nm_X3_hasMan zw_3_168 zw_3_169 zw_3_170 zw_1_7 zw_3_171 rfl rfl rfl (Nat.le_of_ble_eq_true rfl) ⟨Nat.le_of_ble_eq_true rfl, Nat.le_of_ble_eq_true rfl⟩ (by decide +kernel) (fun _ => ?_)
    refine zr_if_ne (off := 5) (tgt := 13) (by decide +kernel) (by decide) (fun hc => ?_) (fun hc => ?_)
    · have hf := zift hf hc
      refine zr_run [(.iconst (-1), 0, 0, 0, .int (-1 : Int32))] [] (WW' := [w_Xx G A K s0, w_Ld G (A 2) s1, w_Fk G (A 5) s2, w_Fk G (A 4) s3, w_Hi G (A 8) (fun i => A (9 + i)) s4, w_H8 G (fun i => A (9 + i)) s5]) (lv' := [some (.ref (A 0 0)), some (.int x1)]) (pc' := 12) (st' := [.int (-1 : Int32)]) (by decide +kernel) rfl rfl ⟨trivial, trivial⟩ ?_
      obtain rfl := Option.some.inj hf
      exact zr_iret (b0 := fun _ => 0) (by decide +kernel) rfl rfl rfl rfl rfl
    · have hf := ziff hf hc
      obtain ⟨q2, e2, hf⟩ := zbi_of hf
      refine zr_run [(.aload_n 0, 0, 0, 0, .null), (.getfield 33, 0, 0, 4, .null), (.aload_n 0, 0, 0, 0, .null), (.getfield 29, 0, 0, 3, .null)] [] (WW' := [w_Xx G A K s0, w_Ld G (A 2) s1, w_Fk G (A 5) s2, w_Fk G (A 4) s3, w_Hi G (A 8) (fun i => A (9 + i)) s4, w_H8 G (fun i => A (9 + i)) s5]) (lv' := [some (.ref (A 0 0)), some (.int x1)]) (pc' := 21) (st' := [.ref ((A 4) 0), .ref ((A 5) 0)]) (by decide +kernel) rfl rfl ⟨trivial, ⟨rfl, rfl, zw_2_153⟩, trivial, ⟨rfl, rfl, zw_2_152⟩, trivial⟩ ?_
      refine zr_callV (c_X1_copy l G (A 5) (A 4) s2 s3 q2 e2) (WW' := fun _ => [w_Xx G A K s0, w_Ld G (A 2) s1, w_Fk G (A 5) q2, w_Fk G (A 4) s3, w_Hi G (A 8) (fun i => A (9 + i)) s4, w_H8 G (fun i => A (9 + i)) s5]) (st := []) (st' := []) [2, 3] rfl rfl (fun _ => Nat.le_of_ble_eq_true rfl) (fun _ => rfl) rfl rfl nm_X1_copy zw_3_177 zw_3_178 zw_3_179 zw_1_8 zw_3_180 rfl rfl rfl (Nat.le_of_ble_eq_true rfl) ⟨Nat.le_of_ble_eq_true rfl, Nat.le_of_ble_eq_true rfl⟩ (by decide +kernel) (fun _ => ?_)
      obtain ⟨q3, e3, hf⟩ := zbi_of hf
      refine zr_run [(.aload_n 0, 0, 0, 0, .null), (.aload_n 0, 0, 0, 0, .null), (.getfield 29, 0, 0, 3, .null), (.iload_n 1, 0, 0, 0, .null)] [] (WW' := [w_Xx G A K s0, w_Ld G (A 2) s1, w_Fk G (A 5) q2, w_Fk G (A 4) s3, w_Hi G (A 8) (fun i => A (9 + i)) s4, w_H8 G (fun i => A (9 + i)) s5]) (lv' := [some (.ref (A 0 0)), some (.int x1)]) (pc' := 30) (st' := [.int x1, .ref ((A 4) 0), .ref (A 0 0)]) (by decide +kernel) rfl rfl ⟨trivial, trivial, ⟨rfl, rfl, zw_2_152⟩, trivial, trivial⟩ ?_
      refine zr_callV (c_X1_slips l G (A 4) s3 x1 q3 e3) (WW' := fun _ => [w_Xx G A K s0, w_Ld G (A 2) s1, w_Fk G (A 5) q2, w_Fk G (A 4) q3.2, w_Hi G (A 8) (fun i => A (9 + i)) s4, w_H8 G (fun i => A (9 + i)) s5]) (st := [.ref (A 0 0)]) (st' := [.int q3.1, .ref (A 0 0)]) [3] rfl rfl (fun _ => Nat.le_of_ble_eq_true rfl) (fun _ => rfl) rfl rfl nm_X1_slips zw_3_214 zw_3_215 zw_3_216 zw_1_8 zw_3_217 rfl rfl rfl (Nat.le_of_ble_eq_true rfl) ⟨Nat.le_of_ble_eq_true rfl, Nat.le_of_ble_eq_true rfl⟩ (by decide +kernel) (fun _ => ?_)
      obtain ⟨q4, e4, hf⟩ := zbi_of hf
      refine zr_callV (c_X11_keptIfDone l G A K s0 s4 q2 s5 q3.1 q4 e4) (WW' := fun _ => [w_Xx G A K s0, w_Ld G (A 2) s1, w_Fk G (A 5) q2, w_Fk G (A 4) q3.2, w_Hi G (A 8) (fun i => A (9 + i)) q4.2.1, w_H8 G (fun i => A (9 + i)) q4.2.2]) (st := []) (st' := [.int q4.1]) [0, 4, 2, 5] rfl rfl (fun _ => Nat.le_of_ble_eq_true rfl) (fun _ => rfl) rfl rfl nm_X11_keptIfDone zw_3_193 zw_3_195 zw_0_12 zw_1_1 zw_3_196 rfl rfl rfl (Nat.le_of_ble_eq_true rfl) ⟨Nat.le_of_ble_eq_true rfl, Nat.le_of_ble_eq_true rfl⟩ (by decide +kernel) (fun _ => ?_)
      obtain rfl := Option.some.inj hf
      exact zr_iret (b0 := fun _ => 0) (by decide +kernel) rfl rfl rfl rfl rfl
  exact zj_entry [some (.ref (A 0 0)), some (.int x1)] (by decide +kernel) rfl (by decide) (Nat.le_of_ble_eq_true rfl) rfl rfl (key _)
def M_X11_enter : zj_M := (RX11, cX11_enter, 2, (some .int), { frames := 4, cells := 0, slots := 0, locals := 123 }, false)
theorem nm_X11_enter : zj_nm yX11_enter 1 := ⟨by decide +kernel, by decide +kernel, by decide +kernel⟩
def f_X11_enter  (s0 : XxT) (s1 : LdT) (s2 : FkT) (s3 : FkT) (s4 : HiT) (s5 : H8T) (x1 : Int32) : Option (Int32 × FkT × FkT × HiT × H8T) := ((f_X3_hasMan s1 x1).bind fun q1 => (if q1 = 0 then some ((-1 : Int32), s2, s3, s4, s5) else ((f_X1_copy s2 s3).bind fun q2 => ((f_X1_enters s3 s1 x1).bind fun q3 => ((f_X11_keptIfDone s0 s4 q2 s5 q3.1).bind fun q4 => some (q4.1, q2, q3.2, q4.2.1, q4.2.2))))))
set_option maxRecDepth 100000 in
set_option maxHeartbeats 4000000 in
theorem c_X11_enter (l : Launch) (G : zj_G) (A : Nat → Nat → Nat) (K : Nat → Nat → Option Nat) (s0 : XxT) (s1 : LdT) (s2 : FkT) (s3 : FkT) (s4 : HiT) (s5 : H8T) (x1 : Int32) (r : Int32 × FkT × FkT × HiT × H8T) (hf : f_X11_enter s0 s1 s2 s3 s4 s5 x1 = some r) : zj_C l G M_X11_enter yX11_enter [w_Xx G A K s0, w_Ld G (A 2) s1, w_Fk G (A 5) s2, w_Fk G (A 4) s3, w_Hi G (A 8) (fun i => A (9 + i)) s4, w_H8 G (fun i => A (9 + i)) s5] [.ref (A 0 0), .int x1] (some (.int r.1)) (fun _ => [w_Xx G A K s0, w_Ld G (A 2) s1, w_Fk G (A 5) r.2.1, w_Fk G (A 4) r.2.2.1, w_Hi G (A 8) (fun i => A (9 + i)) r.2.2.2.1, w_H8 G (fun i => A (9 + i)) r.2.2.2.2]) := by
  have key : ∀ W0 : List va_W, zj_J l G M_X11_enter W0 (zj_ret G M_X11_enter W0 (some (.int r.1)) (fun _ => [w_Xx G A K s0, w_Ld G (A 2) s1, w_Fk G (A 5) r.2.1, w_Fk G (A 4) r.2.2.1, w_Hi G (A 8) (fun i => A (9 + i)) r.2.2.2.1, w_H8 G (fun i => A (9 + i)) r.2.2.2.2])) 0 0 [w_Xx G A K s0, w_Ld G (A 2) s1, w_Fk G (A 5) s2, w_Fk G (A 4) s3, w_Hi G (A 8) (fun i => A (9 + i)) s4, w_H8 G (fun i => A (9 + i)) s5] [some (.ref (A 0 0)), some (.int x1)] 0 [] := by
    intro W0
    unfold f_X11_enter at hf
    obtain ⟨q1, e1, hf⟩ := zbi_of hf
    refine zr_run [(.aload_n 0, 0, 0, 0, .null), (.getfield 19, 0, 0, 1, .null), (.iload_n 1, 0, 0, 0, .null)] [] (WW' := [w_Xx G A K s0, w_Ld G (A 2) s1, w_Fk G (A 5) s2, w_Fk G (A 4) s3, w_Hi G (A 8) (fun i => A (9 + i)) s4, w_H8 G (fun i => A (9 + i)) s5]) (lv' := [some (.ref (A 0 0)), some (.int x1)]) (pc' := 5) (st' := [.int x1, .ref ((A 2) 0)]) (by decide +kernel) rfl rfl ⟨trivial, ⟨rfl, rfl, zw_2_150⟩, trivial, trivial⟩ ?_
    refine zr_callV (c_X3_hasMan l G (A 2) s1 x1 q1 e1) (WW' := fun _ => [w_Xx G A K s0, w_Ld G (A 2) s1, w_Fk G (A 5) s2, w_Fk G (A 4) s3, w_Hi G (A 8) (fun i => A (9 + i)) s4, w_H8 G (fun i => A (9 + i)) s5]) (st := []) (st' := [.int q1]) [1] rfl rfl (fun _ => Nat.le_of_ble_eq_true rfl) (fun _ => rfl) rfl rfl nm_X3_hasMan zw_3_168 zw_3_169 zw_3_170 zw_1_7 zw_3_171 rfl rfl rfl (Nat.le_of_ble_eq_true rfl) ⟨Nat.le_of_ble_eq_true rfl, Nat.le_of_ble_eq_true rfl⟩ (by decide +kernel) (fun _ => ?_)
    refine zr_if_ne (off := 5) (tgt := 13) (by decide +kernel) (by decide) (fun hc => ?_) (fun hc => ?_)
    · have hf := zift hf hc
      refine zr_run [(.iconst (-1), 0, 0, 0, .int (-1 : Int32))] [] (WW' := [w_Xx G A K s0, w_Ld G (A 2) s1, w_Fk G (A 5) s2, w_Fk G (A 4) s3, w_Hi G (A 8) (fun i => A (9 + i)) s4, w_H8 G (fun i => A (9 + i)) s5]) (lv' := [some (.ref (A 0 0)), some (.int x1)]) (pc' := 12) (st' := [.int (-1 : Int32)]) (by decide +kernel) rfl rfl ⟨trivial, trivial⟩ ?_
      obtain rfl := Option.some.inj hf
      exact zr_iret (b0 := fun _ => 0) (by decide +kernel) rfl rfl rfl rfl rfl
    · have hf := ziff hf hc
      obtain ⟨q2, e2, hf⟩ := zbi_of hf
      refine zr_run [(.aload_n 0, 0, 0, 0, .null), (.getfield 33, 0, 0, 4, .null), (.aload_n 0, 0, 0, 0, .null), (.getfield 29, 0, 0, 3, .null)] [] (WW' := [w_Xx G A K s0, w_Ld G (A 2) s1, w_Fk G (A 5) s2, w_Fk G (A 4) s3, w_Hi G (A 8) (fun i => A (9 + i)) s4, w_H8 G (fun i => A (9 + i)) s5]) (lv' := [some (.ref (A 0 0)), some (.int x1)]) (pc' := 21) (st' := [.ref ((A 4) 0), .ref ((A 5) 0)]) (by decide +kernel) rfl rfl ⟨trivial, ⟨rfl, rfl, zw_2_153⟩, trivial, ⟨rfl, rfl, zw_2_152⟩, trivial⟩ ?_
      refine zr_callV (c_X1_copy l G (A 5) (A 4) s2 s3 q2 e2) (WW' := fun _ => [w_Xx G A K s0, w_Ld G (A 2) s1, w_Fk G (A 5) q2, w_Fk G (A 4) s3, w_Hi G (A 8) (fun i => A (9 + i)) s4, w_H8 G (fun i => A (9 + i)) s5]) (st := []) (st' := []) [2, 3] rfl rfl (fun _ => Nat.le_of_ble_eq_true rfl) (fun _ => rfl) rfl rfl nm_X1_copy zw_3_177 zw_3_178 zw_3_179 zw_1_8 zw_3_180 rfl rfl rfl (Nat.le_of_ble_eq_true rfl) ⟨Nat.le_of_ble_eq_true rfl, Nat.le_of_ble_eq_true rfl⟩ (by decide +kernel) (fun _ => ?_)
      obtain ⟨q3, e3, hf⟩ := zbi_of hf
      refine zr_run [(.aload_n 0, 0, 0, 0, .null), (.aload_n 0, 0, 0, 0, .null), (.getfield 29, 0, 0, 3, .null), (.aload_n 0, 0, 0, 0, .null), (.getfield 19, 0, 0, 1, .null), (.iload_n 1, 0, 0, 0, .null)] [] (WW' := [w_Xx G A K s0, w_Ld G (A 2) s1, w_Fk G (A 5) q2, w_Fk G (A 4) s3, w_Hi G (A 8) (fun i => A (9 + i)) s4, w_H8 G (fun i => A (9 + i)) s5]) (lv' := [some (.ref (A 0 0)), some (.int x1)]) (pc' := 34) (st' := [.int x1, .ref ((A 2) 0), .ref ((A 4) 0), .ref (A 0 0)]) (by decide +kernel) rfl rfl ⟨trivial, trivial, ⟨rfl, rfl, zw_2_152⟩, trivial, ⟨rfl, rfl, zw_2_150⟩, trivial, trivial⟩ ?_
      refine zr_callV (c_X1_enters l G (A 4) (A 2) s3 s1 x1 q3 e3) (WW' := fun _ => [w_Xx G A K s0, w_Ld G (A 2) s1, w_Fk G (A 5) q2, w_Fk G (A 4) q3.2, w_Hi G (A 8) (fun i => A (9 + i)) s4, w_H8 G (fun i => A (9 + i)) s5]) (st := [.ref (A 0 0)]) (st' := [.int q3.1, .ref (A 0 0)]) [3, 1] rfl rfl (fun _ => Nat.le_of_ble_eq_true rfl) (fun _ => rfl) rfl rfl nm_X1_enters zw_3_222 zw_3_223 zw_3_224 zw_1_8 zw_3_225 rfl rfl rfl (Nat.le_of_ble_eq_true rfl) ⟨Nat.le_of_ble_eq_true rfl, Nat.le_of_ble_eq_true rfl⟩ (by decide +kernel) (fun _ => ?_)
      obtain ⟨q4, e4, hf⟩ := zbi_of hf
      refine zr_callV (c_X11_keptIfDone l G A K s0 s4 q2 s5 q3.1 q4 e4) (WW' := fun _ => [w_Xx G A K s0, w_Ld G (A 2) s1, w_Fk G (A 5) q2, w_Fk G (A 4) q3.2, w_Hi G (A 8) (fun i => A (9 + i)) q4.2.1, w_H8 G (fun i => A (9 + i)) q4.2.2]) (st := []) (st' := [.int q4.1]) [0, 4, 2, 5] rfl rfl (fun _ => Nat.le_of_ble_eq_true rfl) (fun _ => rfl) rfl rfl nm_X11_keptIfDone zw_3_193 zw_3_195 zw_0_12 zw_1_1 zw_3_196 rfl rfl rfl (Nat.le_of_ble_eq_true rfl) ⟨Nat.le_of_ble_eq_true rfl, Nat.le_of_ble_eq_true rfl⟩ (by decide +kernel) (fun _ => ?_)
      obtain rfl := Option.some.inj hf
      exact zr_iret (b0 := fun _ => 0) (by decide +kernel) rfl rfl rfl rfl rfl
  exact zj_entry [some (.ref (A 0 0)), some (.int x1)] (by decide +kernel) rfl (by decide) (Nat.le_of_ble_eq_true rfl) rfl rfl (key _)
def M_X11_get : zj_M := (RX11, cX11_get, 3, (some .int), { frames := 4, cells := 0, slots := 0, locals := 123 }, false)
theorem nm_X11_get : zj_nm yX11_get 2 := ⟨by decide +kernel, by decide +kernel, by decide +kernel⟩
def f_X11_get  (s0 : XxT) (s1 : LdT) (s2 : FkT) (s3 : FkT) (s4 : HiT) (s5 : H8T) (x1 : Int32) (x2 : Int32) : Option (Int32 × FkT × FkT × HiT × H8T) := ((f_X3_hasMan s1 x1).bind fun q1 => (if q1 = 0 then some ((-1 : Int32), s2, s3, s4, s5) else (if x2 < (1 : Int32) then some ((-1 : Int32), s2, s3, s4, s5) else (if (99 : Int32) < x2 then some ((-1 : Int32), s2, s3, s4, s5) else ((f_X1_copy s2 s3).bind fun q2 => ((f_X1_gets s3 x1 x2).bind fun q3 => ((f_X11_keptIfDone s0 s4 q2 s5 q3.1).bind fun q4 => some (q4.1, q2, q3.2, q4.2.1, q4.2.2))))))))
set_option maxRecDepth 100000 in
set_option maxHeartbeats 4000000 in
theorem c_X11_get (l : Launch) (G : zj_G) (A : Nat → Nat → Nat) (K : Nat → Nat → Option Nat) (s0 : XxT) (s1 : LdT) (s2 : FkT) (s3 : FkT) (s4 : HiT) (s5 : H8T) (x1 : Int32) (x2 : Int32) (r : Int32 × FkT × FkT × HiT × H8T) (hf : f_X11_get s0 s1 s2 s3 s4 s5 x1 x2 = some r) : zj_C l G M_X11_get yX11_get [w_Xx G A K s0, w_Ld G (A 2) s1, w_Fk G (A 5) s2, w_Fk G (A 4) s3, w_Hi G (A 8) (fun i => A (9 + i)) s4, w_H8 G (fun i => A (9 + i)) s5] [.ref (A 0 0), .int x1, .int x2] (some (.int r.1)) (fun _ => [w_Xx G A K s0, w_Ld G (A 2) s1, w_Fk G (A 5) r.2.1, w_Fk G (A 4) r.2.2.1, w_Hi G (A 8) (fun i => A (9 + i)) r.2.2.2.1, w_H8 G (fun i => A (9 + i)) r.2.2.2.2]) := by
  have key : ∀ W0 : List va_W, zj_J l G M_X11_get W0 (zj_ret G M_X11_get W0 (some (.int r.1)) (fun _ => [w_Xx G A K s0, w_Ld G (A 2) s1, w_Fk G (A 5) r.2.1, w_Fk G (A 4) r.2.2.1, w_Hi G (A 8) (fun i => A (9 + i)) r.2.2.2.1, w_H8 G (fun i => A (9 + i)) r.2.2.2.2])) 0 0 [w_Xx G A K s0, w_Ld G (A 2) s1, w_Fk G (A 5) s2, w_Fk G (A 4) s3, w_Hi G (A 8) (fun i => A (9 + i)) s4, w_H8 G (fun i => A (9 + i)) s5] [some (.ref (A 0 0)), some (.int x1), some (.int x2)] 0 [] := by
    intro W0
    unfold f_X11_get at hf
    obtain ⟨q1, e1, hf⟩ := zbi_of hf
    refine zr_run [(.aload_n 0, 0, 0, 0, .null), (.getfield 19, 0, 0, 1, .null), (.iload_n 1, 0, 0, 0, .null)] [] (WW' := [w_Xx G A K s0, w_Ld G (A 2) s1, w_Fk G (A 5) s2, w_Fk G (A 4) s3, w_Hi G (A 8) (fun i => A (9 + i)) s4, w_H8 G (fun i => A (9 + i)) s5]) (lv' := [some (.ref (A 0 0)), some (.int x1), some (.int x2)]) (pc' := 5) (st' := [.int x1, .ref ((A 2) 0)]) (by decide +kernel) rfl rfl ⟨trivial, ⟨rfl, rfl, zw_2_150⟩, trivial, trivial⟩ ?_
    refine zr_callV (c_X3_hasMan l G (A 2) s1 x1 q1 e1) (WW' := fun _ => [w_Xx G A K s0, w_Ld G (A 2) s1, w_Fk G (A 5) s2, w_Fk G (A 4) s3, w_Hi G (A 8) (fun i => A (9 + i)) s4, w_H8 G (fun i => A (9 + i)) s5]) (st := []) (st' := [.int q1]) [1] rfl rfl (fun _ => Nat.le_of_ble_eq_true rfl) (fun _ => rfl) rfl rfl nm_X3_hasMan zw_3_168 zw_3_169 zw_3_170 zw_1_7 zw_3_171 rfl rfl rfl (Nat.le_of_ble_eq_true rfl) ⟨Nat.le_of_ble_eq_true rfl, Nat.le_of_ble_eq_true rfl⟩ (by decide +kernel) (fun _ => ?_)
    refine zr_if_eq (off := 14) (tgt := 22) (by decide +kernel) (by decide) (fun hc => ?_) (fun hc => ?_)
    · have hf := zift hf hc
      refine zr_run [(.iconst (-1), 0, 0, 0, .int (-1 : Int32))] [] (WW' := [w_Xx G A K s0, w_Ld G (A 2) s1, w_Fk G (A 5) s2, w_Fk G (A 4) s3, w_Hi G (A 8) (fun i => A (9 + i)) s4, w_H8 G (fun i => A (9 + i)) s5]) (lv' := [some (.ref (A 0 0)), some (.int x1), some (.int x2)]) (pc' := 23) (st' := [.int (-1 : Int32)]) (by decide +kernel) rfl rfl ⟨trivial, trivial⟩ ?_
      obtain rfl := Option.some.inj hf
      exact zr_iret (b0 := fun _ => 0) (by decide +kernel) rfl rfl rfl rfl rfl
    · have hf := ziff hf hc
      refine zr_run [(.iload_n 2, 0, 0, 0, .null), (.iconst 1, 0, 0, 0, .int (1 : Int32))] [] (WW' := [w_Xx G A K s0, w_Ld G (A 2) s1, w_Fk G (A 5) s2, w_Fk G (A 4) s3, w_Hi G (A 8) (fun i => A (9 + i)) s4, w_H8 G (fun i => A (9 + i)) s5]) (lv' := [some (.ref (A 0 0)), some (.int x1), some (.int x2)]) (pc' := 13) (st' := [.int (1 : Int32), .int x2]) (by decide +kernel) rfl rfl ⟨trivial, trivial, trivial⟩ ?_
      refine zr_icmp_lt (off := 9) (tgt := 22) (by decide +kernel) (by decide) (fun hc => ?_) (fun hc => ?_)
      · have hf := zift hf hc
        refine zr_run [(.iconst (-1), 0, 0, 0, .int (-1 : Int32))] [] (WW' := [w_Xx G A K s0, w_Ld G (A 2) s1, w_Fk G (A 5) s2, w_Fk G (A 4) s3, w_Hi G (A 8) (fun i => A (9 + i)) s4, w_H8 G (fun i => A (9 + i)) s5]) (lv' := [some (.ref (A 0 0)), some (.int x1), some (.int x2)]) (pc' := 23) (st' := [.int (-1 : Int32)]) (by decide +kernel) rfl rfl ⟨trivial, trivial⟩ ?_
        obtain rfl := Option.some.inj hf
        exact zr_iret (b0 := fun _ => 0) (by decide +kernel) rfl rfl rfl rfl rfl
      · have hf := ziff hf hc
        refine zr_run [(.iload_n 2, 0, 0, 0, .null), (.bipush 99, 0, 0, 0, .int (99 : Int32))] [] (WW' := [w_Xx G A K s0, w_Ld G (A 2) s1, w_Fk G (A 5) s2, w_Fk G (A 4) s3, w_Hi G (A 8) (fun i => A (9 + i)) s4, w_H8 G (fun i => A (9 + i)) s5]) (lv' := [some (.ref (A 0 0)), some (.int x1), some (.int x2)]) (pc' := 19) (st' := [.int (99 : Int32), .int x2]) (by decide +kernel) rfl rfl ⟨trivial, trivial, trivial⟩ ?_
        refine zr_icmp_le (off := 5) (tgt := 24) (by decide +kernel) (by decide) (fun hc => ?_) (fun hc => ?_)
        · have hf := zift hf hc
          refine zr_run [(.iconst (-1), 0, 0, 0, .int (-1 : Int32))] [] (WW' := [w_Xx G A K s0, w_Ld G (A 2) s1, w_Fk G (A 5) s2, w_Fk G (A 4) s3, w_Hi G (A 8) (fun i => A (9 + i)) s4, w_H8 G (fun i => A (9 + i)) s5]) (lv' := [some (.ref (A 0 0)), some (.int x1), some (.int x2)]) (pc' := 23) (st' := [.int (-1 : Int32)]) (by decide +kernel) rfl rfl ⟨trivial, trivial⟩ ?_
          obtain rfl := Option.some.inj hf
          exact zr_iret (b0 := fun _ => 0) (by decide +kernel) rfl rfl rfl rfl rfl
        · have hf := ziff hf hc
          obtain ⟨q2, e2, hf⟩ := zbi_of hf
          refine zr_run [(.aload_n 0, 0, 0, 0, .null), (.getfield 33, 0, 0, 4, .null), (.aload_n 0, 0, 0, 0, .null), (.getfield 29, 0, 0, 3, .null)] [] (WW' := [w_Xx G A K s0, w_Ld G (A 2) s1, w_Fk G (A 5) s2, w_Fk G (A 4) s3, w_Hi G (A 8) (fun i => A (9 + i)) s4, w_H8 G (fun i => A (9 + i)) s5]) (lv' := [some (.ref (A 0 0)), some (.int x1), some (.int x2)]) (pc' := 32) (st' := [.ref ((A 4) 0), .ref ((A 5) 0)]) (by decide +kernel) rfl rfl ⟨trivial, ⟨rfl, rfl, zw_2_153⟩, trivial, ⟨rfl, rfl, zw_2_152⟩, trivial⟩ ?_
          refine zr_callV (c_X1_copy l G (A 5) (A 4) s2 s3 q2 e2) (WW' := fun _ => [w_Xx G A K s0, w_Ld G (A 2) s1, w_Fk G (A 5) q2, w_Fk G (A 4) s3, w_Hi G (A 8) (fun i => A (9 + i)) s4, w_H8 G (fun i => A (9 + i)) s5]) (st := []) (st' := []) [2, 3] rfl rfl (fun _ => Nat.le_of_ble_eq_true rfl) (fun _ => rfl) rfl rfl nm_X1_copy zw_3_177 zw_3_178 zw_3_179 zw_1_8 zw_3_180 rfl rfl rfl (Nat.le_of_ble_eq_true rfl) ⟨Nat.le_of_ble_eq_true rfl, Nat.le_of_ble_eq_true rfl⟩ (by decide +kernel) (fun _ => ?_)
          obtain ⟨q3, e3, hf⟩ := zbi_of hf
          refine zr_run [(.aload_n 0, 0, 0, 0, .null), (.aload_n 0, 0, 0, 0, .null), (.getfield 29, 0, 0, 3, .null), (.iload_n 1, 0, 0, 0, .null), (.iload_n 2, 0, 0, 0, .null)] [] (WW' := [w_Xx G A K s0, w_Ld G (A 2) s1, w_Fk G (A 5) q2, w_Fk G (A 4) s3, w_Hi G (A 8) (fun i => A (9 + i)) s4, w_H8 G (fun i => A (9 + i)) s5]) (lv' := [some (.ref (A 0 0)), some (.int x1), some (.int x2)]) (pc' := 42) (st' := [.int x2, .int x1, .ref ((A 4) 0), .ref (A 0 0)]) (by decide +kernel) rfl rfl ⟨trivial, trivial, ⟨rfl, rfl, zw_2_152⟩, trivial, trivial, trivial⟩ ?_
          refine zr_callV (c_X1_gets l G (A 4) s3 x1 x2 q3 e3) (WW' := fun _ => [w_Xx G A K s0, w_Ld G (A 2) s1, w_Fk G (A 5) q2, w_Fk G (A 4) q3.2, w_Hi G (A 8) (fun i => A (9 + i)) s4, w_H8 G (fun i => A (9 + i)) s5]) (st := [.ref (A 0 0)]) (st' := [.int q3.1, .ref (A 0 0)]) [3] rfl rfl (fun _ => Nat.le_of_ble_eq_true rfl) (fun _ => rfl) rfl rfl nm_X1_gets zw_3_231 zw_3_232 zw_3_233 zw_1_8 zw_3_234 rfl rfl rfl (Nat.le_of_ble_eq_true rfl) ⟨Nat.le_of_ble_eq_true rfl, Nat.le_of_ble_eq_true rfl⟩ (by decide +kernel) (fun _ => ?_)
          obtain ⟨q4, e4, hf⟩ := zbi_of hf
          refine zr_callV (c_X11_keptIfDone l G A K s0 s4 q2 s5 q3.1 q4 e4) (WW' := fun _ => [w_Xx G A K s0, w_Ld G (A 2) s1, w_Fk G (A 5) q2, w_Fk G (A 4) q3.2, w_Hi G (A 8) (fun i => A (9 + i)) q4.2.1, w_H8 G (fun i => A (9 + i)) q4.2.2]) (st := []) (st' := [.int q4.1]) [0, 4, 2, 5] rfl rfl (fun _ => Nat.le_of_ble_eq_true rfl) (fun _ => rfl) rfl rfl nm_X11_keptIfDone zw_3_193 zw_3_195 zw_0_12 zw_1_1 zw_3_196 rfl rfl rfl (Nat.le_of_ble_eq_true rfl) ⟨Nat.le_of_ble_eq_true rfl, Nat.le_of_ble_eq_true rfl⟩ (by decide +kernel) (fun _ => ?_)
          obtain rfl := Option.some.inj hf
          exact zr_iret (b0 := fun _ => 0) (by decide +kernel) rfl rfl rfl rfl rfl
  exact zj_entry [some (.ref (A 0 0)), some (.int x1), some (.int x2)] (by decide +kernel) rfl (by decide) (Nat.le_of_ble_eq_true rfl) rfl rfl (key _)
def M_X11_days : zj_M := (RX11, cX11_days, 4, (some .int), { frames := 5, cells := 0, slots := 0, locals := 123 }, false)
theorem nm_X11_days : zj_nm yX11_days 2 := ⟨by decide +kernel, by decide +kernel, by decide +kernel⟩
def f_X11_days  (s0 : XxT) (s1 : FkT) (s2 : FkT) (s3 : LdT) (s4 : HiT) (s5 : H8T) (x1 : Int32) (x2 : Int32) : Option (Int32 × FkT × FkT × HiT × H8T) := (if x1 < (1 : Int32) then some ((-1 : Int32), s1, s2, s4, s5) else (if (30 : Int32) < x1 then some ((-1 : Int32), s1, s2, s4, s5) else ((f_X1_copy s1 s2).bind fun q1 => ((f_X1_goDays s2 s3 x1 x2).bind fun q2 => (if 0 < q2.1 then ((f_X2_keep s4 s5 q1).bind fun q3 => some (q2.1, q1, q2.2, q3.1, q3.2)) else some (q2.1, q1, q2.2, s4, s5))))))
set_option maxRecDepth 100000 in
set_option maxHeartbeats 4000000 in
theorem c_X11_days (l : Launch) (G : zj_G) (A : Nat → Nat → Nat) (K : Nat → Nat → Option Nat) (s0 : XxT) (s1 : FkT) (s2 : FkT) (s3 : LdT) (s4 : HiT) (s5 : H8T) (x1 : Int32) (x2 : Int32) (r : Int32 × FkT × FkT × HiT × H8T) (hf : f_X11_days s0 s1 s2 s3 s4 s5 x1 x2 = some r) : zj_C l G M_X11_days yX11_days [w_Xx G A K s0, w_Fk G (A 5) s1, w_Fk G (A 4) s2, w_Ld G (A 2) s3, w_Hi G (A 8) (fun i => A (9 + i)) s4, w_H8 G (fun i => A (9 + i)) s5] [.ref (A 0 0), .int x1, .int x2] (some (.int r.1)) (fun _ => [w_Xx G A K s0, w_Fk G (A 5) r.2.1, w_Fk G (A 4) r.2.2.1, w_Ld G (A 2) s3, w_Hi G (A 8) (fun i => A (9 + i)) r.2.2.2.1, w_H8 G (fun i => A (9 + i)) r.2.2.2.2]) := by
  have key : ∀ W0 : List va_W, zj_J l G M_X11_days W0 (zj_ret G M_X11_days W0 (some (.int r.1)) (fun _ => [w_Xx G A K s0, w_Fk G (A 5) r.2.1, w_Fk G (A 4) r.2.2.1, w_Ld G (A 2) s3, w_Hi G (A 8) (fun i => A (9 + i)) r.2.2.2.1, w_H8 G (fun i => A (9 + i)) r.2.2.2.2])) 0 0 [w_Xx G A K s0, w_Fk G (A 5) s1, w_Fk G (A 4) s2, w_Ld G (A 2) s3, w_Hi G (A 8) (fun i => A (9 + i)) s4, w_H8 G (fun i => A (9 + i)) s5] [some (.ref (A 0 0)), some (.int x1), some (.int x2), none] 0 [] := by
    intro W0
    unfold f_X11_days at hf
    refine zr_run [(.iload_n 1, 0, 0, 0, .null), (.iconst 1, 0, 0, 0, .int (1 : Int32))] [] (WW' := [w_Xx G A K s0, w_Fk G (A 5) s1, w_Fk G (A 4) s2, w_Ld G (A 2) s3, w_Hi G (A 8) (fun i => A (9 + i)) s4, w_H8 G (fun i => A (9 + i)) s5]) (lv' := [some (.ref (A 0 0)), some (.int x1), some (.int x2), none]) (pc' := 2) (st' := [.int (1 : Int32), .int x1]) (by decide +kernel) rfl rfl ⟨trivial, trivial, trivial⟩ ?_
    refine zr_icmp_lt (off := 9) (tgt := 11) (by decide +kernel) (by decide) (fun hc => ?_) (fun hc => ?_)
    · have hf := zift hf hc
      refine zr_run [(.iconst (-1), 0, 0, 0, .int (-1 : Int32))] [] (WW' := [w_Xx G A K s0, w_Fk G (A 5) s1, w_Fk G (A 4) s2, w_Ld G (A 2) s3, w_Hi G (A 8) (fun i => A (9 + i)) s4, w_H8 G (fun i => A (9 + i)) s5]) (lv' := [some (.ref (A 0 0)), some (.int x1), some (.int x2), none]) (pc' := 12) (st' := [.int (-1 : Int32)]) (by decide +kernel) rfl rfl ⟨trivial, trivial⟩ ?_
      obtain rfl := Option.some.inj hf
      exact zr_iret (b0 := fun _ => 0) (by decide +kernel) rfl rfl rfl rfl rfl
    · have hf := ziff hf hc
      refine zr_run [(.iload_n 1, 0, 0, 0, .null), (.bipush 30, 0, 0, 0, .int (30 : Int32))] [] (WW' := [w_Xx G A K s0, w_Fk G (A 5) s1, w_Fk G (A 4) s2, w_Ld G (A 2) s3, w_Hi G (A 8) (fun i => A (9 + i)) s4, w_H8 G (fun i => A (9 + i)) s5]) (lv' := [some (.ref (A 0 0)), some (.int x1), some (.int x2), none]) (pc' := 8) (st' := [.int (30 : Int32), .int x1]) (by decide +kernel) rfl rfl ⟨trivial, trivial, trivial⟩ ?_
      refine zr_icmp_le (off := 5) (tgt := 13) (by decide +kernel) (by decide) (fun hc => ?_) (fun hc => ?_)
      · have hf := zift hf hc
        refine zr_run [(.iconst (-1), 0, 0, 0, .int (-1 : Int32))] [] (WW' := [w_Xx G A K s0, w_Fk G (A 5) s1, w_Fk G (A 4) s2, w_Ld G (A 2) s3, w_Hi G (A 8) (fun i => A (9 + i)) s4, w_H8 G (fun i => A (9 + i)) s5]) (lv' := [some (.ref (A 0 0)), some (.int x1), some (.int x2), none]) (pc' := 12) (st' := [.int (-1 : Int32)]) (by decide +kernel) rfl rfl ⟨trivial, trivial⟩ ?_
        obtain rfl := Option.some.inj hf
        exact zr_iret (b0 := fun _ => 0) (by decide +kernel) rfl rfl rfl rfl rfl
      · have hf := ziff hf hc
        obtain ⟨q1, e1, hf⟩ := zbi_of hf
        refine zr_run [(.aload_n 0, 0, 0, 0, .null), (.getfield 33, 0, 0, 4, .null), (.aload_n 0, 0, 0, 0, .null), (.getfield 29, 0, 0, 3, .null)] [] (WW' := [w_Xx G A K s0, w_Fk G (A 5) s1, w_Fk G (A 4) s2, w_Ld G (A 2) s3, w_Hi G (A 8) (fun i => A (9 + i)) s4, w_H8 G (fun i => A (9 + i)) s5]) (lv' := [some (.ref (A 0 0)), some (.int x1), some (.int x2), none]) (pc' := 21) (st' := [.ref ((A 4) 0), .ref ((A 5) 0)]) (by decide +kernel) rfl rfl ⟨trivial, ⟨rfl, rfl, zw_2_153⟩, trivial, ⟨rfl, rfl, zw_2_152⟩, trivial⟩ ?_
        refine zr_callV (c_X1_copy l G (A 5) (A 4) s1 s2 q1 e1) (WW' := fun _ => [w_Xx G A K s0, w_Fk G (A 5) q1, w_Fk G (A 4) s2, w_Ld G (A 2) s3, w_Hi G (A 8) (fun i => A (9 + i)) s4, w_H8 G (fun i => A (9 + i)) s5]) (st := []) (st' := []) [1, 2] rfl rfl (fun _ => Nat.le_of_ble_eq_true rfl) (fun _ => rfl) rfl rfl nm_X1_copy zw_3_177 zw_3_178 zw_3_179 zw_1_8 zw_3_180 rfl rfl rfl (Nat.le_of_ble_eq_true rfl) ⟨Nat.le_of_ble_eq_true rfl, Nat.le_of_ble_eq_true rfl⟩ (by decide +kernel) (fun _ => ?_)
        obtain ⟨q2, e2, hf⟩ := zbi_of hf
        refine zr_run [(.aload_n 0, 0, 0, 0, .null), (.getfield 29, 0, 0, 3, .null), (.aload_n 0, 0, 0, 0, .null), (.getfield 19, 0, 0, 1, .null), (.iload_n 1, 0, 0, 0, .null), (.iload_n 2, 0, 0, 0, .null)] [] (WW' := [w_Xx G A K s0, w_Fk G (A 5) q1, w_Fk G (A 4) s2, w_Ld G (A 2) s3, w_Hi G (A 8) (fun i => A (9 + i)) s4, w_H8 G (fun i => A (9 + i)) s5]) (lv' := [some (.ref (A 0 0)), some (.int x1), some (.int x2), none]) (pc' := 34) (st' := [.int x2, .int x1, .ref ((A 2) 0), .ref ((A 4) 0)]) (by decide +kernel) rfl rfl ⟨trivial, ⟨rfl, rfl, zw_2_152⟩, trivial, ⟨rfl, rfl, zw_2_150⟩, trivial, trivial, trivial⟩ ?_
        refine zr_callV (c_X1_goDays l G (A 4) (A 2) s2 s3 x1 x2 q2 e2) (WW' := fun _ => [w_Xx G A K s0, w_Fk G (A 5) q1, w_Fk G (A 4) q2.2, w_Ld G (A 2) s3, w_Hi G (A 8) (fun i => A (9 + i)) s4, w_H8 G (fun i => A (9 + i)) s5]) (st := []) (st' := [.int q2.1]) [2, 3] rfl rfl (fun _ => Nat.le_of_ble_eq_true rfl) (fun _ => rfl) rfl rfl nm_X1_goDays zw_4_2 zw_4_3 zw_4_4 zw_1_8 zw_4_5 rfl rfl rfl (Nat.le_of_ble_eq_true rfl) ⟨Nat.le_of_ble_eq_true rfl, Nat.le_of_ble_eq_true rfl⟩ (by decide +kernel) (fun _ => ?_)
        refine zr_run [(.istore_n 3, 0, 0, 0, .null), (.iload_n 3, 0, 0, 0, .null)] [] (WW' := [w_Xx G A K s0, w_Fk G (A 5) q1, w_Fk G (A 4) q2.2, w_Ld G (A 2) s3, w_Hi G (A 8) (fun i => A (9 + i)) s4, w_H8 G (fun i => A (9 + i)) s5]) (lv' := [some (.ref (A 0 0)), some (.int x1), some (.int x2), some (.int q2.1)]) (pc' := 39) (st' := [.int q2.1]) (by decide +kernel) rfl rfl ⟨trivial, trivial, trivial⟩ ?_
        refine zr_if_le (off := 14) (tgt := 53) (by decide +kernel) (by decide) (fun hc => ?_) (fun hc => ?_)
        · have hf := zift hf hc
          obtain ⟨q3, e3, hf⟩ := zbi_of hf
          refine zr_run [(.aload_n 0, 0, 0, 0, .null), (.getfield 49, 0, 0, 7, .null), (.aload_n 0, 0, 0, 0, .null), (.getfield 33, 0, 0, 4, .null)] [] (WW' := [w_Xx G A K s0, w_Fk G (A 5) q1, w_Fk G (A 4) q2.2, w_Ld G (A 2) s3, w_Hi G (A 8) (fun i => A (9 + i)) s4, w_H8 G (fun i => A (9 + i)) s5]) (lv' := [some (.ref (A 0 0)), some (.int x1), some (.int x2), some (.int q2.1)]) (pc' := 50) (st' := [.ref ((A 5) 0), .ref ((A 8) 0)]) (by decide +kernel) rfl rfl ⟨trivial, ⟨rfl, rfl, zw_2_156⟩, trivial, ⟨rfl, rfl, zw_2_153⟩, trivial⟩ ?_
          refine zr_callV (c_X2_keep l G (A 8) (fun i => A (9 + i)) (A 5) s4 s5 q1 q3 e3) (WW' := fun _ => [w_Xx G A K s0, w_Fk G (A 5) q1, w_Fk G (A 4) q2.2, w_Ld G (A 2) s3, w_Hi G (A 8) (fun i => A (9 + i)) q3.1, w_H8 G (fun i => A (9 + i)) q3.2]) (st := []) (st' := []) [4, 5, 1] rfl rfl (fun _ => Nat.le_of_ble_eq_true rfl) (fun _ => rfl) rfl rfl nm_X2_keep zw_3_197 zw_3_198 zw_3_199 zw_1_10 zw_3_200 rfl rfl rfl (Nat.le_of_ble_eq_true rfl) ⟨Nat.le_of_ble_eq_true rfl, Nat.le_of_ble_eq_true rfl⟩ (by decide +kernel) (fun _ => ?_)
          refine zr_run [(.iload_n 3, 0, 0, 0, .null)] [] (WW' := [w_Xx G A K s0, w_Fk G (A 5) q1, w_Fk G (A 4) q2.2, w_Ld G (A 2) s3, w_Hi G (A 8) (fun i => A (9 + i)) q3.1, w_H8 G (fun i => A (9 + i)) q3.2]) (lv' := [some (.ref (A 0 0)), some (.int x1), some (.int x2), some (.int q2.1)]) (pc' := 54) (st' := [.int q2.1]) (by decide +kernel) rfl rfl ⟨trivial, trivial⟩ ?_
          obtain rfl := Option.some.inj hf
          exact zr_iret (b0 := fun _ => 0) (by decide +kernel) rfl rfl rfl rfl rfl
        · have hf := ziff hf hc
          refine zr_run [(.iload_n 3, 0, 0, 0, .null)] [] (WW' := [w_Xx G A K s0, w_Fk G (A 5) q1, w_Fk G (A 4) q2.2, w_Ld G (A 2) s3, w_Hi G (A 8) (fun i => A (9 + i)) s4, w_H8 G (fun i => A (9 + i)) s5]) (lv' := [some (.ref (A 0 0)), some (.int x1), some (.int x2), some (.int q2.1)]) (pc' := 54) (st' := [.int q2.1]) (by decide +kernel) rfl rfl ⟨trivial, trivial⟩ ?_
          obtain rfl := Option.some.inj hf
          exact zr_iret (b0 := fun _ => 0) (by decide +kernel) rfl rfl rfl rfl rfl
  exact zj_entry [some (.ref (A 0 0)), some (.int x1), some (.int x2), none] (by decide +kernel) rfl (by decide) (Nat.le_of_ble_eq_true rfl) rfl rfl (key _)
def M_X11_undo : zj_M := (RX11, cX11_undo, 1, (some .int), { frames := 3, cells := 0, slots := 0, locals := 102 }, false)
theorem nm_X11_undo : zj_nm yX11_undo 0 := ⟨by decide +kernel, by decide +kernel, by decide +kernel⟩
def f_X11_undo  (s0 : XxT) (s1 : HiT) (s2 : FkT) (s3 : H8T)  : Option (Int32 × HiT × FkT) := ((f_X2_takeBack s1 s3 s2).bind fun q1 => some (q1.1, q1.2.1, q1.2.2))
set_option maxRecDepth 100000 in
set_option maxHeartbeats 4000000 in
theorem c_X11_undo (l : Launch) (G : zj_G) (A : Nat → Nat → Nat) (K : Nat → Nat → Option Nat) (s0 : XxT) (s1 : HiT) (s2 : FkT) (s3 : H8T)  (r : Int32 × HiT × FkT) (hf : f_X11_undo s0 s1 s2 s3 = some r) : zj_C l G M_X11_undo yX11_undo [w_Xx G A K s0, w_Hi G (A 8) (fun i => A (9 + i)) s1, w_Fk G (A 4) s2, w_H8 G (fun i => A (9 + i)) s3] [.ref (A 0 0)] (some (.int r.1)) (fun _ => [w_Xx G A K s0, w_Hi G (A 8) (fun i => A (9 + i)) r.2.1, w_Fk G (A 4) r.2.2, w_H8 G (fun i => A (9 + i)) s3]) := by
  have key : ∀ W0 : List va_W, zj_J l G M_X11_undo W0 (zj_ret G M_X11_undo W0 (some (.int r.1)) (fun _ => [w_Xx G A K s0, w_Hi G (A 8) (fun i => A (9 + i)) r.2.1, w_Fk G (A 4) r.2.2, w_H8 G (fun i => A (9 + i)) s3])) 0 0 [w_Xx G A K s0, w_Hi G (A 8) (fun i => A (9 + i)) s1, w_Fk G (A 4) s2, w_H8 G (fun i => A (9 + i)) s3] [some (.ref (A 0 0))] 0 [] := by
    intro W0
    unfold f_X11_undo at hf
    obtain ⟨q1, e1, hf⟩ := zbi_of hf
    refine zr_run [(.aload_n 0, 0, 0, 0, .null), (.getfield 49, 0, 0, 7, .null), (.aload_n 0, 0, 0, 0, .null), (.getfield 29, 0, 0, 3, .null)] [] (WW' := [w_Xx G A K s0, w_Hi G (A 8) (fun i => A (9 + i)) s1, w_Fk G (A 4) s2, w_H8 G (fun i => A (9 + i)) s3]) (lv' := [some (.ref (A 0 0))]) (pc' := 8) (st' := [.ref ((A 4) 0), .ref ((A 8) 0)]) (by decide +kernel) rfl rfl ⟨trivial, ⟨rfl, rfl, zw_2_156⟩, trivial, ⟨rfl, rfl, zw_2_152⟩, trivial⟩ ?_
    refine zr_callV (c_X2_takeBack l G (A 8) (fun i => A (9 + i)) (A 4) s1 s3 s2 q1 e1) (WW' := fun _ => [w_Xx G A K s0, w_Hi G (A 8) (fun i => A (9 + i)) q1.2.1, w_Fk G (A 4) q1.2.2, w_H8 G (fun i => A (9 + i)) s3]) (st := []) (st' := [.int q1.1]) [1, 3, 2] rfl rfl (fun _ => Nat.le_of_ble_eq_true rfl) (fun _ => rfl) rfl rfl nm_X2_takeBack zw_4_57 zw_4_58 zw_4_59 zw_1_10 zw_4_60 rfl rfl rfl (Nat.le_of_ble_eq_true rfl) ⟨Nat.le_of_ble_eq_true rfl, Nat.le_of_ble_eq_true rfl⟩ (by decide +kernel) (fun _ => ?_)
    obtain rfl := Option.some.inj hf
    exact zr_iret (b0 := fun _ => 0) (by decide +kernel) rfl rfl rfl rfl rfl
  exact zj_entry [some (.ref (A 0 0))] (by decide +kernel) rfl (by decide) (Nat.le_of_ble_eq_true rfl) rfl rfl (key _)
def M_X11_far : zj_M := (RX11, cX11_far, 3, (some .int), { frames := 2, cells := 0, slots := 0, locals := 45 }, false)
theorem nm_X11_far : zj_nm yX11_far 2 := ⟨by decide +kernel, by decide +kernel, by decide +kernel⟩
def f_X11_far  (s0 : XxT) (s1 : LdT) (x1 : Int32) (x2 : Int32) : Option (Int32) := ((f_X3_hasPlace s1 x1).bind fun q1 => (if q1 = 0 then some (-1 : Int32) else ((f_X3_hasPlace s1 x2).bind fun q2 => (if q2 = 0 then some (-1 : Int32) else ((f_X3_joined s1 x1 x2).bind fun q3 => (if q3 = 0 then some (-1 : Int32) else ((f_X3_milesBetween s1 x1 x2).bind fun q4 => some q4)))))))
set_option maxRecDepth 100000 in
set_option maxHeartbeats 4000000 in
theorem c_X11_far (l : Launch) (G : zj_G) (A : Nat → Nat → Nat) (K : Nat → Nat → Option Nat) (s0 : XxT) (s1 : LdT) (x1 : Int32) (x2 : Int32) (r : Int32) (hf : f_X11_far s0 s1 x1 x2 = some r) : zj_C l G M_X11_far yX11_far [w_Xx G A K s0, w_Ld G (A 2) s1] [.ref (A 0 0), .int x1, .int x2] (some (.int r)) (fun _ => [w_Xx G A K s0, w_Ld G (A 2) s1]) := by
  have key : ∀ W0 : List va_W, zj_J l G M_X11_far W0 (zj_ret G M_X11_far W0 (some (.int r)) (fun _ => [w_Xx G A K s0, w_Ld G (A 2) s1])) 0 0 [w_Xx G A K s0, w_Ld G (A 2) s1] [some (.ref (A 0 0)), some (.int x1), some (.int x2)] 0 [] := by
    intro W0
    unfold f_X11_far at hf
    obtain ⟨q1, e1, hf⟩ := zbi_of hf
    refine zr_run [(.aload_n 0, 0, 0, 0, .null), (.getfield 19, 0, 0, 1, .null), (.iload_n 1, 0, 0, 0, .null)] [] (WW' := [w_Xx G A K s0, w_Ld G (A 2) s1]) (lv' := [some (.ref (A 0 0)), some (.int x1), some (.int x2)]) (pc' := 5) (st' := [.int x1, .ref ((A 2) 0)]) (by decide +kernel) rfl rfl ⟨trivial, ⟨rfl, rfl, zw_2_150⟩, trivial, trivial⟩ ?_
    refine zr_callV (c_X3_hasPlace l G (A 2) s1 x1 q1 e1) (WW' := fun _ => [w_Xx G A K s0, w_Ld G (A 2) s1]) (st := []) (st' := [.int q1]) [1] rfl rfl (fun _ => Nat.le_of_ble_eq_true rfl) (fun _ => rfl) rfl rfl nm_X3_hasPlace zw_3_129 zw_3_130 zw_3_131 zw_1_7 zw_3_132 rfl rfl rfl (Nat.le_of_ble_eq_true rfl) ⟨Nat.le_of_ble_eq_true rfl, Nat.le_of_ble_eq_true rfl⟩ (by decide +kernel) (fun _ => ?_)
    refine zr_if_eq (off := 26) (tgt := 34) (by decide +kernel) (by decide) (fun hc => ?_) (fun hc => ?_)
    · have hf := zift hf hc
      refine zr_run [(.iconst (-1), 0, 0, 0, .int (-1 : Int32))] [] (WW' := [w_Xx G A K s0, w_Ld G (A 2) s1]) (lv' := [some (.ref (A 0 0)), some (.int x1), some (.int x2)]) (pc' := 35) (st' := [.int (-1 : Int32)]) (by decide +kernel) rfl rfl ⟨trivial, trivial⟩ ?_
      obtain rfl := Option.some.inj hf
      exact zr_iret (b0 := fun _ => 0) (by decide +kernel) rfl rfl rfl rfl rfl
    · have hf := ziff hf hc
      obtain ⟨q2, e2, hf⟩ := zbi_of hf
      refine zr_run [(.aload_n 0, 0, 0, 0, .null), (.getfield 19, 0, 0, 1, .null), (.iload_n 2, 0, 0, 0, .null)] [] (WW' := [w_Xx G A K s0, w_Ld G (A 2) s1]) (lv' := [some (.ref (A 0 0)), some (.int x1), some (.int x2)]) (pc' := 16) (st' := [.int x2, .ref ((A 2) 0)]) (by decide +kernel) rfl rfl ⟨trivial, ⟨rfl, rfl, zw_2_150⟩, trivial, trivial⟩ ?_
      refine zr_callV (c_X3_hasPlace l G (A 2) s1 x2 q2 e2) (WW' := fun _ => [w_Xx G A K s0, w_Ld G (A 2) s1]) (st := []) (st' := [.int q2]) [1] rfl rfl (fun _ => Nat.le_of_ble_eq_true rfl) (fun _ => rfl) rfl rfl nm_X3_hasPlace zw_3_129 zw_3_130 zw_3_131 zw_1_7 zw_3_132 rfl rfl rfl (Nat.le_of_ble_eq_true rfl) ⟨Nat.le_of_ble_eq_true rfl, Nat.le_of_ble_eq_true rfl⟩ (by decide +kernel) (fun _ => ?_)
      refine zr_if_eq (off := 15) (tgt := 34) (by decide +kernel) (by decide) (fun hc => ?_) (fun hc => ?_)
      · have hf := zift hf hc
        refine zr_run [(.iconst (-1), 0, 0, 0, .int (-1 : Int32))] [] (WW' := [w_Xx G A K s0, w_Ld G (A 2) s1]) (lv' := [some (.ref (A 0 0)), some (.int x1), some (.int x2)]) (pc' := 35) (st' := [.int (-1 : Int32)]) (by decide +kernel) rfl rfl ⟨trivial, trivial⟩ ?_
        obtain rfl := Option.some.inj hf
        exact zr_iret (b0 := fun _ => 0) (by decide +kernel) rfl rfl rfl rfl rfl
      · have hf := ziff hf hc
        obtain ⟨q3, e3, hf⟩ := zbi_of hf
        refine zr_run [(.aload_n 0, 0, 0, 0, .null), (.getfield 19, 0, 0, 1, .null), (.iload_n 1, 0, 0, 0, .null), (.iload_n 2, 0, 0, 0, .null)] [] (WW' := [w_Xx G A K s0, w_Ld G (A 2) s1]) (lv' := [some (.ref (A 0 0)), some (.int x1), some (.int x2)]) (pc' := 28) (st' := [.int x2, .int x1, .ref ((A 2) 0)]) (by decide +kernel) rfl rfl ⟨trivial, ⟨rfl, rfl, zw_2_150⟩, trivial, trivial, trivial⟩ ?_
        refine zr_callV (c_X3_joined l G (A 2) s1 x1 x2 q3 e3) (WW' := fun _ => [w_Xx G A K s0, w_Ld G (A 2) s1]) (st := []) (st' := [.int q3]) [1] rfl rfl (fun _ => Nat.le_of_ble_eq_true rfl) (fun _ => rfl) rfl rfl nm_X3_joined zw_4_65 zw_3_84 zw_3_85 zw_1_7 zw_3_86 rfl rfl rfl (Nat.le_of_ble_eq_true rfl) ⟨Nat.le_of_ble_eq_true rfl, Nat.le_of_ble_eq_true rfl⟩ (by decide +kernel) (fun _ => ?_)
        refine zr_if_ne (off := 5) (tgt := 36) (by decide +kernel) (by decide) (fun hc => ?_) (fun hc => ?_)
        · have hf := zift hf hc
          refine zr_run [(.iconst (-1), 0, 0, 0, .int (-1 : Int32))] [] (WW' := [w_Xx G A K s0, w_Ld G (A 2) s1]) (lv' := [some (.ref (A 0 0)), some (.int x1), some (.int x2)]) (pc' := 35) (st' := [.int (-1 : Int32)]) (by decide +kernel) rfl rfl ⟨trivial, trivial⟩ ?_
          obtain rfl := Option.some.inj hf
          exact zr_iret (b0 := fun _ => 0) (by decide +kernel) rfl rfl rfl rfl rfl
        · have hf := ziff hf hc
          obtain ⟨q4, e4, hf⟩ := zbi_of hf
          refine zr_run [(.aload_n 0, 0, 0, 0, .null), (.getfield 19, 0, 0, 1, .null), (.iload_n 1, 0, 0, 0, .null), (.iload_n 2, 0, 0, 0, .null)] [] (WW' := [w_Xx G A K s0, w_Ld G (A 2) s1]) (lv' := [some (.ref (A 0 0)), some (.int x1), some (.int x2)]) (pc' := 42) (st' := [.int x2, .int x1, .ref ((A 2) 0)]) (by decide +kernel) rfl rfl ⟨trivial, ⟨rfl, rfl, zw_2_150⟩, trivial, trivial, trivial⟩ ?_
          refine zr_callV (c_X3_milesBetween l G (A 2) s1 x1 x2 q4 e4) (WW' := fun _ => [w_Xx G A K s0, w_Ld G (A 2) s1]) (st := []) (st' := [.int q4]) [1] rfl rfl (fun _ => Nat.le_of_ble_eq_true rfl) (fun _ => rfl) rfl rfl nm_X3_milesBetween zw_4_66 zw_3_88 zw_3_89 zw_1_7 zw_3_88n rfl rfl rfl (Nat.le_of_ble_eq_true rfl) ⟨Nat.le_of_ble_eq_true rfl, Nat.le_of_ble_eq_true rfl⟩ (by decide +kernel) (fun _ => ?_)
          obtain rfl := Option.some.inj hf
          exact zr_iret (b0 := fun _ => 0) (by decide +kernel) rfl rfl rfl rfl rfl
  exact zj_entry [some (.ref (A 0 0)), some (.int x1), some (.int x2)] (by decide +kernel) rfl (by decide) (Nat.le_of_ble_eq_true rfl) rfl rfl (key _)
def M_X11_way : zj_M := (RX11, cX11_way, 5, (some .int), { frames := 2, cells := 0, slots := 0, locals := 45 }, false)
theorem nm_X11_way : zj_nm yX11_way 2 := ⟨by decide +kernel, by decide +kernel, by decide +kernel⟩
def f_X11_way_b89  (s0 : XxT) (s1 : LdT)  (x4 : Int32) : Option (Int32 × XxT) := (zlet (Xx_s_latestWayLength s0 x4) fun y5 => some (x4, y5))
def f_X11_way_H48  (s0 : XxT) (s1 : LdT) (k48 : XxT → Int32 → Int32 → Int32 → Option (Int32 × XxT)) (x2 : Int32) (x3 : Int32) (x4 : Int32) : Option (Int32 × XxT) := (if x4 < (10 : Int32) then (if x3 = x2 then f_X11_way_b89 s0 s1 x4 else (if x3 = (-1 : Int32) then f_X11_way_b89 s0 s1 x4 else ((f_X3_nextTo s1 x3 x2).bind fun q6 => (if zb_in x4 10 = true then (zlet (Xx_s_latestWay s0 ((upd (Xx_latestWay s0) x4.toNatClampNeg q6))) fun y8 => k48 y8 x2 q6 (x4 + (1 : Int32))) else none)))) else f_X11_way_b89 s0 s1 x4)
def f_X11_way_L48  (s1 : LdT)  : Nat → XxT → Int32 → Int32 → Int32 → Option (Int32 × XxT)
  | 0 => fun _ _ _ _ => none
  | n + 1 => fun s0 x2 x3 x4 => f_X11_way_H48 s0 s1 (f_X11_way_L48 s1 n) x2 x3 x4
def f_X11_way  (s0 : XxT) (s1 : LdT) (x1 : Int32) (x2 : Int32) : Option (Int32 × XxT) := ((f_X3_hasPlace s1 x1).bind fun q1 => (if q1 = 0 then some ((-1 : Int32), s0) else ((f_X3_hasPlace s1 x2).bind fun q2 => (if q2 = 0 then some ((-1 : Int32), s0) else ((f_X3_joined s1 x1 x2).bind fun q3 => (if q3 = 0 then some ((-1 : Int32), s0) else (zlet (Xx_s_latestWay s0 ((upd (Xx_latestWay s0) (0 : Int32).toNatClampNeg x1))) fun y4 => f_X11_way_L48 s1 zFU y4 x2 x1 (1 : Int32))))))))
set_option maxRecDepth 100000 in
set_option maxHeartbeats 4000000 in
theorem t_X11_way_b89 (l : Launch) (G : zj_G) (A : Nat → Nat → Nat) (K : Nat → Nat → Option Nat) (W0 : List va_W) (r : Int32 × XxT) (s0 : XxT) (s1 : LdT)   (x4 : Int32) (hf : f_X11_way_b89 s0 s1 x4 = some r) : zj_J l G M_X11_way W0 (zj_ret G M_X11_way W0 (some (.int r.1)) (fun _ => [w_Xx G A K r.2, w_Ld G (A 2) s1])) 0 0 [w_Xx G A K s0, w_Ld G (A 2) s1] [some (.ref (A 0 0)), none, none, none, some (.int x4)] 89 [] := by
  unfold f_X11_way_b89 at hf
  obtain ⟨y5, e5, hf⟩ := zlet_of hf
  refine zr_run [(.aload_n 0, 0, 0, 0, .null), (.iload 4, 0, 0, 0, .null), (.putfield 111, 0, 0, 18, .null)] [] (WW' := [w_Xx G A K (Xx_s_latestWayLength s0 x4), w_Ld G (A 2) s1]) (lv' := [some (.ref (A 0 0)), none, none, none, some (.int x4)]) (pc' := 95) (st' := []) (by decide +kernel) rfl rfl ⟨trivial, trivial, ⟨rfl, rfl, rfl, trivial, rfl, rfl, zw_2_167⟩, trivial⟩ ?_
  refine zr_eq (WW2 := [w_Xx G A K y5, w_Ld G (A 2) s1]) (lv2 := [some (.ref (A 0 0)), none, none, none, some (.int x4)]) (st2 := []) (by rw [e5]) rfl rfl ?_
  refine zr_run [(.iload 4, 0, 0, 0, .null)] [] (WW' := [w_Xx G A K y5, w_Ld G (A 2) s1]) (lv' := [some (.ref (A 0 0)), none, none, none, some (.int x4)]) (pc' := 97) (st' := [.int x4]) (by decide +kernel) rfl rfl ⟨trivial, trivial⟩ ?_
  obtain rfl := Option.some.inj hf
  exact zr_iret (b0 := fun _ => 0) (by decide +kernel) rfl rfl rfl rfl rfl
set_option maxRecDepth 100000 in
set_option maxHeartbeats 4000000 in
theorem t_X11_way_H48 (l : Launch) (G : zj_G) (A : Nat → Nat → Nat) (K : Nat → Nat → Option Nat) (W0 : List va_W) (r : Int32 × XxT) (s0 : XxT) (s1 : LdT) (k48 : XxT → Int32 → Int32 → Int32 → Option (Int32 × XxT)) (hk48 : ∀ (s0 : XxT) (x2 : Int32) (x3 : Int32) (x4 : Int32), k48 s0 x2 x3 x4 = some r → zj_J l G M_X11_way W0 (zj_ret G M_X11_way W0 (some (.int r.1)) (fun _ => [w_Xx G A K r.2, w_Ld G (A 2) s1])) 0 0 [w_Xx G A K s0, w_Ld G (A 2) s1] [some (.ref (A 0 0)), none, some (.int x2), some (.int x3), some (.int x4)] 48 []) (x2 : Int32) (x3 : Int32) (x4 : Int32) (hf : f_X11_way_H48 s0 s1 k48 x2 x3 x4 = some r) : zj_J l G M_X11_way W0 (zj_ret G M_X11_way W0 (some (.int r.1)) (fun _ => [w_Xx G A K r.2, w_Ld G (A 2) s1])) 0 0 [w_Xx G A K s0, w_Ld G (A 2) s1] [some (.ref (A 0 0)), none, some (.int x2), some (.int x3), some (.int x4)] 48 [] := by
  unfold f_X11_way_H48 at hf
  refine zr_run [(.iload 4, 0, 0, 0, .null), (.bipush 10, 0, 0, 0, .int (10 : Int32))] [] (WW' := [w_Xx G A K s0, w_Ld G (A 2) s1]) (lv' := [some (.ref (A 0 0)), none, some (.int x2), some (.int x3), some (.int x4)]) (pc' := 52) (st' := [.int (10 : Int32), .int x4]) (by decide +kernel) rfl rfl ⟨trivial, trivial, trivial⟩ ?_
  refine zr_icmp_ge (off := 37) (tgt := 89) (by decide +kernel) (by decide) (fun hc => ?_) (fun hc => ?_)
  · have hf := zift hf hc
    refine zr_run [(.iload_n 3, 0, 0, 0, .null), (.iload_n 2, 0, 0, 0, .null)] [] (WW' := [w_Xx G A K s0, w_Ld G (A 2) s1]) (lv' := [some (.ref (A 0 0)), none, some (.int x2), some (.int x3), some (.int x4)]) (pc' := 57) (st' := [.int x2, .int x3]) (by decide +kernel) rfl rfl ⟨trivial, trivial, trivial⟩ ?_
    refine zr_icmp_eq (off := 32) (tgt := 89) (by decide +kernel) (by decide) (fun hc => ?_) (fun hc => ?_)
    · have hf := zift hf hc
      refine zr_run [] [2, 3] (WW' := [w_Xx G A K s0, w_Ld G (A 2) s1]) (lv' := [some (.ref (A 0 0)), none, none, none, some (.int x4)]) (pc' := 89) (st' := []) (by decide +kernel) rfl rfl trivial ?_
      exact t_X11_way_b89 l G A K W0 r s0 s1 x4 hf
    · have hf := ziff hf hc
      refine zr_run [(.iload_n 3, 0, 0, 0, .null), (.iconst (-1), 0, 0, 0, .int (-1 : Int32))] [] (WW' := [w_Xx G A K s0, w_Ld G (A 2) s1]) (lv' := [some (.ref (A 0 0)), none, some (.int x2), some (.int x3), some (.int x4)]) (pc' := 62) (st' := [.int (-1 : Int32), .int x3]) (by decide +kernel) rfl rfl ⟨trivial, trivial, trivial⟩ ?_
      refine zr_icmp_eq (off := 27) (tgt := 89) (by decide +kernel) (by decide) (fun hc => ?_) (fun hc => ?_)
      · have hf := zift hf hc
        refine zr_run [] [2, 3] (WW' := [w_Xx G A K s0, w_Ld G (A 2) s1]) (lv' := [some (.ref (A 0 0)), none, none, none, some (.int x4)]) (pc' := 89) (st' := []) (by decide +kernel) rfl rfl trivial ?_
        exact t_X11_way_b89 l G A K W0 r s0 s1 x4 hf
      · have hf := ziff hf hc
        obtain ⟨q6, e6, hf⟩ := zbi_of hf
        refine zr_run [(.aload_n 0, 0, 0, 0, .null), (.getfield 19, 0, 0, 1, .null), (.iload_n 3, 0, 0, 0, .null), (.iload_n 2, 0, 0, 0, .null)] [] (WW' := [w_Xx G A K s0, w_Ld G (A 2) s1]) (lv' := [some (.ref (A 0 0)), none, some (.int x2), some (.int x3), some (.int x4)]) (pc' := 71) (st' := [.int x2, .int x3, .ref ((A 2) 0)]) (by decide +kernel) rfl rfl ⟨trivial, ⟨rfl, rfl, zw_2_150⟩, trivial, trivial, trivial⟩ ?_
        refine zr_callV (c_X3_nextTo l G (A 2) s1 x3 x2 q6 e6) (WW' := fun _ => [w_Xx G A K s0, w_Ld G (A 2) s1]) (st := []) (st' := [.int q6]) [1] rfl rfl (fun _ => Nat.le_of_ble_eq_true rfl) (fun _ => rfl) rfl rfl nm_X3_nextTo zw_4_71 zw_4_42 zw_4_43 zw_1_7 zw_4_42n rfl rfl rfl (Nat.le_of_ble_eq_true rfl) ⟨Nat.le_of_ble_eq_true rfl, Nat.le_of_ble_eq_true rfl⟩ (by decide +kernel) (fun _ => ?_)
        obtain ⟨h7, hf⟩ := zck_of hf
        obtain ⟨y8, e8, hf⟩ := zlet_of hf
        refine zr_run [(.istore_n 3, 0, 0, 0, .null), (.aload_n 0, 0, 0, 0, .null), (.getfield 107, 0, 0, 17, .null), (.iload 4, 0, 0, 0, .null), (.iload_n 3, 0, 0, 0, .null), (.iastore, 0, 1, 0, .null)] [] (WW' := [w_Xx G A K (Xx_s_latestWay s0 ((upd (Xx_latestWay s0) x4.toNatClampNeg q6))), w_Ld G (A 2) s1]) (lv' := [some (.ref (A 0 0)), none, some (.int x2), some (.int q6), some (.int x4)]) (pc' := 83) (st' := []) (by decide +kernel) rfl rfl ⟨trivial, trivial, ⟨rfl, rfl, zw_2_166⟩, trivial, trivial, ⟨rfl, rfl, h7⟩, trivial⟩ ?_
        refine zr_eq (WW2 := [w_Xx G A K y8, w_Ld G (A 2) s1]) (lv2 := [some (.ref (A 0 0)), none, some (.int x2), some (.int q6), some (.int x4)]) (st2 := []) (by rw [e8]) rfl rfl ?_
        refine zr_run [(.iinc 4 1, 0, 0, 0, .int (1 : Int32))] [] (WW' := [w_Xx G A K y8, w_Ld G (A 2) s1]) (lv' := [some (.ref (A 0 0)), none, some (.int x2), some (.int q6), some (.int (x4 + (1 : Int32)))]) (pc' := 86) (st' := []) (by decide +kernel) rfl rfl ⟨trivial, trivial⟩ ?_
        refine zr_goto (off := -38) (tgt := 48) (by decide +kernel) (by decide) ?_
        exact hk48 y8 x2 q6 (x4 + (1 : Int32)) hf
  · have hf := ziff hf hc
    refine zr_run [] [2, 3] (WW' := [w_Xx G A K s0, w_Ld G (A 2) s1]) (lv' := [some (.ref (A 0 0)), none, none, none, some (.int x4)]) (pc' := 89) (st' := []) (by decide +kernel) rfl rfl trivial ?_
    exact t_X11_way_b89 l G A K W0 r s0 s1 x4 hf
theorem t_X11_way_L48 (l : Launch) (G : zj_G) (A : Nat → Nat → Nat) (K : Nat → Nat → Option Nat) (W0 : List va_W) (r : Int32 × XxT) (s1 : LdT)   : ∀ (n : Nat) (s0 : XxT) (x2 : Int32) (x3 : Int32) (x4 : Int32), f_X11_way_L48 s1 n s0 x2 x3 x4 = some r → zj_J l G M_X11_way W0 (zj_ret G M_X11_way W0 (some (.int r.1)) (fun _ => [w_Xx G A K r.2, w_Ld G (A 2) s1])) 0 0 [w_Xx G A K s0, w_Ld G (A 2) s1] [some (.ref (A 0 0)), none, some (.int x2), some (.int x3), some (.int x4)] 48 [] := by
  intro n
  induction n with
  | zero => intro s0 x2 x3 x4 hf; exact nomatch (show none = some r from hf)
  | succ n ih => intro s0 x2 x3 x4 hf; exact t_X11_way_H48 l G A K W0 r s0 s1  (f_X11_way_L48 s1 n)  ih x2 x3 x4  hf
set_option maxRecDepth 100000 in
set_option maxHeartbeats 4000000 in
theorem c_X11_way (l : Launch) (G : zj_G) (A : Nat → Nat → Nat) (K : Nat → Nat → Option Nat) (s0 : XxT) (s1 : LdT) (x1 : Int32) (x2 : Int32) (r : Int32 × XxT) (hf : f_X11_way s0 s1 x1 x2 = some r) : zj_C l G M_X11_way yX11_way [w_Xx G A K s0, w_Ld G (A 2) s1] [.ref (A 0 0), .int x1, .int x2] (some (.int r.1)) (fun _ => [w_Xx G A K r.2, w_Ld G (A 2) s1]) := by
  have key : ∀ W0 : List va_W, zj_J l G M_X11_way W0 (zj_ret G M_X11_way W0 (some (.int r.1)) (fun _ => [w_Xx G A K r.2, w_Ld G (A 2) s1])) 0 0 [w_Xx G A K s0, w_Ld G (A 2) s1] [some (.ref (A 0 0)), some (.int x1), some (.int x2), none, none] 0 [] := by
    intro W0
    unfold f_X11_way at hf
    obtain ⟨q1, e1, hf⟩ := zbi_of hf
    refine zr_run [(.aload_n 0, 0, 0, 0, .null), (.getfield 19, 0, 0, 1, .null), (.iload_n 1, 0, 0, 0, .null)] [] (WW' := [w_Xx G A K s0, w_Ld G (A 2) s1]) (lv' := [some (.ref (A 0 0)), some (.int x1), some (.int x2), none, none]) (pc' := 5) (st' := [.int x1, .ref ((A 2) 0)]) (by decide +kernel) rfl rfl ⟨trivial, ⟨rfl, rfl, zw_2_150⟩, trivial, trivial⟩ ?_
    refine zr_callV (c_X3_hasPlace l G (A 2) s1 x1 q1 e1) (WW' := fun _ => [w_Xx G A K s0, w_Ld G (A 2) s1]) (st := []) (st' := [.int q1]) [1] rfl rfl (fun _ => Nat.le_of_ble_eq_true rfl) (fun _ => rfl) rfl rfl nm_X3_hasPlace zw_3_129 zw_3_130 zw_3_131 zw_1_7 zw_3_132 rfl rfl rfl (Nat.le_of_ble_eq_true rfl) ⟨Nat.le_of_ble_eq_true rfl, Nat.le_of_ble_eq_true rfl⟩ (by decide +kernel) (fun _ => ?_)
    refine zr_if_eq (off := 26) (tgt := 34) (by decide +kernel) (by decide) (fun hc => ?_) (fun hc => ?_)
    · have hf := zift hf hc
      refine zr_run [(.iconst (-1), 0, 0, 0, .int (-1 : Int32))] [] (WW' := [w_Xx G A K s0, w_Ld G (A 2) s1]) (lv' := [some (.ref (A 0 0)), some (.int x1), some (.int x2), none, none]) (pc' := 35) (st' := [.int (-1 : Int32)]) (by decide +kernel) rfl rfl ⟨trivial, trivial⟩ ?_
      obtain rfl := Option.some.inj hf
      exact zr_iret (b0 := fun _ => 0) (by decide +kernel) rfl rfl rfl rfl rfl
    · have hf := ziff hf hc
      obtain ⟨q2, e2, hf⟩ := zbi_of hf
      refine zr_run [(.aload_n 0, 0, 0, 0, .null), (.getfield 19, 0, 0, 1, .null), (.iload_n 2, 0, 0, 0, .null)] [] (WW' := [w_Xx G A K s0, w_Ld G (A 2) s1]) (lv' := [some (.ref (A 0 0)), some (.int x1), some (.int x2), none, none]) (pc' := 16) (st' := [.int x2, .ref ((A 2) 0)]) (by decide +kernel) rfl rfl ⟨trivial, ⟨rfl, rfl, zw_2_150⟩, trivial, trivial⟩ ?_
      refine zr_callV (c_X3_hasPlace l G (A 2) s1 x2 q2 e2) (WW' := fun _ => [w_Xx G A K s0, w_Ld G (A 2) s1]) (st := []) (st' := [.int q2]) [1] rfl rfl (fun _ => Nat.le_of_ble_eq_true rfl) (fun _ => rfl) rfl rfl nm_X3_hasPlace zw_3_129 zw_3_130 zw_3_131 zw_1_7 zw_3_132 rfl rfl rfl (Nat.le_of_ble_eq_true rfl) ⟨Nat.le_of_ble_eq_true rfl, Nat.le_of_ble_eq_true rfl⟩ (by decide +kernel) (fun _ => ?_)
      refine zr_if_eq (off := 15) (tgt := 34) (by decide +kernel) (by decide) (fun hc => ?_) (fun hc => ?_)
      · have hf := zift hf hc
        refine zr_run [(.iconst (-1), 0, 0, 0, .int (-1 : Int32))] [] (WW' := [w_Xx G A K s0, w_Ld G (A 2) s1]) (lv' := [some (.ref (A 0 0)), some (.int x1), some (.int x2), none, none]) (pc' := 35) (st' := [.int (-1 : Int32)]) (by decide +kernel) rfl rfl ⟨trivial, trivial⟩ ?_
        obtain rfl := Option.some.inj hf
        exact zr_iret (b0 := fun _ => 0) (by decide +kernel) rfl rfl rfl rfl rfl
      · have hf := ziff hf hc
        obtain ⟨q3, e3, hf⟩ := zbi_of hf
        refine zr_run [(.aload_n 0, 0, 0, 0, .null), (.getfield 19, 0, 0, 1, .null), (.iload_n 1, 0, 0, 0, .null), (.iload_n 2, 0, 0, 0, .null)] [] (WW' := [w_Xx G A K s0, w_Ld G (A 2) s1]) (lv' := [some (.ref (A 0 0)), some (.int x1), some (.int x2), none, none]) (pc' := 28) (st' := [.int x2, .int x1, .ref ((A 2) 0)]) (by decide +kernel) rfl rfl ⟨trivial, ⟨rfl, rfl, zw_2_150⟩, trivial, trivial, trivial⟩ ?_
        refine zr_callV (c_X3_joined l G (A 2) s1 x1 x2 q3 e3) (WW' := fun _ => [w_Xx G A K s0, w_Ld G (A 2) s1]) (st := []) (st' := [.int q3]) [1] rfl rfl (fun _ => Nat.le_of_ble_eq_true rfl) (fun _ => rfl) rfl rfl nm_X3_joined zw_4_65 zw_3_84 zw_3_85 zw_1_7 zw_3_86 rfl rfl rfl (Nat.le_of_ble_eq_true rfl) ⟨Nat.le_of_ble_eq_true rfl, Nat.le_of_ble_eq_true rfl⟩ (by decide +kernel) (fun _ => ?_)
        refine zr_if_ne (off := 5) (tgt := 36) (by decide +kernel) (by decide) (fun hc => ?_) (fun hc => ?_)
        · have hf := zift hf hc
          refine zr_run [(.iconst (-1), 0, 0, 0, .int (-1 : Int32))] [] (WW' := [w_Xx G A K s0, w_Ld G (A 2) s1]) (lv' := [some (.ref (A 0 0)), some (.int x1), some (.int x2), none, none]) (pc' := 35) (st' := [.int (-1 : Int32)]) (by decide +kernel) rfl rfl ⟨trivial, trivial⟩ ?_
          obtain rfl := Option.some.inj hf
          exact zr_iret (b0 := fun _ => 0) (by decide +kernel) rfl rfl rfl rfl rfl
        · have hf := ziff hf hc
          obtain ⟨y4, e4, hf⟩ := zlet_of hf
          refine zr_run [(.iload_n 1, 0, 0, 0, .null), (.istore_n 3, 0, 0, 0, .null), (.aload_n 0, 0, 0, 0, .null), (.getfield 107, 0, 0, 17, .null), (.iconst 0, 0, 0, 0, .int (0 : Int32)), (.iload_n 1, 0, 0, 0, .null), (.iastore, 0, 1, 0, .null)] [] (WW' := [w_Xx G A K (Xx_s_latestWay s0 ((upd (Xx_latestWay s0) (0 : Int32).toNatClampNeg x1))), w_Ld G (A 2) s1]) (lv' := [some (.ref (A 0 0)), some (.int x1), some (.int x2), some (.int x1), none]) (pc' := 45) (st' := []) (by decide +kernel) rfl rfl ⟨trivial, trivial, trivial, ⟨rfl, rfl, zw_2_166⟩, trivial, trivial, ⟨rfl, rfl, (by decide)⟩, trivial⟩ ?_
          refine zr_eq (WW2 := [w_Xx G A K y4, w_Ld G (A 2) s1]) (lv2 := [some (.ref (A 0 0)), some (.int x1), some (.int x2), some (.int x1), none]) (st2 := []) (by rw [e4]) rfl rfl ?_
          refine zr_run [(.iconst 1, 0, 0, 0, .int (1 : Int32)), (.istore 4, 0, 0, 0, .null)] [1] (WW' := [w_Xx G A K y4, w_Ld G (A 2) s1]) (lv' := [some (.ref (A 0 0)), none, some (.int x2), some (.int x1), some (.int (1 : Int32))]) (pc' := 48) (st' := []) (by decide +kernel) rfl rfl ⟨trivial, trivial, trivial⟩ ?_
          exact t_X11_way_L48 l G A K W0 r s1 zFU y4 x2 x1 (1 : Int32) hf
  exact zj_entry [some (.ref (A 0 0)), some (.int x1), some (.int x2), none, none] (by decide +kernel) rfl (by decide) (Nat.le_of_ble_eq_true rfl) rfl rfl (key _)
def M_X11_wayAt : zj_M := (RX11, cX11_wayAt, 2, (some .int), { frames := 0, cells := 0, slots := 0, locals := 0 }, false)
theorem nm_X11_wayAt : zj_nm yX11_wayAt 1 := ⟨by decide +kernel, by decide +kernel, by decide +kernel⟩
def f_X11_wayAt_b12  (s0 : XxT)   : Option (Int32) := some (-1 : Int32)
def f_X11_wayAt  (s0 : XxT) (x1 : Int32) : Option (Int32) := (if x1 < 0 then f_X11_wayAt_b12 s0 else (if x1 < (Xx_latestWayLength s0) then (if zb_in x1 10 = true then some ((Xx_latestWay s0) x1.toNatClampNeg) else none) else f_X11_wayAt_b12 s0))
set_option maxRecDepth 100000 in
set_option maxHeartbeats 4000000 in
theorem t_X11_wayAt_b12 (l : Launch) (G : zj_G) (A : Nat → Nat → Nat) (K : Nat → Nat → Option Nat) (W0 : List va_W) (r : Int32) (s0 : XxT)    (hf : f_X11_wayAt_b12 s0 = some r) : zj_J l G M_X11_wayAt W0 (zj_ret G M_X11_wayAt W0 (some (.int r)) (fun _ => [w_Xx G A K s0])) 0 0 [w_Xx G A K s0] [none, none] 12 [] := by
  unfold f_X11_wayAt_b12 at hf
  refine zr_run [(.iconst (-1), 0, 0, 0, .int (-1 : Int32))] [] (WW' := [w_Xx G A K s0]) (lv' := [none, none]) (pc' := 13) (st' := [.int (-1 : Int32)]) (by decide +kernel) rfl rfl ⟨trivial, trivial⟩ ?_
  refine zr_goto (off := 9) (tgt := 22) (by decide +kernel) (by decide) ?_
  obtain rfl := Option.some.inj hf
  exact zr_iret (b0 := fun _ => 0) (by decide +kernel) rfl rfl rfl rfl rfl
set_option maxRecDepth 100000 in
set_option maxHeartbeats 4000000 in
theorem c_X11_wayAt (l : Launch) (G : zj_G) (A : Nat → Nat → Nat) (K : Nat → Nat → Option Nat) (s0 : XxT) (x1 : Int32) (r : Int32) (hf : f_X11_wayAt s0 x1 = some r) : zj_C l G M_X11_wayAt yX11_wayAt [w_Xx G A K s0] [.ref (A 0 0), .int x1] (some (.int r)) (fun _ => [w_Xx G A K s0]) := by
  have key : ∀ W0 : List va_W, zj_J l G M_X11_wayAt W0 (zj_ret G M_X11_wayAt W0 (some (.int r)) (fun _ => [w_Xx G A K s0])) 0 0 [w_Xx G A K s0] [some (.ref (A 0 0)), some (.int x1)] 0 [] := by
    intro W0
    unfold f_X11_wayAt at hf
    refine zr_run [(.iload_n 1, 0, 0, 0, .null)] [] (WW' := [w_Xx G A K s0]) (lv' := [some (.ref (A 0 0)), some (.int x1)]) (pc' := 1) (st' := [.int x1]) (by decide +kernel) rfl rfl ⟨trivial, trivial⟩ ?_
    refine zr_if_lt (off := 11) (tgt := 12) (by decide +kernel) (by decide) (fun hc => ?_) (fun hc => ?_)
    · have hf := zift hf hc
      refine zr_run [] [0, 1] (WW' := [w_Xx G A K s0]) (lv' := [none, none]) (pc' := 12) (st' := []) (by decide +kernel) rfl rfl trivial ?_
      exact t_X11_wayAt_b12 l G A K W0 r s0 hf
    · have hf := ziff hf hc
      refine zr_run [(.iload_n 1, 0, 0, 0, .null), (.aload_n 0, 0, 0, 0, .null), (.getfield 111, 0, 0, 18, .null)] [] (WW' := [w_Xx G A K s0]) (lv' := [some (.ref (A 0 0)), some (.int x1)]) (pc' := 9) (st' := [.int (Xx_latestWayLength s0), .int x1]) (by decide +kernel) rfl rfl ⟨trivial, trivial, ⟨rfl, rfl, zw_2_167⟩, trivial⟩ ?_
      refine zr_icmp_lt (off := 7) (tgt := 16) (by decide +kernel) (by decide) (fun hc => ?_) (fun hc => ?_)
      · have hf := zift hf hc
        obtain ⟨h1, hf⟩ := zck_of hf
        refine zr_run [(.aload_n 0, 0, 0, 0, .null), (.getfield 107, 0, 0, 17, .null), (.iload_n 1, 0, 0, 0, .null), (.iaload, 0, 1, 0, .null)] [] (WW' := [w_Xx G A K s0]) (lv' := [some (.ref (A 0 0)), some (.int x1)]) (pc' := 22) (st' := [.int ((Xx_latestWay s0) x1.toNatClampNeg)]) (by decide +kernel) rfl rfl ⟨trivial, ⟨rfl, rfl, zw_2_166⟩, trivial, ⟨rfl, rfl, h1⟩, trivial⟩ ?_
        obtain rfl := Option.some.inj hf
        exact zr_iret (b0 := fun _ => 0) (by decide +kernel) rfl rfl rfl rfl rfl
      · have hf := ziff hf hc
        refine zr_run [] [0, 1] (WW' := [w_Xx G A K s0]) (lv' := [none, none]) (pc' := 12) (st' := []) (by decide +kernel) rfl rfl trivial ?_
        exact t_X11_wayAt_b12 l G A K W0 r s0 hf
  exact zj_entry [some (.ref (A 0 0)), some (.int x1)] (by decide +kernel) rfl (by decide) (Nat.le_of_ble_eq_true rfl) rfl rfl (key _)
def M_X11_plan : zj_M := (RX11, cX11_plan, 3, (some .long), { frames := 6, cells := 1, slots := 6, locals := 108 }, false)
theorem nm_X11_plan : zj_nm yX11_plan 2 := ⟨by decide +kernel, by decide +kernel, by decide +kernel⟩
def f_X11_plan_b20  (s0 : XxT) (s1 : LdT) (s2 : FkT) (s3 : PlT)   : Option (Option (Int64 × PlT)) := some none
def f_X11_plan_b54  (s0 : XxT) (s1 : LdT) (s2 : FkT) (s3 : PlT)   : Option (Option (Int64 × PlT)) := some none
def f_X11_plan  (s0 : XxT) (s1 : LdT) (s2 : FkT) (s3 : PlT) (x1 : Int32) (x2 : Int32) : Option (Option (Int64 × PlT)) := ((f_X3_hasMan s1 x1).bind fun q1 => (if q1 = 0 then f_X11_plan_b20 s0 s1 s2 s3 else (if x2 < 0 then f_X11_plan_b20 s0 s1 s2 s3 else (if (1 : Int32) < x2 then f_X11_plan_b20 s0 s1 s2 s3 else ((f_X1_of s2 x1 (0 : Int32)).bind fun q2 => (if q2 = (1 : Int32) then ((f_X1_daysYet s2 x1).bind fun q3 => (if (12 : Int32) < q3 then f_X11_plan_b54 s0 s1 s2 s3 else ((f_X6_think s3 s1 s2 x1).bind fun q4 => (if x2 = 0 then some (some ((Pl_above q4), q4)) else some (some ((Pl_below q4), q4)))))) else f_X11_plan_b54 s0 s1 s2 s3))))))
set_option maxRecDepth 100000 in
set_option maxHeartbeats 4000000 in
theorem t_X11_plan_b20 (l : Launch) (G : zj_G) (hl : l.stackTraces = false) (A : Nat → Nat → Nat) (K : Nat → Nat → Option Nat) (W0 : List va_W) (r : Option (Int64 × PlT)) (s0 : XxT) (s1 : LdT) (s2 : FkT) (s3 : PlT)    (hf : f_X11_plan_b20 s0 s1 s2 s3 = some r) : zj_J l G M_X11_plan W0 (zj_thr G M_X11_plan W0 (r.map fun q => some (.long q.1)) (fun _ => [w_Xx G A K s0, w_Ld G (A 2) s1, w_Fk G (A 4) s2, w_Pl G (A 18) (r.elim s3 fun q => q.2)])) 0 0 [w_Xx G A K s0, w_Ld G (A 2) s1, w_Fk G (A 4) s2, w_Pl G (A 18) s3] [none, none, none] 20 [] := by
  unfold f_X11_plan_b20 at hf
  obtain rfl := Option.some.inj hf
  exact zr_throw (b0 := fun _ => 0) hl rfl zw_5_147 zw_1_22 (by decide +kernel) (by decide +kernel) (by decide +kernel) (by decide +kernel) (by decide) (by decide) ⟨Nat.le_of_ble_eq_true rfl, Nat.le_of_ble_eq_true rfl⟩ rfl
set_option maxRecDepth 100000 in
set_option maxHeartbeats 4000000 in
theorem t_X11_plan_b54 (l : Launch) (G : zj_G) (hl : l.stackTraces = false) (A : Nat → Nat → Nat) (K : Nat → Nat → Option Nat) (W0 : List va_W) (r : Option (Int64 × PlT)) (s0 : XxT) (s1 : LdT) (s2 : FkT) (s3 : PlT)    (hf : f_X11_plan_b54 s0 s1 s2 s3 = some r) : zj_J l G M_X11_plan W0 (zj_thr G M_X11_plan W0 (r.map fun q => some (.long q.1)) (fun _ => [w_Xx G A K s0, w_Ld G (A 2) s1, w_Fk G (A 4) s2, w_Pl G (A 18) (r.elim s3 fun q => q.2)])) 0 0 [w_Xx G A K s0, w_Ld G (A 2) s1, w_Fk G (A 4) s2, w_Pl G (A 18) s3] [none, none, none] 54 [] := by
  unfold f_X11_plan_b54 at hf
  obtain rfl := Option.some.inj hf
  exact zr_throw (b0 := fun _ => 0) hl rfl zw_5_147 zw_1_22 (by decide +kernel) (by decide +kernel) (by decide +kernel) (by decide +kernel) (by decide) (by decide) ⟨Nat.le_of_ble_eq_true rfl, Nat.le_of_ble_eq_true rfl⟩ rfl
set_option maxRecDepth 100000 in
set_option maxHeartbeats 4000000 in
theorem c_X11_plan (l : Launch) (G : zj_G) (hl : l.stackTraces = false) (A : Nat → Nat → Nat) (K : Nat → Nat → Option Nat) (s0 : XxT) (s1 : LdT) (s2 : FkT) (s3 : PlT) (x1 : Int32) (x2 : Int32) (r : Option (Int64 × PlT)) (hf : f_X11_plan s0 s1 s2 s3 x1 x2 = some r) : zj_CX l G M_X11_plan yX11_plan [w_Xx G A K s0, w_Ld G (A 2) s1, w_Fk G (A 4) s2, w_Pl G (A 18) s3] [.ref (A 0 0), .int x1, .int x2] ((r.map fun q => some (.long q.1))) (fun _ => [w_Xx G A K s0, w_Ld G (A 2) s1, w_Fk G (A 4) s2, w_Pl G (A 18) (r.elim s3 fun q => q.2)]) := by
  have key : ∀ W0 : List va_W, zj_J l G M_X11_plan W0 (zj_thr G M_X11_plan W0 (r.map fun q => some (.long q.1)) (fun _ => [w_Xx G A K s0, w_Ld G (A 2) s1, w_Fk G (A 4) s2, w_Pl G (A 18) (r.elim s3 fun q => q.2)])) 0 0 [w_Xx G A K s0, w_Ld G (A 2) s1, w_Fk G (A 4) s2, w_Pl G (A 18) s3] [some (.ref (A 0 0)), some (.int x1), some (.int x2)] 0 [] := by
    intro W0
    unfold f_X11_plan at hf
    obtain ⟨q1, e1, hf⟩ := zbi_of hf
    refine zr_run [(.aload_n 0, 0, 0, 0, .null), (.getfield 19, 0, 0, 1, .null), (.iload_n 1, 0, 0, 0, .null)] [] (WW' := [w_Xx G A K s0, w_Ld G (A 2) s1, w_Fk G (A 4) s2, w_Pl G (A 18) s3]) (lv' := [some (.ref (A 0 0)), some (.int x1), some (.int x2)]) (pc' := 5) (st' := [.int x1, .ref ((A 2) 0)]) (by decide +kernel) rfl rfl ⟨trivial, ⟨rfl, rfl, zw_2_150⟩, trivial, trivial⟩ ?_
    refine zr_callV (c_X3_hasMan l G (A 2) s1 x1 q1 e1) (WW' := fun _ => [w_Xx G A K s0, w_Ld G (A 2) s1, w_Fk G (A 4) s2, w_Pl G (A 18) s3]) (st := []) (st' := [.int q1]) [1] rfl rfl (fun _ => Nat.le_of_ble_eq_true rfl) (fun _ => rfl) rfl rfl nm_X3_hasMan zw_3_168 zw_3_169 zw_3_170 zw_1_7 zw_3_171 rfl rfl rfl (Nat.le_of_ble_eq_true rfl) ⟨Nat.le_of_ble_eq_true rfl, Nat.le_of_ble_eq_true rfl⟩ (by decide +kernel) (fun _ => ?_)
    refine zr_if_eq (off := 12) (tgt := 20) (by decide +kernel) (by decide) (fun hc => ?_) (fun hc => ?_)
    · have hf := zift hf hc
      refine zr_run [] [0, 1, 2] (WW' := [w_Xx G A K s0, w_Ld G (A 2) s1, w_Fk G (A 4) s2, w_Pl G (A 18) s3]) (lv' := [none, none, none]) (pc' := 20) (st' := []) (by decide +kernel) rfl rfl trivial ?_
      exact t_X11_plan_b20 l G hl A K W0 r s0 s1 s2 s3 hf
    · have hf := ziff hf hc
      refine zr_run [(.iload_n 2, 0, 0, 0, .null)] [] (WW' := [w_Xx G A K s0, w_Ld G (A 2) s1, w_Fk G (A 4) s2, w_Pl G (A 18) s3]) (lv' := [some (.ref (A 0 0)), some (.int x1), some (.int x2)]) (pc' := 12) (st' := [.int x2]) (by decide +kernel) rfl rfl ⟨trivial, trivial⟩ ?_
      refine zr_if_lt (off := 8) (tgt := 20) (by decide +kernel) (by decide) (fun hc => ?_) (fun hc => ?_)
      · have hf := zift hf hc
        refine zr_run [] [0, 1, 2] (WW' := [w_Xx G A K s0, w_Ld G (A 2) s1, w_Fk G (A 4) s2, w_Pl G (A 18) s3]) (lv' := [none, none, none]) (pc' := 20) (st' := []) (by decide +kernel) rfl rfl trivial ?_
        exact t_X11_plan_b20 l G hl A K W0 r s0 s1 s2 s3 hf
      · have hf := ziff hf hc
        refine zr_run [(.iload_n 2, 0, 0, 0, .null), (.iconst 1, 0, 0, 0, .int (1 : Int32))] [] (WW' := [w_Xx G A K s0, w_Ld G (A 2) s1, w_Fk G (A 4) s2, w_Pl G (A 18) s3]) (lv' := [some (.ref (A 0 0)), some (.int x1), some (.int x2)]) (pc' := 17) (st' := [.int (1 : Int32), .int x2]) (by decide +kernel) rfl rfl ⟨trivial, trivial, trivial⟩ ?_
        refine zr_icmp_le (off := 11) (tgt := 28) (by decide +kernel) (by decide) (fun hc => ?_) (fun hc => ?_)
        · have hf := zift hf hc
          refine zr_run [] [0, 1, 2] (WW' := [w_Xx G A K s0, w_Ld G (A 2) s1, w_Fk G (A 4) s2, w_Pl G (A 18) s3]) (lv' := [none, none, none]) (pc' := 20) (st' := []) (by decide +kernel) rfl rfl trivial ?_
          exact t_X11_plan_b20 l G hl A K W0 r s0 s1 s2 s3 hf
        · have hf := ziff hf hc
          obtain ⟨q2, e2, hf⟩ := zbi_of hf
          refine zr_run [(.aload_n 0, 0, 0, 0, .null), (.getfield 29, 0, 0, 3, .null), (.iload_n 1, 0, 0, 0, .null), (.iconst 0, 0, 0, 0, .int (0 : Int32))] [] (WW' := [w_Xx G A K s0, w_Ld G (A 2) s1, w_Fk G (A 4) s2, w_Pl G (A 18) s3]) (lv' := [some (.ref (A 0 0)), some (.int x1), some (.int x2)]) (pc' := 34) (st' := [.int (0 : Int32), .int x1, .ref ((A 4) 0)]) (by decide +kernel) rfl rfl ⟨trivial, ⟨rfl, rfl, zw_2_152⟩, trivial, trivial, trivial⟩ ?_
          refine zr_callV (c_X1_of l G (A 4) s2 x1 (0 : Int32) q2 e2) (WW' := fun _ => [w_Xx G A K s0, w_Ld G (A 2) s1, w_Fk G (A 4) s2, w_Pl G (A 18) s3]) (st := []) (st' := [.int q2]) [2] rfl rfl (fun _ => Nat.le_of_ble_eq_true rfl) (fun _ => rfl) rfl rfl nm_X1_of zw_4_168 zw_3_142 zw_3_143 zw_1_8 zw_3_142n rfl rfl rfl (Nat.le_of_ble_eq_true rfl) ⟨Nat.le_of_ble_eq_true rfl, Nat.le_of_ble_eq_true rfl⟩ (by decide +kernel) (fun _ => ?_)
          refine zr_run [(.iconst 1, 0, 0, 0, .int (1 : Int32))] [] (WW' := [w_Xx G A K s0, w_Ld G (A 2) s1, w_Fk G (A 4) s2, w_Pl G (A 18) s3]) (lv' := [some (.ref (A 0 0)), some (.int x1), some (.int x2)]) (pc' := 38) (st' := [.int (1 : Int32), .int q2]) (by decide +kernel) rfl rfl ⟨trivial, trivial⟩ ?_
          refine zr_icmp_ne (off := 16) (tgt := 54) (by decide +kernel) (by decide) (fun hc => ?_) (fun hc => ?_)
          · have hf := zift hf hc
            obtain ⟨q3, e3, hf⟩ := zbi_of hf
            refine zr_run [(.aload_n 0, 0, 0, 0, .null), (.getfield 29, 0, 0, 3, .null), (.iload_n 1, 0, 0, 0, .null)] [] (WW' := [w_Xx G A K s0, w_Ld G (A 2) s1, w_Fk G (A 4) s2, w_Pl G (A 18) s3]) (lv' := [some (.ref (A 0 0)), some (.int x1), some (.int x2)]) (pc' := 46) (st' := [.int x1, .ref ((A 4) 0)]) (by decide +kernel) rfl rfl ⟨trivial, ⟨rfl, rfl, zw_2_152⟩, trivial, trivial⟩ ?_
            refine zr_callV (c_X1_daysYet l G (A 4) s2 x1 q3 e3) (WW' := fun _ => [w_Xx G A K s0, w_Ld G (A 2) s1, w_Fk G (A 4) s2, w_Pl G (A 18) s3]) (st := []) (st' := [.int q3]) [2] rfl rfl (fun _ => Nat.le_of_ble_eq_true rfl) (fun _ => rfl) rfl rfl nm_X1_daysYet zw_4_209 zw_4_210 zw_4_211 zw_1_8 zw_4_212 rfl rfl rfl (Nat.le_of_ble_eq_true rfl) ⟨Nat.le_of_ble_eq_true rfl, Nat.le_of_ble_eq_true rfl⟩ (by decide +kernel) (fun _ => ?_)
            refine zr_run [(.bipush 12, 0, 0, 0, .int (12 : Int32))] [] (WW' := [w_Xx G A K s0, w_Ld G (A 2) s1, w_Fk G (A 4) s2, w_Pl G (A 18) s3]) (lv' := [some (.ref (A 0 0)), some (.int x1), some (.int x2)]) (pc' := 51) (st' := [.int (12 : Int32), .int q3]) (by decide +kernel) rfl rfl ⟨trivial, trivial⟩ ?_
            refine zr_icmp_le (off := 11) (tgt := 62) (by decide +kernel) (by decide) (fun hc => ?_) (fun hc => ?_)
            · have hf := zift hf hc
              refine zr_run [] [0, 1, 2] (WW' := [w_Xx G A K s0, w_Ld G (A 2) s1, w_Fk G (A 4) s2, w_Pl G (A 18) s3]) (lv' := [none, none, none]) (pc' := 54) (st' := []) (by decide +kernel) rfl rfl trivial ?_
              exact t_X11_plan_b54 l G hl A K W0 r s0 s1 s2 s3 hf
            · have hf := ziff hf hc
              obtain ⟨q4, e4, hf⟩ := zbi_of hf
              refine zr_run [(.aload_n 0, 0, 0, 0, .null), (.getfield 75, 0, 0, 12, .null), (.aload_n 0, 0, 0, 0, .null), (.getfield 19, 0, 0, 1, .null), (.aload_n 0, 0, 0, 0, .null), (.getfield 29, 0, 0, 3, .null), (.iload_n 1, 0, 0, 0, .null)] [] (WW' := [w_Xx G A K s0, w_Ld G (A 2) s1, w_Fk G (A 4) s2, w_Pl G (A 18) s3]) (lv' := [some (.ref (A 0 0)), some (.int x1), some (.int x2)]) (pc' := 75) (st' := [.int x1, .ref ((A 4) 0), .ref ((A 2) 0), .ref ((A 18) 0)]) (by decide +kernel) rfl rfl ⟨trivial, ⟨rfl, rfl, zw_2_161⟩, trivial, ⟨rfl, rfl, zw_2_150⟩, trivial, ⟨rfl, rfl, zw_2_152⟩, trivial, trivial⟩ ?_
              refine zr_callV (c_X6_think l G (A 18) (A 2) (A 4) s3 s1 s2 x1 q4 e4) (WW' := fun _ => [w_Xx G A K s0, w_Ld G (A 2) s1, w_Fk G (A 4) s2, w_Pl G (A 18) q4]) (st := []) (st' := []) [3, 1, 2] rfl rfl (fun _ => Nat.le_of_ble_eq_true rfl) (fun _ => rfl) rfl rfl nm_X6_think zw_5_215 zw_5_216 zw_5_217 zw_1_12 zw_5_218 rfl rfl rfl (Nat.le_of_ble_eq_true rfl) ⟨Nat.le_of_ble_eq_true rfl, Nat.le_of_ble_eq_true rfl⟩ (by decide +kernel) (fun _ => ?_)
              refine zr_run [(.iload_n 2, 0, 0, 0, .null)] [] (WW' := [w_Xx G A K s0, w_Ld G (A 2) s1, w_Fk G (A 4) s2, w_Pl G (A 18) q4]) (lv' := [some (.ref (A 0 0)), some (.int x1), some (.int x2)]) (pc' := 79) (st' := [.int x2]) (by decide +kernel) rfl rfl ⟨trivial, trivial⟩ ?_
              refine zr_if_ne (off := 13) (tgt := 92) (by decide +kernel) (by decide) (fun hc => ?_) (fun hc => ?_)
              · have hf := zift hf hc
                refine zr_run [(.aload_n 0, 0, 0, 0, .null), (.getfield 75, 0, 0, 12, .null), (.getfield 253, 3, 0, 0, .null)] [] (WW' := [w_Xx G A K s0, w_Ld G (A 2) s1, w_Fk G (A 4) s2, w_Pl G (A 18) q4]) (lv' := [some (.ref (A 0 0)), some (.int x1), some (.int x2)]) (pc' := 89) (st' := [.long (Pl_above q4)]) (by decide +kernel) rfl rfl ⟨trivial, ⟨rfl, rfl, zw_2_161⟩, ⟨rfl, rfl, zw_2_59⟩, trivial⟩ ?_
                refine zr_goto (off := 10) (tgt := 99) (by decide +kernel) (by decide) ?_
                obtain rfl := Option.some.inj hf
                refine zj_toX ?_
                refine zr_widen (k2 := 1) (n2 := 6) (Nat.le_of_ble_eq_true rfl) (Nat.le_of_ble_eq_true rfl) ?_
                exact zr_lret (b0 := fun _ => 0) (by decide +kernel) rfl rfl rfl rfl rfl
              · have hf := ziff hf hc
                refine zr_run [(.aload_n 0, 0, 0, 0, .null), (.getfield 75, 0, 0, 12, .null), (.getfield 257, 3, 0, 1, .null)] [] (WW' := [w_Xx G A K s0, w_Ld G (A 2) s1, w_Fk G (A 4) s2, w_Pl G (A 18) q4]) (lv' := [some (.ref (A 0 0)), some (.int x1), some (.int x2)]) (pc' := 99) (st' := [.long (Pl_below q4)]) (by decide +kernel) rfl rfl ⟨trivial, ⟨rfl, rfl, zw_2_161⟩, ⟨rfl, rfl, zw_2_61⟩, trivial⟩ ?_
                obtain rfl := Option.some.inj hf
                refine zj_toX ?_
                refine zr_widen (k2 := 1) (n2 := 6) (Nat.le_of_ble_eq_true rfl) (Nat.le_of_ble_eq_true rfl) ?_
                exact zr_lret (b0 := fun _ => 0) (by decide +kernel) rfl rfl rfl rfl rfl
          · have hf := ziff hf hc
            refine zr_run [] [0, 1, 2] (WW' := [w_Xx G A K s0, w_Ld G (A 2) s1, w_Fk G (A 4) s2, w_Pl G (A 18) s3]) (lv' := [none, none, none]) (pc' := 54) (st' := []) (by decide +kernel) rfl rfl trivial ?_
            exact t_X11_plan_b54 l G hl A K W0 r s0 s1 s2 s3 hf
  exact zj_entryX [some (.ref (A 0 0)), some (.int x1), some (.int x2)] (by decide +kernel) rfl (by decide) (Nat.le_of_ble_eq_true rfl) rfl rfl (key _)
def M_X11_planAt : zj_M := (RX11, cX11_planAt, 2, (some .int), { frames := 1, cells := 0, slots := 0, locals := 21 }, false)
theorem nm_X11_planAt : zj_nm yX11_planAt 1 := ⟨by decide +kernel, by decide +kernel, by decide +kernel⟩
def f_X11_planAt  (s0 : XxT) (s1 : PlT) (x1 : Int32) : Option (Int32) := ((f_X6_milesOn s1 x1).bind fun q1 => some q1)
set_option maxRecDepth 100000 in
set_option maxHeartbeats 4000000 in
theorem c_X11_planAt (l : Launch) (G : zj_G) (A : Nat → Nat → Nat) (K : Nat → Nat → Option Nat) (s0 : XxT) (s1 : PlT) (x1 : Int32) (r : Int32) (hf : f_X11_planAt s0 s1 x1 = some r) : zj_C l G M_X11_planAt yX11_planAt [w_Xx G A K s0, w_Pl G (A 18) s1] [.ref (A 0 0), .int x1] (some (.int r)) (fun _ => [w_Xx G A K s0, w_Pl G (A 18) s1]) := by
  have key : ∀ W0 : List va_W, zj_J l G M_X11_planAt W0 (zj_ret G M_X11_planAt W0 (some (.int r)) (fun _ => [w_Xx G A K s0, w_Pl G (A 18) s1])) 0 0 [w_Xx G A K s0, w_Pl G (A 18) s1] [some (.ref (A 0 0)), some (.int x1)] 0 [] := by
    intro W0
    unfold f_X11_planAt at hf
    obtain ⟨q1, e1, hf⟩ := zbi_of hf
    refine zr_run [(.aload_n 0, 0, 0, 0, .null), (.getfield 75, 0, 0, 12, .null), (.iload_n 1, 0, 0, 0, .null)] [] (WW' := [w_Xx G A K s0, w_Pl G (A 18) s1]) (lv' := [some (.ref (A 0 0)), some (.int x1)]) (pc' := 5) (st' := [.int x1, .ref ((A 18) 0)]) (by decide +kernel) rfl rfl ⟨trivial, ⟨rfl, rfl, zw_2_161⟩, trivial, trivial⟩ ?_
    refine zr_callV (c_X6_milesOn l G (A 18) s1 x1 q1 e1) (WW' := fun _ => [w_Xx G A K s0, w_Pl G (A 18) s1]) (st := []) (st' := [.int q1]) [1] rfl rfl (fun _ => Nat.le_of_ble_eq_true rfl) (fun _ => rfl) rfl rfl nm_X6_milesOn zw_4_80 zw_4_81 zw_4_82 zw_1_12 zw_4_83 rfl rfl rfl (Nat.le_of_ble_eq_true rfl) ⟨Nat.le_of_ble_eq_true rfl, Nat.le_of_ble_eq_true rfl⟩ (by decide +kernel) (fun _ => ?_)
    obtain rfl := Option.some.inj hf
    exact zr_iret (b0 := fun _ => 0) (by decide +kernel) rfl rfl rfl rfl rfl
  exact zj_entry [some (.ref (A 0 0)), some (.int x1)] (by decide +kernel) rfl (by decide) (Nat.le_of_ble_eq_true rfl) rfl rfl (key _)
