def M_X11_sent : zj_M := (RX11, cX11_sent, 1, (some .int), { frames := 4, cells := 0, slots := 0, locals := 102 }, false)
theorem nm_X11_sent : zj_nm yX11_sent 0 := ⟨by decide +kernel, by decide +kernel, by decide +kernel⟩
def f_X11_sent  (s0 : XxT) (s1 : SnT) (s2 : LdT) (s3 : FkT)  : Option (Int32 × SnT) := ((f_X9_send s1 s2 s3).bind fun q1 => some (q1.1, q1.2))
set_option maxRecDepth 100000 in
set_option maxHeartbeats 4000000 in
theorem c_X11_sent (l : Launch) (G : zj_G) (A : Nat → Nat → Nat) (K : Nat → Nat → Option Nat) (s0 : XxT) (s1 : SnT) (s2 : LdT) (s3 : FkT)  (r : Int32 × SnT) (hf : f_X11_sent s0 s1 s2 s3 = some r) : zj_C l G M_X11_sent yX11_sent [w_Xx G A K s0, w_Sn G (A 19) s1, w_Ld G (A 2) s2, w_Fk G (A 4) s3] [.ref (A 0 0)] (some (.int r.1)) (fun _ => [w_Xx G A K s0, w_Sn G (A 19) r.2, w_Ld G (A 2) s2, w_Fk G (A 4) s3]) := by
  have key : ∀ W0 : List va_W, zj_J l G M_X11_sent W0 (zj_ret G M_X11_sent W0 (some (.int r.1)) (fun _ => [w_Xx G A K s0, w_Sn G (A 19) r.2, w_Ld G (A 2) s2, w_Fk G (A 4) s3])) 0 0 [w_Xx G A K s0, w_Sn G (A 19) s1, w_Ld G (A 2) s2, w_Fk G (A 4) s3] [some (.ref (A 0 0))] 0 [] := by
    intro W0
    unfold f_X11_sent at hf
    obtain ⟨q1, e1, hf⟩ := zbi_of hf
    refine zr_run [(.aload_n 0, 0, 0, 0, .null), (.getfield 82, 0, 0, 13, .null), (.aload_n 0, 0, 0, 0, .null), (.getfield 19, 0, 0, 1, .null), (.aload_n 0, 0, 0, 0, .null), (.getfield 29, 0, 0, 3, .null)] [] (WW' := [w_Xx G A K s0, w_Sn G (A 19) s1, w_Ld G (A 2) s2, w_Fk G (A 4) s3]) (lv' := [some (.ref (A 0 0))]) (pc' := 12) (st' := [.ref ((A 4) 0), .ref ((A 2) 0), .ref ((A 19) 0)]) (by decide +kernel) rfl rfl ⟨trivial, ⟨rfl, rfl, zw_2_162⟩, trivial, ⟨rfl, rfl, zw_2_150⟩, trivial, ⟨rfl, rfl, zw_2_152⟩, trivial⟩ ?_
    refine zr_callV (c_X9_send l G (A 19) (A 2) (A 4) s1 s2 s3 q1 e1) (WW' := fun _ => [w_Xx G A K s0, w_Sn G (A 19) q1.2, w_Ld G (A 2) s2, w_Fk G (A 4) s3]) (st := []) (st' := [.int q1.1]) [1, 2, 3] rfl rfl (fun _ => Nat.le_of_ble_eq_true rfl) (fun _ => rfl) rfl rfl nm_X9_send zw_4_88 zw_4_89 zw_4_90 zw_1_14 zw_4_91 rfl rfl rfl (Nat.le_of_ble_eq_true rfl) ⟨Nat.le_of_ble_eq_true rfl, Nat.le_of_ble_eq_true rfl⟩ (by decide +kernel) (fun _ => ?_)
    obtain rfl := Option.some.inj hf
    exact zr_iret (b0 := fun _ => 0) (by decide +kernel) rfl rfl rfl rfl rfl
  exact zj_entry [some (.ref (A 0 0))] (by decide +kernel) rfl (by decide) (Nat.le_of_ble_eq_true rfl) rfl rfl (key _)
def M_X11_sentTo : zj_M := (RX11, cX11_sentTo, 2, (some .int), { frames := 1, cells := 0, slots := 0, locals := 21 }, false)
theorem nm_X11_sentTo : zj_nm yX11_sentTo 1 := ⟨by decide +kernel, by decide +kernel, by decide +kernel⟩
def f_X11_sentTo  (s0 : XxT) (s1 : SnT) (x1 : Int32) : Option (Int32) := ((f_X9_portOf s1 x1).bind fun q1 => some q1)
set_option maxRecDepth 100000 in
set_option maxHeartbeats 4000000 in
theorem c_X11_sentTo (l : Launch) (G : zj_G) (A : Nat → Nat → Nat) (K : Nat → Nat → Option Nat) (s0 : XxT) (s1 : SnT) (x1 : Int32) (r : Int32) (hf : f_X11_sentTo s0 s1 x1 = some r) : zj_C l G M_X11_sentTo yX11_sentTo [w_Xx G A K s0, w_Sn G (A 19) s1] [.ref (A 0 0), .int x1] (some (.int r)) (fun _ => [w_Xx G A K s0, w_Sn G (A 19) s1]) := by
  have key : ∀ W0 : List va_W, zj_J l G M_X11_sentTo W0 (zj_ret G M_X11_sentTo W0 (some (.int r)) (fun _ => [w_Xx G A K s0, w_Sn G (A 19) s1])) 0 0 [w_Xx G A K s0, w_Sn G (A 19) s1] [some (.ref (A 0 0)), some (.int x1)] 0 [] := by
    intro W0
    unfold f_X11_sentTo at hf
    obtain ⟨q1, e1, hf⟩ := zbi_of hf
    refine zr_run [(.aload_n 0, 0, 0, 0, .null), (.getfield 82, 0, 0, 13, .null), (.iload_n 1, 0, 0, 0, .null)] [] (WW' := [w_Xx G A K s0, w_Sn G (A 19) s1]) (lv' := [some (.ref (A 0 0)), some (.int x1)]) (pc' := 5) (st' := [.int x1, .ref ((A 19) 0)]) (by decide +kernel) rfl rfl ⟨trivial, ⟨rfl, rfl, zw_2_162⟩, trivial, trivial⟩ ?_
    refine zr_callV (c_X9_portOf l G (A 19) s1 x1 q1 e1) (WW' := fun _ => [w_Xx G A K s0, w_Sn G (A 19) s1]) (st := []) (st' := [.int q1]) [1] rfl rfl (fun _ => Nat.le_of_ble_eq_true rfl) (fun _ => rfl) rfl rfl nm_X9_portOf zw_4_125 zw_4_126 zw_4_127 zw_1_14 zw_4_128 rfl rfl rfl (Nat.le_of_ble_eq_true rfl) ⟨Nat.le_of_ble_eq_true rfl, Nat.le_of_ble_eq_true rfl⟩ (by decide +kernel) (fun _ => ?_)
    obtain rfl := Option.some.inj hf
    exact zr_iret (b0 := fun _ => 0) (by decide +kernel) rfl rfl rfl rfl rfl
  exact zj_entry [some (.ref (A 0 0)), some (.int x1)] (by decide +kernel) rfl (by decide) (Nat.le_of_ble_eq_true rfl) rfl rfl (key _)
def M_X11_cut : zj_M := (RX11, cX11_cut, 3, (some .int), { frames := 5, cells := 0, slots := 0, locals := 130 }, false)
theorem nm_X11_cut : zj_nm yX11_cut 2 := ⟨by decide +kernel, by decide +kernel, by decide +kernel⟩
def f_X11_cut  (s0 : XxT) (s1 : LdT) (s2 : CtT) (x1 : Int32) (x2 : Int32) : Option (Int32 × CtT) := ((f_X3_hasPlace s1 x1).bind fun q1 => (if q1 = 0 then some ((-1 : Int32), s2) else ((f_X3_hasPlace s1 x2).bind fun q2 => (if q2 = 0 then some ((-1 : Int32), s2) else (if x1 = x2 then some ((-1 : Int32), s2) else ((f_X0_part s2 s1 x1 x2).bind fun q3 => some (q3.1, q3.2)))))))
set_option maxRecDepth 100000 in
set_option maxHeartbeats 4000000 in
theorem c_X11_cut (l : Launch) (G : zj_G) (A : Nat → Nat → Nat) (K : Nat → Nat → Option Nat) (s0 : XxT) (s1 : LdT) (s2 : CtT) (x1 : Int32) (x2 : Int32) (r : Int32 × CtT) (hf : f_X11_cut s0 s1 s2 x1 x2 = some r) : zj_C l G M_X11_cut yX11_cut [w_Xx G A K s0, w_Ld G (A 2) s1, w_Ct G (A 20) s2] [.ref (A 0 0), .int x1, .int x2] (some (.int r.1)) (fun _ => [w_Xx G A K s0, w_Ld G (A 2) s1, w_Ct G (A 20) r.2]) := by
  have key : ∀ W0 : List va_W, zj_J l G M_X11_cut W0 (zj_ret G M_X11_cut W0 (some (.int r.1)) (fun _ => [w_Xx G A K s0, w_Ld G (A 2) s1, w_Ct G (A 20) r.2])) 0 0 [w_Xx G A K s0, w_Ld G (A 2) s1, w_Ct G (A 20) s2] [some (.ref (A 0 0)), some (.int x1), some (.int x2)] 0 [] := by
    intro W0
    unfold f_X11_cut at hf
    obtain ⟨q1, e1, hf⟩ := zbi_of hf
    refine zr_run [(.aload_n 0, 0, 0, 0, .null), (.getfield 19, 0, 0, 1, .null), (.iload_n 1, 0, 0, 0, .null)] [] (WW' := [w_Xx G A K s0, w_Ld G (A 2) s1, w_Ct G (A 20) s2]) (lv' := [some (.ref (A 0 0)), some (.int x1), some (.int x2)]) (pc' := 5) (st' := [.int x1, .ref ((A 2) 0)]) (by decide +kernel) rfl rfl ⟨trivial, ⟨rfl, rfl, zw_2_150⟩, trivial, trivial⟩ ?_
    refine zr_callV (c_X3_hasPlace l G (A 2) s1 x1 q1 e1) (WW' := fun _ => [w_Xx G A K s0, w_Ld G (A 2) s1, w_Ct G (A 20) s2]) (st := []) (st' := [.int q1]) [1] rfl rfl (fun _ => Nat.le_of_ble_eq_true rfl) (fun _ => rfl) rfl rfl nm_X3_hasPlace zw_3_129 zw_3_130 zw_3_131 zw_1_7 zw_3_132 rfl rfl rfl (Nat.le_of_ble_eq_true rfl) ⟨Nat.le_of_ble_eq_true rfl, Nat.le_of_ble_eq_true rfl⟩ (by decide +kernel) (fun _ => ?_)
    refine zr_if_eq (off := 19) (tgt := 27) (by decide +kernel) (by decide) (fun hc => ?_) (fun hc => ?_)
    · have hf := zift hf hc
      refine zr_run [(.iconst (-1), 0, 0, 0, .int (-1 : Int32))] [] (WW' := [w_Xx G A K s0, w_Ld G (A 2) s1, w_Ct G (A 20) s2]) (lv' := [some (.ref (A 0 0)), some (.int x1), some (.int x2)]) (pc' := 28) (st' := [.int (-1 : Int32)]) (by decide +kernel) rfl rfl ⟨trivial, trivial⟩ ?_
      obtain rfl := Option.some.inj hf
      exact zr_iret (b0 := fun _ => 0) (by decide +kernel) rfl rfl rfl rfl rfl
    · have hf := ziff hf hc
      obtain ⟨q2, e2, hf⟩ := zbi_of hf
      refine zr_run [(.aload_n 0, 0, 0, 0, .null), (.getfield 19, 0, 0, 1, .null), (.iload_n 2, 0, 0, 0, .null)] [] (WW' := [w_Xx G A K s0, w_Ld G (A 2) s1, w_Ct G (A 20) s2]) (lv' := [some (.ref (A 0 0)), some (.int x1), some (.int x2)]) (pc' := 16) (st' := [.int x2, .ref ((A 2) 0)]) (by decide +kernel) rfl rfl ⟨trivial, ⟨rfl, rfl, zw_2_150⟩, trivial, trivial⟩ ?_
      refine zr_callV (c_X3_hasPlace l G (A 2) s1 x2 q2 e2) (WW' := fun _ => [w_Xx G A K s0, w_Ld G (A 2) s1, w_Ct G (A 20) s2]) (st := []) (st' := [.int q2]) [1] rfl rfl (fun _ => Nat.le_of_ble_eq_true rfl) (fun _ => rfl) rfl rfl nm_X3_hasPlace zw_3_129 zw_3_130 zw_3_131 zw_1_7 zw_3_132 rfl rfl rfl (Nat.le_of_ble_eq_true rfl) ⟨Nat.le_of_ble_eq_true rfl, Nat.le_of_ble_eq_true rfl⟩ (by decide +kernel) (fun _ => ?_)
      refine zr_if_eq (off := 8) (tgt := 27) (by decide +kernel) (by decide) (fun hc => ?_) (fun hc => ?_)
      · have hf := zift hf hc
        refine zr_run [(.iconst (-1), 0, 0, 0, .int (-1 : Int32))] [] (WW' := [w_Xx G A K s0, w_Ld G (A 2) s1, w_Ct G (A 20) s2]) (lv' := [some (.ref (A 0 0)), some (.int x1), some (.int x2)]) (pc' := 28) (st' := [.int (-1 : Int32)]) (by decide +kernel) rfl rfl ⟨trivial, trivial⟩ ?_
        obtain rfl := Option.some.inj hf
        exact zr_iret (b0 := fun _ => 0) (by decide +kernel) rfl rfl rfl rfl rfl
      · have hf := ziff hf hc
        refine zr_run [(.iload_n 1, 0, 0, 0, .null), (.iload_n 2, 0, 0, 0, .null)] [] (WW' := [w_Xx G A K s0, w_Ld G (A 2) s1, w_Ct G (A 20) s2]) (lv' := [some (.ref (A 0 0)), some (.int x1), some (.int x2)]) (pc' := 24) (st' := [.int x2, .int x1]) (by decide +kernel) rfl rfl ⟨trivial, trivial, trivial⟩ ?_
        refine zr_icmp_ne (off := 5) (tgt := 29) (by decide +kernel) (by decide) (fun hc => ?_) (fun hc => ?_)
        · have hf := zift hf hc
          refine zr_run [(.iconst (-1), 0, 0, 0, .int (-1 : Int32))] [] (WW' := [w_Xx G A K s0, w_Ld G (A 2) s1, w_Ct G (A 20) s2]) (lv' := [some (.ref (A 0 0)), some (.int x1), some (.int x2)]) (pc' := 28) (st' := [.int (-1 : Int32)]) (by decide +kernel) rfl rfl ⟨trivial, trivial⟩ ?_
          obtain rfl := Option.some.inj hf
          exact zr_iret (b0 := fun _ => 0) (by decide +kernel) rfl rfl rfl rfl rfl
        · have hf := ziff hf hc
          obtain ⟨q3, e3, hf⟩ := zbi_of hf
          refine zr_run [(.aload_n 0, 0, 0, 0, .null), (.getfield 89, 0, 0, 14, .null), (.aload_n 0, 0, 0, 0, .null), (.getfield 19, 0, 0, 1, .null), (.iload_n 1, 0, 0, 0, .null), (.iload_n 2, 0, 0, 0, .null)] [] (WW' := [w_Xx G A K s0, w_Ld G (A 2) s1, w_Ct G (A 20) s2]) (lv' := [some (.ref (A 0 0)), some (.int x1), some (.int x2)]) (pc' := 39) (st' := [.int x2, .int x1, .ref ((A 2) 0), .ref ((A 20) 0)]) (by decide +kernel) rfl rfl ⟨trivial, ⟨rfl, rfl, zw_2_163⟩, trivial, ⟨rfl, rfl, zw_2_150⟩, trivial, trivial, trivial⟩ ?_
          refine zr_callV (c_X0_part l G (A 20) (A 2) s2 s1 x1 x2 q3 e3) (WW' := fun _ => [w_Xx G A K s0, w_Ld G (A 2) s1, w_Ct G (A 20) q3.2]) (st := []) (st' := [.int q3.1]) [2, 1] rfl rfl (fun _ => Nat.le_of_ble_eq_true rfl) (fun _ => rfl) rfl rfl nm_X0_part zw_4_133 zw_4_134 zw_4_135 zw_1_15 zw_4_136 rfl rfl rfl (Nat.le_of_ble_eq_true rfl) ⟨Nat.le_of_ble_eq_true rfl, Nat.le_of_ble_eq_true rfl⟩ (by decide +kernel) (fun _ => ?_)
          obtain rfl := Option.some.inj hf
          exact zr_iret (b0 := fun _ => 0) (by decide +kernel) rfl rfl rfl rfl rfl
  exact zj_entry [some (.ref (A 0 0)), some (.int x1), some (.int x2)] (by decide +kernel) rfl (by decide) (Nat.le_of_ble_eq_true rfl) rfl rfl (key _)
def M_X11_cutting : zj_M := (RX11, cX11_cutting, 1, (some .int), { frames := 0, cells := 0, slots := 0, locals := 0 }, false)
theorem nm_X11_cutting : zj_nm yX11_cutting 0 := ⟨by decide +kernel, by decide +kernel, by decide +kernel⟩
def f_X11_cutting  (s0 : XxT) (s1 : CtT)  : Option (Int32) := some (Ct_latest s1)
set_option maxRecDepth 100000 in
set_option maxHeartbeats 4000000 in
theorem c_X11_cutting (l : Launch) (G : zj_G) (A : Nat → Nat → Nat) (K : Nat → Nat → Option Nat) (s0 : XxT) (s1 : CtT)  (r : Int32) (hf : f_X11_cutting s0 s1 = some r) : zj_C l G M_X11_cutting yX11_cutting [w_Xx G A K s0, w_Ct G (A 20) s1] [.ref (A 0 0)] (some (.int r)) (fun _ => [w_Xx G A K s0, w_Ct G (A 20) s1]) := by
  have key : ∀ W0 : List va_W, zj_J l G M_X11_cutting W0 (zj_ret G M_X11_cutting W0 (some (.int r)) (fun _ => [w_Xx G A K s0, w_Ct G (A 20) s1])) 0 0 [w_Xx G A K s0, w_Ct G (A 20) s1] [some (.ref (A 0 0))] 0 [] := by
    intro W0
    unfold f_X11_cutting at hf
    refine zr_run [(.aload_n 0, 0, 0, 0, .null), (.getfield 89, 0, 0, 14, .null), (.getfield 273, 1, 0, 0, .null)] [] (WW' := [w_Xx G A K s0, w_Ct G (A 20) s1]) (lv' := [some (.ref (A 0 0))]) (pc' := 7) (st' := [.int (Ct_latest s1)]) (by decide +kernel) rfl rfl ⟨trivial, ⟨rfl, rfl, zw_2_163⟩, ⟨rfl, rfl, zw_2_100⟩, trivial⟩ ?_
    obtain rfl := Option.some.inj hf
    exact zr_iret (b0 := fun _ => 0) (by decide +kernel) rfl rfl rfl rfl rfl
  exact zj_entry [some (.ref (A 0 0))] (by decide +kernel) rfl (by decide) (Nat.le_of_ble_eq_true rfl) rfl rfl (key _)
def M_X11_worst : zj_M := (RX11, cX11_worst, 7, (some .int), { frames := 2, cells := 0, slots := 0, locals := 45 }, false)
theorem nm_X11_worst : zj_nm yX11_worst 2 := ⟨by decide +kernel, by decide +kernel, by decide +kernel⟩
def f_X11_worst_b110  (s0 : XxT) (s1 : LdT) (k49 : Int32 → Int32 → Int32 → Int32 → Option (Int32)) (x2 : Int32) (x3 : Int32) (x4 : Int32) (x5 : Int32) : Option (Int32) := ((f_X3_nextTo s1 x4 x2).bind fun q5 => k49 x2 x3 q5 (x5 + (1 : Int32)))
def f_X11_worst_b107  (s0 : XxT) (s1 : LdT) (k49 : Int32 → Int32 → Int32 → Int32 → Option (Int32)) (x2 : Int32) (x4 : Int32) (x5 : Int32) (x6 : Int32) : Option (Int32) := f_X11_worst_b110 s0 s1 k49 x2 x6 x4 x5
def f_X11_worst_H49  (s0 : XxT) (s1 : LdT) (k49 : Int32 → Int32 → Int32 → Int32 → Option (Int32)) (x2 : Int32) (x3 : Int32) (x4 : Int32) (x5 : Int32) : Option (Int32) := (if x5 < (10 : Int32) then (if x4 = x2 then some x3 else (if x4 = (-1 : Int32) then some x3 else ((f_X3_roadToward s1 x4 x2).bind fun q4 => (if x3 = (-1 : Int32) then f_X11_worst_b107 s0 s1 k49 x2 x4 x5 q4 else ((f_X3_ofRoad s1 q4 (3 : Int32)).bind fun q6 => ((f_X3_ofRoad s1 x3 (3 : Int32)).bind fun q7 => (if q7 < q6 then f_X11_worst_b107 s0 s1 k49 x2 x4 x5 q4 else f_X11_worst_b110 s0 s1 k49 x2 x3 x4 x5))))))) else some x3)
def f_X11_worst_L49  (s0 : XxT) (s1 : LdT)  : Nat → Int32 → Int32 → Int32 → Int32 → Option (Int32)
  | 0 => fun _ _ _ _ => none
  | n + 1 => fun x2 x3 x4 x5 => f_X11_worst_H49 s0 s1 (f_X11_worst_L49 s0 s1 n) x2 x3 x4 x5
def f_X11_worst  (s0 : XxT) (s1 : LdT) (x1 : Int32) (x2 : Int32) : Option (Int32) := ((f_X3_hasPlace s1 x1).bind fun q1 => (if q1 = 0 then some (-1 : Int32) else ((f_X3_hasPlace s1 x2).bind fun q2 => (if q2 = 0 then some (-1 : Int32) else (if x1 = x2 then some (-1 : Int32) else ((f_X3_joined s1 x1 x2).bind fun q3 => (if q3 = 0 then some (-1 : Int32) else f_X11_worst_L49 s0 s1 zFU x2 (-1 : Int32) x1 (0 : Int32))))))))
set_option maxRecDepth 100000 in
set_option maxHeartbeats 4000000 in
theorem t_X11_worst_b110 (l : Launch) (G : zj_G) (A : Nat → Nat → Nat) (K : Nat → Nat → Option Nat) (W0 : List va_W) (r : Int32) (s0 : XxT) (s1 : LdT) (k49 : Int32 → Int32 → Int32 → Int32 → Option (Int32)) (hk49 : ∀ (x2 : Int32) (x3 : Int32) (x4 : Int32) (x5 : Int32), k49 x2 x3 x4 x5 = some r → zj_J l G M_X11_worst W0 (zj_ret G M_X11_worst W0 (some (.int r)) (fun _ => [w_Xx G A K s0, w_Ld G (A 2) s1])) 0 0 [w_Xx G A K s0, w_Ld G (A 2) s1] [some (.ref (A 0 0)), none, some (.int x2), some (.int x3), some (.int x4), some (.int x5), none] 49 []) (x2 : Int32) (x3 : Int32) (x4 : Int32) (x5 : Int32) (hf : f_X11_worst_b110 s0 s1 k49 x2 x3 x4 x5 = some r) : zj_J l G M_X11_worst W0 (zj_ret G M_X11_worst W0 (some (.int r)) (fun _ => [w_Xx G A K s0, w_Ld G (A 2) s1])) 0 0 [w_Xx G A K s0, w_Ld G (A 2) s1] [some (.ref (A 0 0)), none, some (.int x2), some (.int x3), some (.int x4), some (.int x5), none] 110 [] := by
  unfold f_X11_worst_b110 at hf
  obtain ⟨q5, e5, hf⟩ := zbi_of hf
  refine zr_run [(.aload_n 0, 0, 0, 0, .null), (.getfield 19, 0, 0, 1, .null), (.iload 4, 0, 0, 0, .null), (.iload_n 2, 0, 0, 0, .null)] [] (WW' := [w_Xx G A K s0, w_Ld G (A 2) s1]) (lv' := [some (.ref (A 0 0)), none, some (.int x2), some (.int x3), some (.int x4), some (.int x5), none]) (pc' := 117) (st' := [.int x2, .int x4, .ref ((A 2) 0)]) (by decide +kernel) rfl rfl ⟨trivial, ⟨rfl, rfl, zw_2_150⟩, trivial, trivial, trivial⟩ ?_
  refine zr_callV (c_X3_nextTo l G (A 2) s1 x4 x2 q5 e5) (WW' := fun _ => [w_Xx G A K s0, w_Ld G (A 2) s1]) (st := []) (st' := [.int q5]) [1] rfl rfl (fun _ => Nat.le_of_ble_eq_true rfl) (fun _ => rfl) rfl rfl nm_X3_nextTo zw_4_71 zw_4_42 zw_4_43 zw_1_7 zw_4_42n rfl rfl rfl (Nat.le_of_ble_eq_true rfl) ⟨Nat.le_of_ble_eq_true rfl, Nat.le_of_ble_eq_true rfl⟩ (by decide +kernel) (fun _ => ?_)
  refine zr_run [(.istore 4, 0, 0, 0, .null), (.iinc 5 1, 0, 0, 0, .int (1 : Int32))] [] (WW' := [w_Xx G A K s0, w_Ld G (A 2) s1]) (lv' := [some (.ref (A 0 0)), none, some (.int x2), some (.int x3), some (.int q5), some (.int (x5 + (1 : Int32))), none]) (pc' := 125) (st' := []) (by decide +kernel) rfl rfl ⟨trivial, trivial, trivial⟩ ?_
  refine zr_goto (off := -76) (tgt := 49) (by decide +kernel) (by decide) ?_
  exact hk49 x2 x3 q5 (x5 + (1 : Int32)) hf
set_option maxRecDepth 100000 in
set_option maxHeartbeats 4000000 in
theorem t_X11_worst_b107 (l : Launch) (G : zj_G) (A : Nat → Nat → Nat) (K : Nat → Nat → Option Nat) (W0 : List va_W) (r : Int32) (s0 : XxT) (s1 : LdT) (k49 : Int32 → Int32 → Int32 → Int32 → Option (Int32)) (hk49 : ∀ (x2 : Int32) (x3 : Int32) (x4 : Int32) (x5 : Int32), k49 x2 x3 x4 x5 = some r → zj_J l G M_X11_worst W0 (zj_ret G M_X11_worst W0 (some (.int r)) (fun _ => [w_Xx G A K s0, w_Ld G (A 2) s1])) 0 0 [w_Xx G A K s0, w_Ld G (A 2) s1] [some (.ref (A 0 0)), none, some (.int x2), some (.int x3), some (.int x4), some (.int x5), none] 49 []) (x2 : Int32) (x4 : Int32) (x5 : Int32) (x6 : Int32) (hf : f_X11_worst_b107 s0 s1 k49 x2 x4 x5 x6 = some r) : zj_J l G M_X11_worst W0 (zj_ret G M_X11_worst W0 (some (.int r)) (fun _ => [w_Xx G A K s0, w_Ld G (A 2) s1])) 0 0 [w_Xx G A K s0, w_Ld G (A 2) s1] [some (.ref (A 0 0)), none, some (.int x2), none, some (.int x4), some (.int x5), some (.int x6)] 107 [] := by
  unfold f_X11_worst_b107 at hf
  refine zr_run [(.iload 6, 0, 0, 0, .null), (.istore_n 3, 0, 0, 0, .null)] [6] (WW' := [w_Xx G A K s0, w_Ld G (A 2) s1]) (lv' := [some (.ref (A 0 0)), none, some (.int x2), some (.int x6), some (.int x4), some (.int x5), none]) (pc' := 110) (st' := []) (by decide +kernel) rfl rfl ⟨trivial, trivial, trivial⟩ ?_
  exact t_X11_worst_b110 l G A K W0 r s0 s1 k49 hk49 x2 x6 x4 x5 hf
set_option maxRecDepth 100000 in
set_option maxHeartbeats 4000000 in
theorem t_X11_worst_H49 (l : Launch) (G : zj_G) (A : Nat → Nat → Nat) (K : Nat → Nat → Option Nat) (W0 : List va_W) (r : Int32) (s0 : XxT) (s1 : LdT) (k49 : Int32 → Int32 → Int32 → Int32 → Option (Int32)) (hk49 : ∀ (x2 : Int32) (x3 : Int32) (x4 : Int32) (x5 : Int32), k49 x2 x3 x4 x5 = some r → zj_J l G M_X11_worst W0 (zj_ret G M_X11_worst W0 (some (.int r)) (fun _ => [w_Xx G A K s0, w_Ld G (A 2) s1])) 0 0 [w_Xx G A K s0, w_Ld G (A 2) s1] [some (.ref (A 0 0)), none, some (.int x2), some (.int x3), some (.int x4), some (.int x5), none] 49 []) (x2 : Int32) (x3 : Int32) (x4 : Int32) (x5 : Int32) (hf : f_X11_worst_H49 s0 s1 k49 x2 x3 x4 x5 = some r) : zj_J l G M_X11_worst W0 (zj_ret G M_X11_worst W0 (some (.int r)) (fun _ => [w_Xx G A K s0, w_Ld G (A 2) s1])) 0 0 [w_Xx G A K s0, w_Ld G (A 2) s1] [some (.ref (A 0 0)), none, some (.int x2), some (.int x3), some (.int x4), some (.int x5), none] 49 [] := by
  unfold f_X11_worst_H49 at hf
  refine zr_run [(.iload 5, 0, 0, 0, .null), (.bipush 10, 0, 0, 0, .int (10 : Int32))] [] (WW' := [w_Xx G A K s0, w_Ld G (A 2) s1]) (lv' := [some (.ref (A 0 0)), none, some (.int x2), some (.int x3), some (.int x4), some (.int x5), none]) (pc' := 53) (st' := [.int (10 : Int32), .int x5]) (by decide +kernel) rfl rfl ⟨trivial, trivial, trivial⟩ ?_
  refine zr_icmp_ge (off := 75) (tgt := 128) (by decide +kernel) (by decide) (fun hc => ?_) (fun hc => ?_)
  · have hf := zift hf hc
    refine zr_run [(.iload 4, 0, 0, 0, .null), (.iload_n 2, 0, 0, 0, .null)] [] (WW' := [w_Xx G A K s0, w_Ld G (A 2) s1]) (lv' := [some (.ref (A 0 0)), none, some (.int x2), some (.int x3), some (.int x4), some (.int x5), none]) (pc' := 59) (st' := [.int x2, .int x4]) (by decide +kernel) rfl rfl ⟨trivial, trivial, trivial⟩ ?_
    refine zr_icmp_eq (off := 69) (tgt := 128) (by decide +kernel) (by decide) (fun hc => ?_) (fun hc => ?_)
    · have hf := zift hf hc
      refine zr_run [(.iload_n 3, 0, 0, 0, .null)] [] (WW' := [w_Xx G A K s0, w_Ld G (A 2) s1]) (lv' := [some (.ref (A 0 0)), none, some (.int x2), some (.int x3), some (.int x4), some (.int x5), none]) (pc' := 129) (st' := [.int x3]) (by decide +kernel) rfl rfl ⟨trivial, trivial⟩ ?_
      obtain rfl := Option.some.inj hf
      exact zr_iret (b0 := fun _ => 0) (by decide +kernel) rfl rfl rfl rfl rfl
    · have hf := ziff hf hc
      refine zr_run [(.iload 4, 0, 0, 0, .null), (.iconst (-1), 0, 0, 0, .int (-1 : Int32))] [] (WW' := [w_Xx G A K s0, w_Ld G (A 2) s1]) (lv' := [some (.ref (A 0 0)), none, some (.int x2), some (.int x3), some (.int x4), some (.int x5), none]) (pc' := 65) (st' := [.int (-1 : Int32), .int x4]) (by decide +kernel) rfl rfl ⟨trivial, trivial, trivial⟩ ?_
      refine zr_icmp_eq (off := 63) (tgt := 128) (by decide +kernel) (by decide) (fun hc => ?_) (fun hc => ?_)
      · have hf := zift hf hc
        refine zr_run [(.iload_n 3, 0, 0, 0, .null)] [] (WW' := [w_Xx G A K s0, w_Ld G (A 2) s1]) (lv' := [some (.ref (A 0 0)), none, some (.int x2), some (.int x3), some (.int x4), some (.int x5), none]) (pc' := 129) (st' := [.int x3]) (by decide +kernel) rfl rfl ⟨trivial, trivial⟩ ?_
        obtain rfl := Option.some.inj hf
        exact zr_iret (b0 := fun _ => 0) (by decide +kernel) rfl rfl rfl rfl rfl
      · have hf := ziff hf hc
        obtain ⟨q4, e4, hf⟩ := zbi_of hf
        refine zr_run [(.aload_n 0, 0, 0, 0, .null), (.getfield 19, 0, 0, 1, .null), (.iload 4, 0, 0, 0, .null), (.iload_n 2, 0, 0, 0, .null)] [] (WW' := [w_Xx G A K s0, w_Ld G (A 2) s1]) (lv' := [some (.ref (A 0 0)), none, some (.int x2), some (.int x3), some (.int x4), some (.int x5), none]) (pc' := 75) (st' := [.int x2, .int x4, .ref ((A 2) 0)]) (by decide +kernel) rfl rfl ⟨trivial, ⟨rfl, rfl, zw_2_150⟩, trivial, trivial, trivial⟩ ?_
        refine zr_callV (c_X3_roadToward l G (A 2) s1 x4 x2 q4 e4) (WW' := fun _ => [w_Xx G A K s0, w_Ld G (A 2) s1]) (st := []) (st' := [.int q4]) [1] rfl rfl (fun _ => Nat.le_of_ble_eq_true rfl) (fun _ => rfl) rfl rfl nm_X3_roadToward zw_4_163 zw_4_37 zw_4_38 zw_1_7 zw_4_37n rfl rfl rfl (Nat.le_of_ble_eq_true rfl) ⟨Nat.le_of_ble_eq_true rfl, Nat.le_of_ble_eq_true rfl⟩ (by decide +kernel) (fun _ => ?_)
        refine zr_run [(.istore 6, 0, 0, 0, .null), (.iload_n 3, 0, 0, 0, .null), (.iconst (-1), 0, 0, 0, .int (-1 : Int32))] [] (WW' := [w_Xx G A K s0, w_Ld G (A 2) s1]) (lv' := [some (.ref (A 0 0)), none, some (.int x2), some (.int x3), some (.int x4), some (.int x5), some (.int q4)]) (pc' := 82) (st' := [.int (-1 : Int32), .int x3]) (by decide +kernel) rfl rfl ⟨trivial, trivial, trivial, trivial⟩ ?_
        refine zr_icmp_eq (off := 25) (tgt := 107) (by decide +kernel) (by decide) (fun hc => ?_) (fun hc => ?_)
        · have hf := zift hf hc
          refine zr_run [] [3] (WW' := [w_Xx G A K s0, w_Ld G (A 2) s1]) (lv' := [some (.ref (A 0 0)), none, some (.int x2), none, some (.int x4), some (.int x5), some (.int q4)]) (pc' := 107) (st' := []) (by decide +kernel) rfl rfl trivial ?_
          exact t_X11_worst_b107 l G A K W0 r s0 s1 k49 hk49 x2 x4 x5 q4 hf
        · have hf := ziff hf hc
          obtain ⟨q6, e6, hf⟩ := zbi_of hf
          refine zr_run [(.aload_n 0, 0, 0, 0, .null), (.getfield 19, 0, 0, 1, .null), (.iload 6, 0, 0, 0, .null), (.iconst 3, 0, 0, 0, .int (3 : Int32))] [] (WW' := [w_Xx G A K s0, w_Ld G (A 2) s1]) (lv' := [some (.ref (A 0 0)), none, some (.int x2), some (.int x3), some (.int x4), some (.int x5), some (.int q4)]) (pc' := 92) (st' := [.int (3 : Int32), .int q4, .ref ((A 2) 0)]) (by decide +kernel) rfl rfl ⟨trivial, ⟨rfl, rfl, zw_2_150⟩, trivial, trivial, trivial⟩ ?_
          refine zr_callV (c_X3_ofRoad l G (A 2) s1 q4 (3 : Int32) q6 e6) (WW' := fun _ => [w_Xx G A K s0, w_Ld G (A 2) s1]) (st := []) (st' := [.int q6]) [1] rfl rfl (fun _ => Nat.le_of_ble_eq_true rfl) (fun _ => rfl) rfl rfl nm_X3_ofRoad zw_3_151 zw_3_80 zw_3_81 zw_1_7 zw_3_80n rfl rfl rfl (Nat.le_of_ble_eq_true rfl) ⟨Nat.le_of_ble_eq_true rfl, Nat.le_of_ble_eq_true rfl⟩ (by decide +kernel) (fun _ => ?_)
          obtain ⟨q7, e7, hf⟩ := zbi_of hf
          refine zr_run [(.aload_n 0, 0, 0, 0, .null), (.getfield 19, 0, 0, 1, .null), (.iload_n 3, 0, 0, 0, .null), (.iconst 3, 0, 0, 0, .int (3 : Int32))] [] (WW' := [w_Xx G A K s0, w_Ld G (A 2) s1]) (lv' := [some (.ref (A 0 0)), none, some (.int x2), some (.int x3), some (.int x4), some (.int x5), some (.int q4)]) (pc' := 101) (st' := [.int (3 : Int32), .int x3, .ref ((A 2) 0), .int q6]) (by decide +kernel) rfl rfl ⟨trivial, ⟨rfl, rfl, zw_2_150⟩, trivial, trivial, trivial⟩ ?_
          refine zr_callV (c_X3_ofRoad l G (A 2) s1 x3 (3 : Int32) q7 e7) (WW' := fun _ => [w_Xx G A K s0, w_Ld G (A 2) s1]) (st := [.int q6]) (st' := [.int q7, .int q6]) [1] rfl rfl (fun _ => Nat.le_of_ble_eq_true rfl) (fun _ => rfl) rfl rfl nm_X3_ofRoad zw_3_151 zw_3_80 zw_3_81 zw_1_7 zw_3_80n rfl rfl rfl (Nat.le_of_ble_eq_true rfl) ⟨Nat.le_of_ble_eq_true rfl, Nat.le_of_ble_eq_true rfl⟩ (by decide +kernel) (fun _ => ?_)
          refine zr_icmp_le (off := 6) (tgt := 110) (by decide +kernel) (by decide) (fun hc => ?_) (fun hc => ?_)
          · have hf := zift hf hc
            refine zr_run [] [3] (WW' := [w_Xx G A K s0, w_Ld G (A 2) s1]) (lv' := [some (.ref (A 0 0)), none, some (.int x2), none, some (.int x4), some (.int x5), some (.int q4)]) (pc' := 107) (st' := []) (by decide +kernel) rfl rfl trivial ?_
            exact t_X11_worst_b107 l G A K W0 r s0 s1 k49 hk49 x2 x4 x5 q4 hf
          · have hf := ziff hf hc
            refine zr_run [] [6] (WW' := [w_Xx G A K s0, w_Ld G (A 2) s1]) (lv' := [some (.ref (A 0 0)), none, some (.int x2), some (.int x3), some (.int x4), some (.int x5), none]) (pc' := 110) (st' := []) (by decide +kernel) rfl rfl trivial ?_
            exact t_X11_worst_b110 l G A K W0 r s0 s1 k49 hk49 x2 x3 x4 x5 hf
  · have hf := ziff hf hc
    refine zr_run [(.iload_n 3, 0, 0, 0, .null)] [] (WW' := [w_Xx G A K s0, w_Ld G (A 2) s1]) (lv' := [some (.ref (A 0 0)), none, some (.int x2), some (.int x3), some (.int x4), some (.int x5), none]) (pc' := 129) (st' := [.int x3]) (by decide +kernel) rfl rfl ⟨trivial, trivial⟩ ?_
    obtain rfl := Option.some.inj hf
    exact zr_iret (b0 := fun _ => 0) (by decide +kernel) rfl rfl rfl rfl rfl
theorem t_X11_worst_L49 (l : Launch) (G : zj_G) (A : Nat → Nat → Nat) (K : Nat → Nat → Option Nat) (W0 : List va_W) (r : Int32) (s0 : XxT) (s1 : LdT)   : ∀ (n : Nat) (x2 : Int32) (x3 : Int32) (x4 : Int32) (x5 : Int32), f_X11_worst_L49 s0 s1 n x2 x3 x4 x5 = some r → zj_J l G M_X11_worst W0 (zj_ret G M_X11_worst W0 (some (.int r)) (fun _ => [w_Xx G A K s0, w_Ld G (A 2) s1])) 0 0 [w_Xx G A K s0, w_Ld G (A 2) s1] [some (.ref (A 0 0)), none, some (.int x2), some (.int x3), some (.int x4), some (.int x5), none] 49 [] := by
  intro n
  induction n with
  | zero => intro x2 x3 x4 x5 hf; exact nomatch (show none = some r from hf)
  | succ n ih => intro x2 x3 x4 x5 hf; exact t_X11_worst_H49 l G A K W0 r s0 s1  (f_X11_worst_L49 s0 s1 n)  ih x2 x3 x4 x5  hf
set_option maxRecDepth 100000 in
set_option maxHeartbeats 4000000 in
theorem c_X11_worst (l : Launch) (G : zj_G) (A : Nat → Nat → Nat) (K : Nat → Nat → Option Nat) (s0 : XxT) (s1 : LdT) (x1 : Int32) (x2 : Int32) (r : Int32) (hf : f_X11_worst s0 s1 x1 x2 = some r) : zj_C l G M_X11_worst yX11_worst [w_Xx G A K s0, w_Ld G (A 2) s1] [.ref (A 0 0), .int x1, .int x2] (some (.int r)) (fun _ => [w_Xx G A K s0, w_Ld G (A 2) s1]) := by
  have key : ∀ W0 : List va_W, zj_J l G M_X11_worst W0 (zj_ret G M_X11_worst W0 (some (.int r)) (fun _ => [w_Xx G A K s0, w_Ld G (A 2) s1])) 0 0 [w_Xx G A K s0, w_Ld G (A 2) s1] [some (.ref (A 0 0)), some (.int x1), some (.int x2), none, none, none, none] 0 [] := by
    intro W0
    unfold f_X11_worst at hf
    obtain ⟨q1, e1, hf⟩ := zbi_of hf
    refine zr_run [(.aload_n 0, 0, 0, 0, .null), (.getfield 19, 0, 0, 1, .null), (.iload_n 1, 0, 0, 0, .null)] [] (WW' := [w_Xx G A K s0, w_Ld G (A 2) s1]) (lv' := [some (.ref (A 0 0)), some (.int x1), some (.int x2), none, none, none, none]) (pc' := 5) (st' := [.int x1, .ref ((A 2) 0)]) (by decide +kernel) rfl rfl ⟨trivial, ⟨rfl, rfl, zw_2_150⟩, trivial, trivial⟩ ?_
    refine zr_callV (c_X3_hasPlace l G (A 2) s1 x1 q1 e1) (WW' := fun _ => [w_Xx G A K s0, w_Ld G (A 2) s1]) (st := []) (st' := [.int q1]) [1] rfl rfl (fun _ => Nat.le_of_ble_eq_true rfl) (fun _ => rfl) rfl rfl nm_X3_hasPlace zw_3_129 zw_3_130 zw_3_131 zw_1_7 zw_3_132 rfl rfl rfl (Nat.le_of_ble_eq_true rfl) ⟨Nat.le_of_ble_eq_true rfl, Nat.le_of_ble_eq_true rfl⟩ (by decide +kernel) (fun _ => ?_)
    refine zr_if_eq (off := 31) (tgt := 39) (by decide +kernel) (by decide) (fun hc => ?_) (fun hc => ?_)
    · have hf := zift hf hc
      refine zr_run [(.iconst (-1), 0, 0, 0, .int (-1 : Int32))] [] (WW' := [w_Xx G A K s0, w_Ld G (A 2) s1]) (lv' := [some (.ref (A 0 0)), some (.int x1), some (.int x2), none, none, none, none]) (pc' := 40) (st' := [.int (-1 : Int32)]) (by decide +kernel) rfl rfl ⟨trivial, trivial⟩ ?_
      obtain rfl := Option.some.inj hf
      exact zr_iret (b0 := fun _ => 0) (by decide +kernel) rfl rfl rfl rfl rfl
    · have hf := ziff hf hc
      obtain ⟨q2, e2, hf⟩ := zbi_of hf
      refine zr_run [(.aload_n 0, 0, 0, 0, .null), (.getfield 19, 0, 0, 1, .null), (.iload_n 2, 0, 0, 0, .null)] [] (WW' := [w_Xx G A K s0, w_Ld G (A 2) s1]) (lv' := [some (.ref (A 0 0)), some (.int x1), some (.int x2), none, none, none, none]) (pc' := 16) (st' := [.int x2, .ref ((A 2) 0)]) (by decide +kernel) rfl rfl ⟨trivial, ⟨rfl, rfl, zw_2_150⟩, trivial, trivial⟩ ?_
      refine zr_callV (c_X3_hasPlace l G (A 2) s1 x2 q2 e2) (WW' := fun _ => [w_Xx G A K s0, w_Ld G (A 2) s1]) (st := []) (st' := [.int q2]) [1] rfl rfl (fun _ => Nat.le_of_ble_eq_true rfl) (fun _ => rfl) rfl rfl nm_X3_hasPlace zw_3_129 zw_3_130 zw_3_131 zw_1_7 zw_3_132 rfl rfl rfl (Nat.le_of_ble_eq_true rfl) ⟨Nat.le_of_ble_eq_true rfl, Nat.le_of_ble_eq_true rfl⟩ (by decide +kernel) (fun _ => ?_)
      refine zr_if_eq (off := 20) (tgt := 39) (by decide +kernel) (by decide) (fun hc => ?_) (fun hc => ?_)
      · have hf := zift hf hc
        refine zr_run [(.iconst (-1), 0, 0, 0, .int (-1 : Int32))] [] (WW' := [w_Xx G A K s0, w_Ld G (A 2) s1]) (lv' := [some (.ref (A 0 0)), some (.int x1), some (.int x2), none, none, none, none]) (pc' := 40) (st' := [.int (-1 : Int32)]) (by decide +kernel) rfl rfl ⟨trivial, trivial⟩ ?_
        obtain rfl := Option.some.inj hf
        exact zr_iret (b0 := fun _ => 0) (by decide +kernel) rfl rfl rfl rfl rfl
      · have hf := ziff hf hc
        refine zr_run [(.iload_n 1, 0, 0, 0, .null), (.iload_n 2, 0, 0, 0, .null)] [] (WW' := [w_Xx G A K s0, w_Ld G (A 2) s1]) (lv' := [some (.ref (A 0 0)), some (.int x1), some (.int x2), none, none, none, none]) (pc' := 24) (st' := [.int x2, .int x1]) (by decide +kernel) rfl rfl ⟨trivial, trivial, trivial⟩ ?_
        refine zr_icmp_eq (off := 15) (tgt := 39) (by decide +kernel) (by decide) (fun hc => ?_) (fun hc => ?_)
        · have hf := zift hf hc
          refine zr_run [(.iconst (-1), 0, 0, 0, .int (-1 : Int32))] [] (WW' := [w_Xx G A K s0, w_Ld G (A 2) s1]) (lv' := [some (.ref (A 0 0)), some (.int x1), some (.int x2), none, none, none, none]) (pc' := 40) (st' := [.int (-1 : Int32)]) (by decide +kernel) rfl rfl ⟨trivial, trivial⟩ ?_
          obtain rfl := Option.some.inj hf
          exact zr_iret (b0 := fun _ => 0) (by decide +kernel) rfl rfl rfl rfl rfl
        · have hf := ziff hf hc
          obtain ⟨q3, e3, hf⟩ := zbi_of hf
          refine zr_run [(.aload_n 0, 0, 0, 0, .null), (.getfield 19, 0, 0, 1, .null), (.iload_n 1, 0, 0, 0, .null), (.iload_n 2, 0, 0, 0, .null)] [] (WW' := [w_Xx G A K s0, w_Ld G (A 2) s1]) (lv' := [some (.ref (A 0 0)), some (.int x1), some (.int x2), none, none, none, none]) (pc' := 33) (st' := [.int x2, .int x1, .ref ((A 2) 0)]) (by decide +kernel) rfl rfl ⟨trivial, ⟨rfl, rfl, zw_2_150⟩, trivial, trivial, trivial⟩ ?_
          refine zr_callV (c_X3_joined l G (A 2) s1 x1 x2 q3 e3) (WW' := fun _ => [w_Xx G A K s0, w_Ld G (A 2) s1]) (st := []) (st' := [.int q3]) [1] rfl rfl (fun _ => Nat.le_of_ble_eq_true rfl) (fun _ => rfl) rfl rfl nm_X3_joined zw_4_65 zw_3_84 zw_3_85 zw_1_7 zw_3_86 rfl rfl rfl (Nat.le_of_ble_eq_true rfl) ⟨Nat.le_of_ble_eq_true rfl, Nat.le_of_ble_eq_true rfl⟩ (by decide +kernel) (fun _ => ?_)
          refine zr_if_ne (off := 5) (tgt := 41) (by decide +kernel) (by decide) (fun hc => ?_) (fun hc => ?_)
          · have hf := zift hf hc
            refine zr_run [(.iconst (-1), 0, 0, 0, .int (-1 : Int32))] [] (WW' := [w_Xx G A K s0, w_Ld G (A 2) s1]) (lv' := [some (.ref (A 0 0)), some (.int x1), some (.int x2), none, none, none, none]) (pc' := 40) (st' := [.int (-1 : Int32)]) (by decide +kernel) rfl rfl ⟨trivial, trivial⟩ ?_
            obtain rfl := Option.some.inj hf
            exact zr_iret (b0 := fun _ => 0) (by decide +kernel) rfl rfl rfl rfl rfl
          · have hf := ziff hf hc
            refine zr_run [(.iconst (-1), 0, 0, 0, .int (-1 : Int32)), (.istore_n 3, 0, 0, 0, .null), (.iload_n 1, 0, 0, 0, .null), (.istore 4, 0, 0, 0, .null), (.iconst 0, 0, 0, 0, .int (0 : Int32)), (.istore 5, 0, 0, 0, .null)] [1] (WW' := [w_Xx G A K s0, w_Ld G (A 2) s1]) (lv' := [some (.ref (A 0 0)), none, some (.int x2), some (.int (-1 : Int32)), some (.int x1), some (.int (0 : Int32)), none]) (pc' := 49) (st' := []) (by decide +kernel) rfl rfl ⟨trivial, trivial, trivial, trivial, trivial, trivial, trivial⟩ ?_
            exact t_X11_worst_L49 l G A K W0 r s0 s1 zFU x2 (-1 : Int32) x1 (0 : Int32) hf
  exact zj_entry [some (.ref (A 0 0)), some (.int x1), some (.int x2), none, none, none, none] (by decide +kernel) rfl (by decide) (Nat.le_of_ble_eq_true rfl) rfl rfl (key _)
def M_X11_ship : zj_M := (RX11, cX11_ship, 12, (some .int), { frames := 6, cells := 1, slots := 6, locals := 100 }, false)
theorem nm_X11_ship : zj_nm yX11_ship 3 := ⟨by decide +kernel, by decide +kernel, by decide +kernel⟩
def f_X11_ship_b30  (s0 : XxT) (s1 : LdT)   : Option (Option (Int32)) := some none
def f_X11_ship_H47  (s0 : XxT) (s1 : LdT) (k47 : Int32 → Int32 → Int32 → Int64 → Int64 → Int32 → Option (Option (Int32))) (x1 : Int32) (x2 : Int32) (x3 : Int32) (x4 : Int64) (x6 : Int64) (x8 : Int32) : Option (Option (Int32)) := (if x8 < x2 then ((f_X3_ofPlace s1 x1 (1 : Int32)).bind fun q2 => k47 x1 x2 x3 (x4 * (12 : Int64)) (x6 * ((12 : Int32) - q2).toInt64) (x8 + (1 : Int32))) else ((f_X11_commonDivisor (x4 - x6) x4).bind fun q3 => (if x3 = 0 then (if zb_nzl q3 = true then some (some (((x4 - x6) / q3).toInt32)) else none) else (if zb_nzl q3 = true then some (some ((x4 / q3).toInt32)) else none))))
def f_X11_ship_L47  (s0 : XxT) (s1 : LdT)  : Nat → Int32 → Int32 → Int32 → Int64 → Int64 → Int32 → Option (Option (Int32))
  | 0 => fun _ _ _ _ _ _ => none
  | n + 1 => fun x1 x2 x3 x4 x6 x8 => f_X11_ship_H47 s0 s1 (f_X11_ship_L47 s0 s1 n) x1 x2 x3 x4 x6 x8
def f_X11_ship  (s0 : XxT) (s1 : LdT) (x1 : Int32) (x2 : Int32) (x3 : Int32) : Option (Option (Int32)) := ((f_X3_isPort s1 x1).bind fun q1 => (if q1 = 0 then f_X11_ship_b30 s0 s1 else (if x2 < 0 then f_X11_ship_b30 s0 s1 else (if (8 : Int32) < x2 then f_X11_ship_b30 s0 s1 else (if x3 < 0 then f_X11_ship_b30 s0 s1 else (if (1 : Int32) < x3 then f_X11_ship_b30 s0 s1 else f_X11_ship_L47 s0 s1 zFU x1 x2 x3 (1 : Int64) (1 : Int64) (0 : Int32)))))))
set_option maxRecDepth 100000 in
set_option maxHeartbeats 4000000 in
theorem t_X11_ship_b30 (l : Launch) (G : zj_G) (hl : l.stackTraces = false) (A : Nat → Nat → Nat) (K : Nat → Nat → Option Nat) (W0 : List va_W) (r : Option (Int32)) (s0 : XxT) (s1 : LdT)    (hf : f_X11_ship_b30 s0 s1 = some r) : zj_J l G M_X11_ship W0 (zj_thr G M_X11_ship W0 (r.map fun q => some (.int q)) (fun _ => [w_Xx G A K s0, w_Ld G (A 2) s1])) 0 0 [w_Xx G A K s0, w_Ld G (A 2) s1] [none, none, none, none, none, none, none, none, none, none, none, none] 30 [] := by
  unfold f_X11_ship_b30 at hf
  obtain rfl := Option.some.inj hf
  exact zr_throw (b0 := fun _ => 0) hl rfl zw_5_147 zw_1_22 (by decide +kernel) (by decide +kernel) (by decide +kernel) (by decide +kernel) (by decide) (by decide) ⟨Nat.le_of_ble_eq_true rfl, Nat.le_of_ble_eq_true rfl⟩ rfl
set_option maxRecDepth 100000 in
set_option maxHeartbeats 4000000 in
theorem t_X11_ship_H47 (l : Launch) (G : zj_G) (hl : l.stackTraces = false) (A : Nat → Nat → Nat) (K : Nat → Nat → Option Nat) (W0 : List va_W) (r : Option (Int32)) (s0 : XxT) (s1 : LdT) (k47 : Int32 → Int32 → Int32 → Int64 → Int64 → Int32 → Option (Option (Int32))) (hk47 : ∀ (x1 : Int32) (x2 : Int32) (x3 : Int32) (x4 : Int64) (x6 : Int64) (x8 : Int32), k47 x1 x2 x3 x4 x6 x8 = some r → zj_J l G M_X11_ship W0 (zj_thr G M_X11_ship W0 (r.map fun q => some (.int q)) (fun _ => [w_Xx G A K s0, w_Ld G (A 2) s1])) 0 0 [w_Xx G A K s0, w_Ld G (A 2) s1] [some (.ref (A 0 0)), some (.int x1), some (.int x2), some (.int x3), some (.long x4), none, some (.long x6), none, some (.int x8), none, none, none] 47 []) (x1 : Int32) (x2 : Int32) (x3 : Int32) (x4 : Int64) (x6 : Int64) (x8 : Int32) (hf : f_X11_ship_H47 s0 s1 k47 x1 x2 x3 x4 x6 x8 = some r) : zj_J l G M_X11_ship W0 (zj_thr G M_X11_ship W0 (r.map fun q => some (.int q)) (fun _ => [w_Xx G A K s0, w_Ld G (A 2) s1])) 0 0 [w_Xx G A K s0, w_Ld G (A 2) s1] [some (.ref (A 0 0)), some (.int x1), some (.int x2), some (.int x3), some (.long x4), none, some (.long x6), none, some (.int x8), none, none, none] 47 [] := by
  unfold f_X11_ship_H47 at hf
  refine zr_run [(.iload 8, 0, 0, 0, .null), (.iload_n 2, 0, 0, 0, .null)] [] (WW' := [w_Xx G A K s0, w_Ld G (A 2) s1]) (lv' := [some (.ref (A 0 0)), some (.int x1), some (.int x2), some (.int x3), some (.long x4), none, some (.long x6), none, some (.int x8), none, none, none]) (pc' := 50) (st' := [.int x2, .int x8]) (by decide +kernel) rfl rfl ⟨trivial, trivial, trivial⟩ ?_
  refine zr_icmp_ge (off := 35) (tgt := 85) (by decide +kernel) (by decide) (fun hc => ?_) (fun hc => ?_)
  · have hf := zift hf hc
    obtain ⟨q2, e2, hf⟩ := zbi_of hf
    refine zr_run [(.lload 4, 0, 0, 0, .null), (.ldc2_w 279, 0, 0, 0, .long (12 : Int64)), (.lmul, 0, 0, 0, .null), (.lstore 4, 0, 0, 0, .null), (.lload 6, 0, 0, 0, .null), (.bipush 12, 0, 0, 0, .int (12 : Int32)), (.aload_n 0, 0, 0, 0, .null), (.getfield 19, 0, 0, 1, .null), (.iload_n 1, 0, 0, 0, .null), (.iconst 1, 0, 0, 0, .int (1 : Int32))] [] (WW' := [w_Xx G A K s0, w_Ld G (A 2) s1]) (lv' := [some (.ref (A 0 0)), some (.int x1), some (.int x2), some (.int x3), some (.long (x4 * (12 : Int64))), none, some (.long x6), none, some (.int x8), none, none, none]) (pc' := 71) (st' := [.int (1 : Int32), .int x1, .ref ((A 2) 0), .int (12 : Int32), .long x6]) (by decide +kernel) rfl rfl ⟨trivial, zw_6_21, trivial, trivial, trivial, trivial, trivial, ⟨rfl, rfl, zw_2_150⟩, trivial, trivial, trivial⟩ ?_
    refine zr_callV (c_X3_ofPlace l G (A 2) s1 x1 (1 : Int32) q2 e2) (WW' := fun _ => [w_Xx G A K s0, w_Ld G (A 2) s1]) (st := [.int (12 : Int32), .long x6]) (st' := [.int q2, .int (12 : Int32), .long x6]) [1] rfl rfl (fun _ => Nat.le_of_ble_eq_true rfl) (fun _ => rfl) rfl rfl nm_X3_ofPlace zw_3_145 zw_3_55 zw_3_56 zw_1_7 zw_3_55n rfl rfl rfl (Nat.le_of_ble_eq_true rfl) ⟨Nat.le_of_ble_eq_true rfl, Nat.le_of_ble_eq_true rfl⟩ (by decide +kernel) (fun _ => ?_)
    refine zr_run [(.isub, 0, 0, 0, .null), (.i2l, 0, 0, 0, .null), (.lmul, 0, 0, 0, .null), (.lstore 6, 0, 0, 0, .null), (.iinc 8 1, 0, 0, 0, .int (1 : Int32))] [] (WW' := [w_Xx G A K s0, w_Ld G (A 2) s1]) (lv' := [some (.ref (A 0 0)), some (.int x1), some (.int x2), some (.int x3), some (.long (x4 * (12 : Int64))), none, some (.long (x6 * ((12 : Int32) - q2).toInt64)), none, some (.int (x8 + (1 : Int32))), none, none, none]) (pc' := 82) (st' := []) (by decide +kernel) rfl rfl ⟨trivial, trivial, trivial, trivial, trivial, trivial⟩ ?_
    refine zr_goto (off := -35) (tgt := 47) (by decide +kernel) (by decide) ?_
    exact hk47 x1 x2 x3 (x4 * (12 : Int64)) (x6 * ((12 : Int32) - q2).toInt64) (x8 + (1 : Int32)) hf
  · have hf := ziff hf hc
    obtain ⟨q3, e3, hf⟩ := zbi_of hf
    refine zr_run [(.lload 4, 0, 0, 0, .null), (.lload 6, 0, 0, 0, .null), (.lsub, 0, 0, 0, .null), (.lstore 8, 0, 0, 0, .null), (.lload 8, 0, 0, 0, .null), (.lload 4, 0, 0, 0, .null)] [] (WW' := [w_Xx G A K s0, w_Ld G (A 2) s1]) (lv' := [some (.ref (A 0 0)), some (.int x1), some (.int x2), some (.int x3), some (.long x4), none, some (.long x6), none, some (.long (x4 - x6)), none, none, none]) (pc' := 96) (st' := [.long x4, .long (x4 - x6)]) (by decide +kernel) rfl rfl ⟨trivial, trivial, trivial, trivial, trivial, trivial, trivial⟩ ?_
    refine zr_callS (c_X11_commonDivisor l G (x4 - x6) x4 q3 e3) (WW' := fun _ => [w_Xx G A K s0, w_Ld G (A 2) s1]) (st := []) (st' := [.long q3]) [] rfl rfl (fun _ => Nat.le_of_ble_eq_true rfl) (fun _ => rfl) rfl rfl nm_X11_commonDivisor zw_6_22 zw_6_12 zw_1_1 zw_6_13 rfl (Nat.le_of_ble_eq_true rfl) ⟨Nat.le_of_ble_eq_true rfl, Nat.le_of_ble_eq_true rfl⟩ (by decide +kernel) (fun _ => ?_)
    refine zr_run [(.lstore 10, 0, 0, 0, .null), (.iload_n 3, 0, 0, 0, .null)] [] (WW' := [w_Xx G A K s0, w_Ld G (A 2) s1]) (lv' := [some (.ref (A 0 0)), some (.int x1), some (.int x2), some (.int x3), some (.long x4), none, some (.long x6), none, some (.long (x4 - x6)), none, some (.long q3), none]) (pc' := 102) (st' := [.int x3]) (by decide +kernel) rfl rfl ⟨trivial, trivial, trivial⟩ ?_
    refine zr_if_ne (off := 11) (tgt := 113) (by decide +kernel) (by decide) (fun hc => ?_) (fun hc => ?_)
    · have hf := zift hf hc
      obtain ⟨h4, hf⟩ := zck_of hf
      refine zr_run [(.lload 8, 0, 0, 0, .null), (.lload 10, 0, 0, 0, .null), (.ldiv, 0, 0, 0, .null)] [] (WW' := [w_Xx G A K s0, w_Ld G (A 2) s1]) (lv' := [some (.ref (A 0 0)), some (.int x1), some (.int x2), some (.int x3), some (.long x4), none, some (.long x6), none, some (.long (x4 - x6)), none, some (.long q3), none]) (pc' := 110) (st' := [.long ((x4 - x6) / q3)]) (by decide +kernel) rfl rfl ⟨trivial, trivial, h4, trivial⟩ ?_
      refine zr_goto (off := 8) (tgt := 118) (by decide +kernel) (by decide) ?_
      refine zr_run [(.l2i, 0, 0, 0, .null)] [] (WW' := [w_Xx G A K s0, w_Ld G (A 2) s1]) (lv' := [some (.ref (A 0 0)), some (.int x1), some (.int x2), some (.int x3), some (.long x4), none, some (.long x6), none, some (.long (x4 - x6)), none, some (.long q3), none]) (pc' := 119) (st' := [.int (((x4 - x6) / q3).toInt32)]) (by decide +kernel) rfl rfl ⟨trivial, trivial⟩ ?_
      obtain rfl := Option.some.inj hf
      refine zj_toX ?_
      refine zr_widen (k2 := 1) (n2 := 6) (Nat.le_of_ble_eq_true rfl) (Nat.le_of_ble_eq_true rfl) ?_
      exact zr_iret (b0 := fun _ => 0) (by decide +kernel) rfl rfl rfl rfl rfl
    · have hf := ziff hf hc
      obtain ⟨h5, hf⟩ := zck_of hf
      refine zr_run [(.lload 4, 0, 0, 0, .null), (.lload 10, 0, 0, 0, .null), (.ldiv, 0, 0, 0, .null), (.l2i, 0, 0, 0, .null)] [] (WW' := [w_Xx G A K s0, w_Ld G (A 2) s1]) (lv' := [some (.ref (A 0 0)), some (.int x1), some (.int x2), some (.int x3), some (.long x4), none, some (.long x6), none, some (.long (x4 - x6)), none, some (.long q3), none]) (pc' := 119) (st' := [.int ((x4 / q3).toInt32)]) (by decide +kernel) rfl rfl ⟨trivial, trivial, h5, trivial, trivial⟩ ?_
      obtain rfl := Option.some.inj hf
      refine zj_toX ?_
      refine zr_widen (k2 := 1) (n2 := 6) (Nat.le_of_ble_eq_true rfl) (Nat.le_of_ble_eq_true rfl) ?_
      exact zr_iret (b0 := fun _ => 0) (by decide +kernel) rfl rfl rfl rfl rfl
theorem t_X11_ship_L47 (l : Launch) (G : zj_G) (hl : l.stackTraces = false) (A : Nat → Nat → Nat) (K : Nat → Nat → Option Nat) (W0 : List va_W) (r : Option (Int32)) (s0 : XxT) (s1 : LdT)   : ∀ (n : Nat) (x1 : Int32) (x2 : Int32) (x3 : Int32) (x4 : Int64) (x6 : Int64) (x8 : Int32), f_X11_ship_L47 s0 s1 n x1 x2 x3 x4 x6 x8 = some r → zj_J l G M_X11_ship W0 (zj_thr G M_X11_ship W0 (r.map fun q => some (.int q)) (fun _ => [w_Xx G A K s0, w_Ld G (A 2) s1])) 0 0 [w_Xx G A K s0, w_Ld G (A 2) s1] [some (.ref (A 0 0)), some (.int x1), some (.int x2), some (.int x3), some (.long x4), none, some (.long x6), none, some (.int x8), none, none, none] 47 [] := by
  intro n
  induction n with
  | zero => intro x1 x2 x3 x4 x6 x8 hf; exact nomatch (show none = some r from hf)
  | succ n ih => intro x1 x2 x3 x4 x6 x8 hf; exact t_X11_ship_H47 l G hl A K W0 r s0 s1  (f_X11_ship_L47 s0 s1 n)  ih x1 x2 x3 x4 x6 x8  hf
set_option maxRecDepth 100000 in
set_option maxHeartbeats 4000000 in
theorem c_X11_ship (l : Launch) (G : zj_G) (hl : l.stackTraces = false) (A : Nat → Nat → Nat) (K : Nat → Nat → Option Nat) (s0 : XxT) (s1 : LdT) (x1 : Int32) (x2 : Int32) (x3 : Int32) (r : Option (Int32)) (hf : f_X11_ship s0 s1 x1 x2 x3 = some r) : zj_CX l G M_X11_ship yX11_ship [w_Xx G A K s0, w_Ld G (A 2) s1] [.ref (A 0 0), .int x1, .int x2, .int x3] ((r.map fun q => some (.int q))) (fun _ => [w_Xx G A K s0, w_Ld G (A 2) s1]) := by
  have key : ∀ W0 : List va_W, zj_J l G M_X11_ship W0 (zj_thr G M_X11_ship W0 (r.map fun q => some (.int q)) (fun _ => [w_Xx G A K s0, w_Ld G (A 2) s1])) 0 0 [w_Xx G A K s0, w_Ld G (A 2) s1] [some (.ref (A 0 0)), some (.int x1), some (.int x2), some (.int x3), none, none, none, none, none, none, none, none] 0 [] := by
    intro W0
    unfold f_X11_ship at hf
    obtain ⟨q1, e1, hf⟩ := zbi_of hf
    refine zr_run [(.aload_n 0, 0, 0, 0, .null), (.getfield 19, 0, 0, 1, .null), (.iload_n 1, 0, 0, 0, .null)] [] (WW' := [w_Xx G A K s0, w_Ld G (A 2) s1]) (lv' := [some (.ref (A 0 0)), some (.int x1), some (.int x2), some (.int x3), none, none, none, none, none, none, none, none]) (pc' := 5) (st' := [.int x1, .ref ((A 2) 0)]) (by decide +kernel) rfl rfl ⟨trivial, ⟨rfl, rfl, zw_2_150⟩, trivial, trivial⟩ ?_
    refine zr_callV (c_X3_isPort l G (A 2) s1 x1 q1 e1) (WW' := fun _ => [w_Xx G A K s0, w_Ld G (A 2) s1]) (st := []) (st' := [.int q1]) [1] rfl rfl (fun _ => Nat.le_of_ble_eq_true rfl) (fun _ => rfl) rfl rfl nm_X3_isPort zw_3_172 zw_3_173 zw_3_174 zw_1_7 zw_3_175 rfl rfl rfl (Nat.le_of_ble_eq_true rfl) ⟨Nat.le_of_ble_eq_true rfl, Nat.le_of_ble_eq_true rfl⟩ (by decide +kernel) (fun _ => ?_)
    refine zr_if_eq (off := 22) (tgt := 30) (by decide +kernel) (by decide) (fun hc => ?_) (fun hc => ?_)
    · have hf := zift hf hc
      refine zr_run [] [0, 1, 2, 3] (WW' := [w_Xx G A K s0, w_Ld G (A 2) s1]) (lv' := [none, none, none, none, none, none, none, none, none, none, none, none]) (pc' := 30) (st' := []) (by decide +kernel) rfl rfl trivial ?_
      exact t_X11_ship_b30 l G hl A K W0 r s0 s1 hf
    · have hf := ziff hf hc
      refine zr_run [(.iload_n 2, 0, 0, 0, .null)] [] (WW' := [w_Xx G A K s0, w_Ld G (A 2) s1]) (lv' := [some (.ref (A 0 0)), some (.int x1), some (.int x2), some (.int x3), none, none, none, none, none, none, none, none]) (pc' := 12) (st' := [.int x2]) (by decide +kernel) rfl rfl ⟨trivial, trivial⟩ ?_
      refine zr_if_lt (off := 18) (tgt := 30) (by decide +kernel) (by decide) (fun hc => ?_) (fun hc => ?_)
      · have hf := zift hf hc
        refine zr_run [] [0, 1, 2, 3] (WW' := [w_Xx G A K s0, w_Ld G (A 2) s1]) (lv' := [none, none, none, none, none, none, none, none, none, none, none, none]) (pc' := 30) (st' := []) (by decide +kernel) rfl rfl trivial ?_
        exact t_X11_ship_b30 l G hl A K W0 r s0 s1 hf
      · have hf := ziff hf hc
        refine zr_run [(.iload_n 2, 0, 0, 0, .null), (.bipush 8, 0, 0, 0, .int (8 : Int32))] [] (WW' := [w_Xx G A K s0, w_Ld G (A 2) s1]) (lv' := [some (.ref (A 0 0)), some (.int x1), some (.int x2), some (.int x3), none, none, none, none, none, none, none, none]) (pc' := 18) (st' := [.int (8 : Int32), .int x2]) (by decide +kernel) rfl rfl ⟨trivial, trivial, trivial⟩ ?_
        refine zr_icmp_gt (off := 12) (tgt := 30) (by decide +kernel) (by decide) (fun hc => ?_) (fun hc => ?_)
        · have hf := zift hf hc
          refine zr_run [] [0, 1, 2, 3] (WW' := [w_Xx G A K s0, w_Ld G (A 2) s1]) (lv' := [none, none, none, none, none, none, none, none, none, none, none, none]) (pc' := 30) (st' := []) (by decide +kernel) rfl rfl trivial ?_
          exact t_X11_ship_b30 l G hl A K W0 r s0 s1 hf
        · have hf := ziff hf hc
          refine zr_run [(.iload_n 3, 0, 0, 0, .null)] [] (WW' := [w_Xx G A K s0, w_Ld G (A 2) s1]) (lv' := [some (.ref (A 0 0)), some (.int x1), some (.int x2), some (.int x3), none, none, none, none, none, none, none, none]) (pc' := 22) (st' := [.int x3]) (by decide +kernel) rfl rfl ⟨trivial, trivial⟩ ?_
          refine zr_if_lt (off := 8) (tgt := 30) (by decide +kernel) (by decide) (fun hc => ?_) (fun hc => ?_)
          · have hf := zift hf hc
            refine zr_run [] [0, 1, 2, 3] (WW' := [w_Xx G A K s0, w_Ld G (A 2) s1]) (lv' := [none, none, none, none, none, none, none, none, none, none, none, none]) (pc' := 30) (st' := []) (by decide +kernel) rfl rfl trivial ?_
            exact t_X11_ship_b30 l G hl A K W0 r s0 s1 hf
          · have hf := ziff hf hc
            refine zr_run [(.iload_n 3, 0, 0, 0, .null), (.iconst 1, 0, 0, 0, .int (1 : Int32))] [] (WW' := [w_Xx G A K s0, w_Ld G (A 2) s1]) (lv' := [some (.ref (A 0 0)), some (.int x1), some (.int x2), some (.int x3), none, none, none, none, none, none, none, none]) (pc' := 27) (st' := [.int (1 : Int32), .int x3]) (by decide +kernel) rfl rfl ⟨trivial, trivial, trivial⟩ ?_
            refine zr_icmp_le (off := 11) (tgt := 38) (by decide +kernel) (by decide) (fun hc => ?_) (fun hc => ?_)
            · have hf := zift hf hc
              refine zr_run [] [0, 1, 2, 3] (WW' := [w_Xx G A K s0, w_Ld G (A 2) s1]) (lv' := [none, none, none, none, none, none, none, none, none, none, none, none]) (pc' := 30) (st' := []) (by decide +kernel) rfl rfl trivial ?_
              exact t_X11_ship_b30 l G hl A K W0 r s0 s1 hf
            · have hf := ziff hf hc
              refine zr_run [(.lconst 1, 0, 0, 0, .long (1 : Int64)), (.lstore 4, 0, 0, 0, .null), (.lconst 1, 0, 0, 0, .long (1 : Int64)), (.lstore 6, 0, 0, 0, .null), (.iconst 0, 0, 0, 0, .int (0 : Int32)), (.istore 8, 0, 0, 0, .null)] [] (WW' := [w_Xx G A K s0, w_Ld G (A 2) s1]) (lv' := [some (.ref (A 0 0)), some (.int x1), some (.int x2), some (.int x3), some (.long (1 : Int64)), none, some (.long (1 : Int64)), none, some (.int (0 : Int32)), none, none, none]) (pc' := 47) (st' := []) (by decide +kernel) rfl rfl ⟨trivial, trivial, trivial, trivial, trivial, trivial, trivial⟩ ?_
              exact t_X11_ship_L47 l G hl A K W0 r s0 s1 zFU x1 x2 x3 (1 : Int64) (1 : Int64) (0 : Int32) hf
  exact zj_entryX [some (.ref (A 0 0)), some (.int x1), some (.int x2), some (.int x3), none, none, none, none, none, none, none, none] (by decide +kernel) rfl (by decide) (Nat.le_of_ble_eq_true rfl) rfl rfl (key _)
def M_X11_turned : zj_M := (RX11, cX11_turned, 3, (some .int), { frames := 3, cells := 0, slots := 0, locals := 73 }, false)
theorem nm_X11_turned : zj_nm yX11_turned 1 := ⟨by decide +kernel, by decide +kernel, by decide +kernel⟩
def f_X11_turned_b59  (s0 : XxT) (s1 : LdT) (s2 : RdT) (s3 : FkT) (s4 : TrT)  (x2 : Int32) : Option (Int32 × RdT × TrT) := (zlet (Rd_s_length s2 (0 : Int32)) fun y2 => some (x2, y2, s4))
def f_X11_turned  (s0 : XxT) (s1 : LdT) (s2 : RdT) (s3 : FkT) (s4 : TrT) (x1 : Int32) : Option (Int32 × RdT × TrT) := ((f_X3_hasMan s1 x1).bind fun q1 => (if q1 = 0 then f_X11_turned_b59 s0 s1 s2 s3 s4 (-1 : Int32) else ((f_X1_of s3 x1 (0 : Int32)).bind fun q3 => (if q3 = (1 : Int32) then ((f_X3_ofMan s1 x1 (1 : Int32)).bind fun q4 => ((f_X1_allMiles s3 s1 x1).bind fun q5 => ((f_X10_track s4 s2 q4 q5).bind fun q6 => f_X11_turned_b59 s0 s1 s2 s3 q6.2 q6.1))) else f_X11_turned_b59 s0 s1 s2 s3 s4 (-1 : Int32)))))
set_option maxRecDepth 100000 in
set_option maxHeartbeats 4000000 in
theorem t_X11_turned_b59 (l : Launch) (G : zj_G) (A : Nat → Nat → Nat) (K : Nat → Nat → Option Nat) (W0 : List va_W) (r : Int32 × RdT × TrT) (s0 : XxT) (s1 : LdT) (s2 : RdT) (s3 : FkT) (s4 : TrT)   (x2 : Int32) (hf : f_X11_turned_b59 s0 s1 s2 s3 s4 x2 = some r) : zj_J l G M_X11_turned W0 (zj_ret G M_X11_turned W0 (some (.int r.1)) (fun _ => [w_Xx G A K s0, w_Ld G (A 2) s1, w_Rd G (A 1) r.2.1, w_Fk G (A 4) s3, w_Tr G (A 22) r.2.2])) 0 0 [w_Xx G A K s0, w_Ld G (A 2) s1, w_Rd G (A 1) s2, w_Fk G (A 4) s3, w_Tr G (A 22) s4] [some (.ref (A 0 0)), none, some (.int x2)] 59 [] := by
  unfold f_X11_turned_b59 at hf
  obtain ⟨y2, e2, hf⟩ := zlet_of hf
  refine zr_run [(.aload_n 0, 0, 0, 0, .null), (.getfield 10, 0, 0, 0, .null), (.iconst 0, 0, 0, 0, .int (0 : Int32)), (.putfield 123, 2, 0, 1, .null)] [] (WW' := [w_Xx G A K s0, w_Ld G (A 2) s1, w_Rd G (A 1) (Rd_s_length s2 (0 : Int32)), w_Fk G (A 4) s3, w_Tr G (A 22) s4]) (lv' := [some (.ref (A 0 0)), none, some (.int x2)]) (pc' := 67) (st' := []) (by decide +kernel) rfl rfl ⟨trivial, ⟨rfl, rfl, zw_2_149⟩, trivial, ⟨rfl, rfl, rfl, trivial, rfl, rfl, zw_1_94⟩, trivial⟩ ?_
  refine zr_eq (WW2 := [w_Xx G A K s0, w_Ld G (A 2) s1, w_Rd G (A 1) y2, w_Fk G (A 4) s3, w_Tr G (A 22) s4]) (lv2 := [some (.ref (A 0 0)), none, some (.int x2)]) (st2 := []) (by rw [e2]) rfl rfl ?_
  refine zr_run [(.iload_n 2, 0, 0, 0, .null)] [] (WW' := [w_Xx G A K s0, w_Ld G (A 2) s1, w_Rd G (A 1) y2, w_Fk G (A 4) s3, w_Tr G (A 22) s4]) (lv' := [some (.ref (A 0 0)), none, some (.int x2)]) (pc' := 68) (st' := [.int x2]) (by decide +kernel) rfl rfl ⟨trivial, trivial⟩ ?_
  obtain rfl := Option.some.inj hf
  exact zr_iret (b0 := fun _ => 0) (by decide +kernel) rfl rfl rfl rfl rfl
set_option maxRecDepth 100000 in
set_option maxHeartbeats 4000000 in
theorem c_X11_turned (l : Launch) (G : zj_G) (A : Nat → Nat → Nat) (K : Nat → Nat → Option Nat) (s0 : XxT) (s1 : LdT) (s2 : RdT) (s3 : FkT) (s4 : TrT) (x1 : Int32) (r : Int32 × RdT × TrT) (hf : f_X11_turned s0 s1 s2 s3 s4 x1 = some r) : zj_C l G M_X11_turned yX11_turned [w_Xx G A K s0, w_Ld G (A 2) s1, w_Rd G (A 1) s2, w_Fk G (A 4) s3, w_Tr G (A 22) s4] [.ref (A 0 0), .int x1] (some (.int r.1)) (fun _ => [w_Xx G A K s0, w_Ld G (A 2) s1, w_Rd G (A 1) r.2.1, w_Fk G (A 4) s3, w_Tr G (A 22) r.2.2]) := by
  have key : ∀ W0 : List va_W, zj_J l G M_X11_turned W0 (zj_ret G M_X11_turned W0 (some (.int r.1)) (fun _ => [w_Xx G A K s0, w_Ld G (A 2) s1, w_Rd G (A 1) r.2.1, w_Fk G (A 4) s3, w_Tr G (A 22) r.2.2])) 0 0 [w_Xx G A K s0, w_Ld G (A 2) s1, w_Rd G (A 1) s2, w_Fk G (A 4) s3, w_Tr G (A 22) s4] [some (.ref (A 0 0)), some (.int x1), none] 0 [] := by
    intro W0
    unfold f_X11_turned at hf
    obtain ⟨q1, e1, hf⟩ := zbi_of hf
    refine zr_run [(.iconst (-1), 0, 0, 0, .int (-1 : Int32)), (.istore_n 2, 0, 0, 0, .null), (.aload_n 0, 0, 0, 0, .null), (.getfield 19, 0, 0, 1, .null), (.iload_n 1, 0, 0, 0, .null)] [] (WW' := [w_Xx G A K s0, w_Ld G (A 2) s1, w_Rd G (A 1) s2, w_Fk G (A 4) s3, w_Tr G (A 22) s4]) (lv' := [some (.ref (A 0 0)), some (.int x1), some (.int (-1 : Int32))]) (pc' := 7) (st' := [.int x1, .ref ((A 2) 0)]) (by decide +kernel) rfl rfl ⟨trivial, trivial, trivial, ⟨rfl, rfl, zw_2_150⟩, trivial, trivial⟩ ?_
    refine zr_callV (c_X3_hasMan l G (A 2) s1 x1 q1 e1) (WW' := fun _ => [w_Xx G A K s0, w_Ld G (A 2) s1, w_Rd G (A 1) s2, w_Fk G (A 4) s3, w_Tr G (A 22) s4]) (st := []) (st' := [.int q1]) [1] rfl rfl (fun _ => Nat.le_of_ble_eq_true rfl) (fun _ => rfl) rfl rfl nm_X3_hasMan zw_3_168 zw_3_169 zw_3_170 zw_1_7 zw_3_171 rfl rfl rfl (Nat.le_of_ble_eq_true rfl) ⟨Nat.le_of_ble_eq_true rfl, Nat.le_of_ble_eq_true rfl⟩ (by decide +kernel) (fun _ => ?_)
    refine zr_if_eq (off := 49) (tgt := 59) (by decide +kernel) (by decide) (fun hc => ?_) (fun hc => ?_)
    · have hf := zift hf hc
      refine zr_run [] [1] (WW' := [w_Xx G A K s0, w_Ld G (A 2) s1, w_Rd G (A 1) s2, w_Fk G (A 4) s3, w_Tr G (A 22) s4]) (lv' := [some (.ref (A 0 0)), none, some (.int (-1 : Int32))]) (pc' := 59) (st' := []) (by decide +kernel) rfl rfl trivial ?_
      exact t_X11_turned_b59 l G A K W0 r s0 s1 s2 s3 s4 (-1 : Int32) hf
    · have hf := ziff hf hc
      obtain ⟨q3, e3, hf⟩ := zbi_of hf
      refine zr_run [(.aload_n 0, 0, 0, 0, .null), (.getfield 29, 0, 0, 3, .null), (.iload_n 1, 0, 0, 0, .null), (.iconst 0, 0, 0, 0, .int (0 : Int32))] [] (WW' := [w_Xx G A K s0, w_Ld G (A 2) s1, w_Rd G (A 1) s2, w_Fk G (A 4) s3, w_Tr G (A 22) s4]) (lv' := [some (.ref (A 0 0)), some (.int x1), some (.int (-1 : Int32))]) (pc' := 19) (st' := [.int (0 : Int32), .int x1, .ref ((A 4) 0)]) (by decide +kernel) rfl rfl ⟨trivial, ⟨rfl, rfl, zw_2_152⟩, trivial, trivial, trivial⟩ ?_
      refine zr_callV (c_X1_of l G (A 4) s3 x1 (0 : Int32) q3 e3) (WW' := fun _ => [w_Xx G A K s0, w_Ld G (A 2) s1, w_Rd G (A 1) s2, w_Fk G (A 4) s3, w_Tr G (A 22) s4]) (st := []) (st' := [.int q3]) [3] rfl rfl (fun _ => Nat.le_of_ble_eq_true rfl) (fun _ => rfl) rfl rfl nm_X1_of zw_4_168 zw_3_142 zw_3_143 zw_1_8 zw_3_142n rfl rfl rfl (Nat.le_of_ble_eq_true rfl) ⟨Nat.le_of_ble_eq_true rfl, Nat.le_of_ble_eq_true rfl⟩ (by decide +kernel) (fun _ => ?_)
      refine zr_run [(.iconst 1, 0, 0, 0, .int (1 : Int32))] [] (WW' := [w_Xx G A K s0, w_Ld G (A 2) s1, w_Rd G (A 1) s2, w_Fk G (A 4) s3, w_Tr G (A 22) s4]) (lv' := [some (.ref (A 0 0)), some (.int x1), some (.int (-1 : Int32))]) (pc' := 23) (st' := [.int (1 : Int32), .int q3]) (by decide +kernel) rfl rfl ⟨trivial, trivial⟩ ?_
      refine zr_icmp_ne (off := 36) (tgt := 59) (by decide +kernel) (by decide) (fun hc => ?_) (fun hc => ?_)
      · have hf := zift hf hc
        obtain ⟨q4, e4, hf⟩ := zbi_of hf
        refine zr_run [(.aload_n 0, 0, 0, 0, .null), (.getfield 103, 0, 0, 16, .null), (.aload_n 0, 0, 0, 0, .null), (.getfield 10, 0, 0, 0, .null), (.aload_n 0, 0, 0, 0, .null), (.getfield 19, 0, 0, 1, .null), (.iload_n 1, 0, 0, 0, .null), (.iconst 1, 0, 0, 0, .int (1 : Int32))] [] (WW' := [w_Xx G A K s0, w_Ld G (A 2) s1, w_Rd G (A 1) s2, w_Fk G (A 4) s3, w_Tr G (A 22) s4]) (lv' := [some (.ref (A 0 0)), some (.int x1), some (.int (-1 : Int32))]) (pc' := 40) (st' := [.int (1 : Int32), .int x1, .ref ((A 2) 0), .ref ((A 1) 0), .ref ((A 22) 0)]) (by decide +kernel) rfl rfl ⟨trivial, ⟨rfl, rfl, zw_2_165⟩, trivial, ⟨rfl, rfl, zw_2_149⟩, trivial, ⟨rfl, rfl, zw_2_150⟩, trivial, trivial, trivial⟩ ?_
        refine zr_callV (c_X3_ofMan l G (A 2) s1 x1 (1 : Int32) q4 e4) (WW' := fun _ => [w_Xx G A K s0, w_Ld G (A 2) s1, w_Rd G (A 1) s2, w_Fk G (A 4) s3, w_Tr G (A 22) s4]) (st := [.ref ((A 1) 0), .ref ((A 22) 0)]) (st' := [.int q4, .ref ((A 1) 0), .ref ((A 22) 0)]) [1] rfl rfl (fun _ => Nat.le_of_ble_eq_true rfl) (fun _ => rfl) rfl rfl nm_X3_ofMan zw_4_169 zw_3_67 zw_3_68 zw_1_7 zw_3_67n rfl rfl rfl (Nat.le_of_ble_eq_true rfl) ⟨Nat.le_of_ble_eq_true rfl, Nat.le_of_ble_eq_true rfl⟩ (by decide +kernel) (fun _ => ?_)
        obtain ⟨q5, e5, hf⟩ := zbi_of hf
        refine zr_run [(.aload_n 0, 0, 0, 0, .null), (.getfield 29, 0, 0, 3, .null), (.aload_n 0, 0, 0, 0, .null), (.getfield 19, 0, 0, 1, .null), (.iload_n 1, 0, 0, 0, .null)] [] (WW' := [w_Xx G A K s0, w_Ld G (A 2) s1, w_Rd G (A 1) s2, w_Fk G (A 4) s3, w_Tr G (A 22) s4]) (lv' := [some (.ref (A 0 0)), some (.int x1), some (.int (-1 : Int32))]) (pc' := 52) (st' := [.int x1, .ref ((A 2) 0), .ref ((A 4) 0), .int q4, .ref ((A 1) 0), .ref ((A 22) 0)]) (by decide +kernel) rfl rfl ⟨trivial, ⟨rfl, rfl, zw_2_152⟩, trivial, ⟨rfl, rfl, zw_2_150⟩, trivial, trivial⟩ ?_
        refine zr_callV (c_X1_allMiles l G (A 4) (A 2) s3 s1 x1 q5 e5) (WW' := fun _ => [w_Xx G A K s0, w_Ld G (A 2) s1, w_Rd G (A 1) s2, w_Fk G (A 4) s3, w_Tr G (A 22) s4]) (st := [.int q4, .ref ((A 1) 0), .ref ((A 22) 0)]) (st' := [.int q5, .int q4, .ref ((A 1) 0), .ref ((A 22) 0)]) [3, 1] rfl rfl (fun _ => Nat.le_of_ble_eq_true rfl) (fun _ => rfl) rfl rfl nm_X1_allMiles zw_4_170 zw_4_28 zw_4_29 zw_1_8 zw_4_30 rfl rfl rfl (Nat.le_of_ble_eq_true rfl) ⟨Nat.le_of_ble_eq_true rfl, Nat.le_of_ble_eq_true rfl⟩ (by decide +kernel) (fun _ => ?_)
        obtain ⟨q6, e6, hf⟩ := zbi_of hf
        refine zr_callV (c_X10_track l G (A 22) (A 1) s4 s2 q4 q5 q6 e6) (WW' := fun _ => [w_Xx G A K s0, w_Ld G (A 2) s1, w_Rd G (A 1) s2, w_Fk G (A 4) s3, w_Tr G (A 22) q6.2]) (st := []) (st' := [.int q6.1]) [4, 2] rfl rfl (fun _ => Nat.le_of_ble_eq_true rfl) (fun _ => rfl) rfl rfl nm_X10_track zw_4_171 zw_4_172 zw_4_173 zw_1_17 zw_4_174 rfl rfl rfl (Nat.le_of_ble_eq_true rfl) ⟨Nat.le_of_ble_eq_true rfl, Nat.le_of_ble_eq_true rfl⟩ (by decide +kernel) (fun _ => ?_)
        refine zr_run [(.istore_n 2, 0, 0, 0, .null)] [1] (WW' := [w_Xx G A K s0, w_Ld G (A 2) s1, w_Rd G (A 1) s2, w_Fk G (A 4) s3, w_Tr G (A 22) q6.2]) (lv' := [some (.ref (A 0 0)), none, some (.int q6.1)]) (pc' := 59) (st' := []) (by decide +kernel) rfl rfl ⟨trivial, trivial⟩ ?_
        exact t_X11_turned_b59 l G A K W0 r s0 s1 s2 s3 q6.2 q6.1 hf
      · have hf := ziff hf hc
        refine zr_run [] [1] (WW' := [w_Xx G A K s0, w_Ld G (A 2) s1, w_Rd G (A 1) s2, w_Fk G (A 4) s3, w_Tr G (A 22) s4]) (lv' := [some (.ref (A 0 0)), none, some (.int (-1 : Int32))]) (pc' := 59) (st' := []) (by decide +kernel) rfl rfl trivial ?_
        exact t_X11_turned_b59 l G A K W0 r s0 s1 s2 s3 s4 (-1 : Int32) hf
  exact zj_entry [some (.ref (A 0 0)), some (.int x1), none] (by decide +kernel) rfl (by decide) (Nat.le_of_ble_eq_true rfl) rfl rfl (key _)
def M_X11_least : zj_M := (RX11, cX11_least, 1, (some .int), { frames := 0, cells := 0, slots := 0, locals := 0 }, false)
theorem nm_X11_least : zj_nm yX11_least 0 := ⟨by decide +kernel, by decide +kernel, by decide +kernel⟩
def f_X11_least  (s0 : XxT) (s1 : TrT)  : Option (Int32) := some (Tr_least s1)
set_option maxRecDepth 100000 in
set_option maxHeartbeats 4000000 in
theorem c_X11_least (l : Launch) (G : zj_G) (A : Nat → Nat → Nat) (K : Nat → Nat → Option Nat) (s0 : XxT) (s1 : TrT)  (r : Int32) (hf : f_X11_least s0 s1 = some r) : zj_C l G M_X11_least yX11_least [w_Xx G A K s0, w_Tr G (A 22) s1] [.ref (A 0 0)] (some (.int r)) (fun _ => [w_Xx G A K s0, w_Tr G (A 22) s1]) := by
  have key : ∀ W0 : List va_W, zj_J l G M_X11_least W0 (zj_ret G M_X11_least W0 (some (.int r)) (fun _ => [w_Xx G A K s0, w_Tr G (A 22) s1])) 0 0 [w_Xx G A K s0, w_Tr G (A 22) s1] [some (.ref (A 0 0))] 0 [] := by
    intro W0
    unfold f_X11_least at hf
    refine zr_run [(.aload_n 0, 0, 0, 0, .null), (.getfield 103, 0, 0, 16, .null), (.getfield 289, 1, 0, 0, .null)] [] (WW' := [w_Xx G A K s0, w_Tr G (A 22) s1]) (lv' := [some (.ref (A 0 0))]) (pc' := 7) (st' := [.int (Tr_least s1)]) (by decide +kernel) rfl rfl ⟨trivial, ⟨rfl, rfl, zw_2_165⟩, ⟨rfl, rfl, zw_2_135⟩, trivial⟩ ?_
    obtain rfl := Option.some.inj hf
    exact zr_iret (b0 := fun _ => 0) (by decide +kernel) rfl rfl rfl rfl rfl
  exact zj_entry [some (.ref (A 0 0))] (by decide +kernel) rfl (by decide) (Nat.le_of_ble_eq_true rfl) rfl rfl (key _)
def M_X11_greatest : zj_M := (RX11, cX11_greatest, 1, (some .int), { frames := 0, cells := 0, slots := 0, locals := 0 }, false)
theorem nm_X11_greatest : zj_nm yX11_greatest 0 := ⟨by decide +kernel, by decide +kernel, by decide +kernel⟩
def f_X11_greatest  (s0 : XxT) (s1 : TrT)  : Option (Int32) := some (Tr_greatest s1)
set_option maxRecDepth 100000 in
set_option maxHeartbeats 4000000 in
theorem c_X11_greatest (l : Launch) (G : zj_G) (A : Nat → Nat → Nat) (K : Nat → Nat → Option Nat) (s0 : XxT) (s1 : TrT)  (r : Int32) (hf : f_X11_greatest s0 s1 = some r) : zj_C l G M_X11_greatest yX11_greatest [w_Xx G A K s0, w_Tr G (A 22) s1] [.ref (A 0 0)] (some (.int r)) (fun _ => [w_Xx G A K s0, w_Tr G (A 22) s1]) := by
  have key : ∀ W0 : List va_W, zj_J l G M_X11_greatest W0 (zj_ret G M_X11_greatest W0 (some (.int r)) (fun _ => [w_Xx G A K s0, w_Tr G (A 22) s1])) 0 0 [w_Xx G A K s0, w_Tr G (A 22) s1] [some (.ref (A 0 0))] 0 [] := by
    intro W0
    unfold f_X11_greatest at hf
    refine zr_run [(.aload_n 0, 0, 0, 0, .null), (.getfield 103, 0, 0, 16, .null), (.getfield 292, 1, 0, 1, .null)] [] (WW' := [w_Xx G A K s0, w_Tr G (A 22) s1]) (lv' := [some (.ref (A 0 0))]) (pc' := 7) (st' := [.int (Tr_greatest s1)]) (by decide +kernel) rfl rfl ⟨trivial, ⟨rfl, rfl, zw_2_165⟩, ⟨rfl, rfl, zw_2_137⟩, trivial⟩ ?_
    obtain rfl := Option.some.inj hf
    exact zr_iret (b0 := fun _ => 0) (by decide +kernel) rfl rfl rfl rfl rfl
  exact zj_entry [some (.ref (A 0 0))] (by decide +kernel) rfl (by decide) (Nat.le_of_ble_eq_true rfl) rfl rfl (key _)
def M_X11_there : zj_M := (RX11, cX11_there, 6, (some .int), { frames := 2, cells := 0, slots := 0, locals := 45 }, false)
theorem nm_X11_there : zj_nm yX11_there 1 := ⟨by decide +kernel, by decide +kernel, by decide +kernel⟩
def f_X11_there_b111  (s0 : XxT) (s1 : LdT) (s2 : FkT)   : Option (Int32) := some (-1 : Int32)
def f_X11_there  (s0 : XxT) (s1 : LdT) (s2 : FkT) (x1 : Int32) : Option (Int32) := ((f_X3_hasMan s1 x1).bind fun q1 => (if q1 = 0 then some (-1 : Int32) else ((f_X1_of s2 x1 (0 : Int32)).bind fun q2 => (if q2 = (1 : Int32) then ((f_X1_of s2 x1 (7 : Int32)).bind fun q3 => (if q3 < (1 : Int32) then some (-1 : Int32) else ((f_X1_allMiles s2 s1 x1).bind fun q4 => ((f_X1_of s2 x1 (5 : Int32)).bind fun q5 => (if zb_nz q3 = true then ((f_X1_today s2).bind fun q7 => ((f_X1_daysYet s2 x1).bind fun q8 => (if q8 < ((((q4 - q5) + q3) - (1 : Int32)) / q3) then f_X11_there_b111 s0 s1 s2 else (if ((q7 + ((((q4 - q5) + q3) - (1 : Int32)) / q3)) - (1 : Int32)) < (400 : Int32) then some ((q7 + ((((q4 - q5) + q3) - (1 : Int32)) / q3)) - (1 : Int32)) else f_X11_there_b111 s0 s1 s2)))) else none))))) else some (-1 : Int32)))))
set_option maxRecDepth 100000 in
set_option maxHeartbeats 4000000 in
theorem t_X11_there_b111 (l : Launch) (G : zj_G) (A : Nat → Nat → Nat) (K : Nat → Nat → Option Nat) (W0 : List va_W) (r : Int32) (s0 : XxT) (s1 : LdT) (s2 : FkT)    (hf : f_X11_there_b111 s0 s1 s2 = some r) : zj_J l G M_X11_there W0 (zj_ret G M_X11_there W0 (some (.int r)) (fun _ => [w_Xx G A K s0, w_Ld G (A 2) s1, w_Fk G (A 4) s2])) 0 0 [w_Xx G A K s0, w_Ld G (A 2) s1, w_Fk G (A 4) s2] [none, none, none, none, none, none] 111 [] := by
  unfold f_X11_there_b111 at hf
  refine zr_run [(.iconst (-1), 0, 0, 0, .int (-1 : Int32))] [] (WW' := [w_Xx G A K s0, w_Ld G (A 2) s1, w_Fk G (A 4) s2]) (lv' := [none, none, none, none, none, none]) (pc' := 112) (st' := [.int (-1 : Int32)]) (by decide +kernel) rfl rfl ⟨trivial, trivial⟩ ?_
  refine zr_goto (off := 5) (tgt := 117) (by decide +kernel) (by decide) ?_
  obtain rfl := Option.some.inj hf
  exact zr_iret (b0 := fun _ => 0) (by decide +kernel) rfl rfl rfl rfl rfl
set_option maxRecDepth 100000 in
set_option maxHeartbeats 4000000 in
theorem c_X11_there (l : Launch) (G : zj_G) (A : Nat → Nat → Nat) (K : Nat → Nat → Option Nat) (s0 : XxT) (s1 : LdT) (s2 : FkT) (x1 : Int32) (r : Int32) (hf : f_X11_there s0 s1 s2 x1 = some r) : zj_C l G M_X11_there yX11_there [w_Xx G A K s0, w_Ld G (A 2) s1, w_Fk G (A 4) s2] [.ref (A 0 0), .int x1] (some (.int r)) (fun _ => [w_Xx G A K s0, w_Ld G (A 2) s1, w_Fk G (A 4) s2]) := by
  have key : ∀ W0 : List va_W, zj_J l G M_X11_there W0 (zj_ret G M_X11_there W0 (some (.int r)) (fun _ => [w_Xx G A K s0, w_Ld G (A 2) s1, w_Fk G (A 4) s2])) 0 0 [w_Xx G A K s0, w_Ld G (A 2) s1, w_Fk G (A 4) s2] [some (.ref (A 0 0)), some (.int x1), none, none, none, none] 0 [] := by
    intro W0
    unfold f_X11_there at hf
    obtain ⟨q1, e1, hf⟩ := zbi_of hf
    refine zr_run [(.aload_n 0, 0, 0, 0, .null), (.getfield 19, 0, 0, 1, .null), (.iload_n 1, 0, 0, 0, .null)] [] (WW' := [w_Xx G A K s0, w_Ld G (A 2) s1, w_Fk G (A 4) s2]) (lv' := [some (.ref (A 0 0)), some (.int x1), none, none, none, none]) (pc' := 5) (st' := [.int x1, .ref ((A 2) 0)]) (by decide +kernel) rfl rfl ⟨trivial, ⟨rfl, rfl, zw_2_150⟩, trivial, trivial⟩ ?_
    refine zr_callV (c_X3_hasMan l G (A 2) s1 x1 q1 e1) (WW' := fun _ => [w_Xx G A K s0, w_Ld G (A 2) s1, w_Fk G (A 4) s2]) (st := []) (st' := [.int q1]) [1] rfl rfl (fun _ => Nat.le_of_ble_eq_true rfl) (fun _ => rfl) rfl rfl nm_X3_hasMan zw_3_168 zw_3_169 zw_3_170 zw_1_7 zw_3_171 rfl rfl rfl (Nat.le_of_ble_eq_true rfl) ⟨Nat.le_of_ble_eq_true rfl, Nat.le_of_ble_eq_true rfl⟩ (by decide +kernel) (fun _ => ?_)
    refine zr_if_eq (off := 16) (tgt := 24) (by decide +kernel) (by decide) (fun hc => ?_) (fun hc => ?_)
    · have hf := zift hf hc
      refine zr_run [(.iconst (-1), 0, 0, 0, .int (-1 : Int32))] [] (WW' := [w_Xx G A K s0, w_Ld G (A 2) s1, w_Fk G (A 4) s2]) (lv' := [some (.ref (A 0 0)), some (.int x1), none, none, none, none]) (pc' := 25) (st' := [.int (-1 : Int32)]) (by decide +kernel) rfl rfl ⟨trivial, trivial⟩ ?_
      obtain rfl := Option.some.inj hf
      exact zr_iret (b0 := fun _ => 0) (by decide +kernel) rfl rfl rfl rfl rfl
    · have hf := ziff hf hc
      obtain ⟨q2, e2, hf⟩ := zbi_of hf
      refine zr_run [(.aload_n 0, 0, 0, 0, .null), (.getfield 29, 0, 0, 3, .null), (.iload_n 1, 0, 0, 0, .null), (.iconst 0, 0, 0, 0, .int (0 : Int32))] [] (WW' := [w_Xx G A K s0, w_Ld G (A 2) s1, w_Fk G (A 4) s2]) (lv' := [some (.ref (A 0 0)), some (.int x1), none, none, none, none]) (pc' := 17) (st' := [.int (0 : Int32), .int x1, .ref ((A 4) 0)]) (by decide +kernel) rfl rfl ⟨trivial, ⟨rfl, rfl, zw_2_152⟩, trivial, trivial, trivial⟩ ?_
      refine zr_callV (c_X1_of l G (A 4) s2 x1 (0 : Int32) q2 e2) (WW' := fun _ => [w_Xx G A K s0, w_Ld G (A 2) s1, w_Fk G (A 4) s2]) (st := []) (st' := [.int q2]) [2] rfl rfl (fun _ => Nat.le_of_ble_eq_true rfl) (fun _ => rfl) rfl rfl nm_X1_of zw_4_168 zw_3_142 zw_3_143 zw_1_8 zw_3_142n rfl rfl rfl (Nat.le_of_ble_eq_true rfl) ⟨Nat.le_of_ble_eq_true rfl, Nat.le_of_ble_eq_true rfl⟩ (by decide +kernel) (fun _ => ?_)
      refine zr_run [(.iconst 1, 0, 0, 0, .int (1 : Int32))] [] (WW' := [w_Xx G A K s0, w_Ld G (A 2) s1, w_Fk G (A 4) s2]) (lv' := [some (.ref (A 0 0)), some (.int x1), none, none, none, none]) (pc' := 21) (st' := [.int (1 : Int32), .int q2]) (by decide +kernel) rfl rfl ⟨trivial, trivial⟩ ?_
      refine zr_icmp_eq (off := 5) (tgt := 26) (by decide +kernel) (by decide) (fun hc => ?_) (fun hc => ?_)
      · have hf := zift hf hc
        obtain ⟨q3, e3, hf⟩ := zbi_of hf
        refine zr_run [(.aload_n 0, 0, 0, 0, .null), (.getfield 29, 0, 0, 3, .null), (.iload_n 1, 0, 0, 0, .null), (.bipush 7, 0, 0, 0, .int (7 : Int32))] [] (WW' := [w_Xx G A K s0, w_Ld G (A 2) s1, w_Fk G (A 4) s2]) (lv' := [some (.ref (A 0 0)), some (.int x1), none, none, none, none]) (pc' := 33) (st' := [.int (7 : Int32), .int x1, .ref ((A 4) 0)]) (by decide +kernel) rfl rfl ⟨trivial, ⟨rfl, rfl, zw_2_152⟩, trivial, trivial, trivial⟩ ?_
        refine zr_callV (c_X1_of l G (A 4) s2 x1 (7 : Int32) q3 e3) (WW' := fun _ => [w_Xx G A K s0, w_Ld G (A 2) s1, w_Fk G (A 4) s2]) (st := []) (st' := [.int q3]) [2] rfl rfl (fun _ => Nat.le_of_ble_eq_true rfl) (fun _ => rfl) rfl rfl nm_X1_of zw_4_168 zw_3_142 zw_3_143 zw_1_8 zw_3_142n rfl rfl rfl (Nat.le_of_ble_eq_true rfl) ⟨Nat.le_of_ble_eq_true rfl, Nat.le_of_ble_eq_true rfl⟩ (by decide +kernel) (fun _ => ?_)
        refine zr_run [(.istore_n 2, 0, 0, 0, .null), (.iload_n 2, 0, 0, 0, .null), (.iconst 1, 0, 0, 0, .int (1 : Int32))] [] (WW' := [w_Xx G A K s0, w_Ld G (A 2) s1, w_Fk G (A 4) s2]) (lv' := [some (.ref (A 0 0)), some (.int x1), some (.int q3), none, none, none]) (pc' := 39) (st' := [.int (1 : Int32), .int q3]) (by decide +kernel) rfl rfl ⟨trivial, trivial, trivial, trivial⟩ ?_
        refine zr_icmp_ge (off := 5) (tgt := 44) (by decide +kernel) (by decide) (fun hc => ?_) (fun hc => ?_)
        · have hf := zift hf hc
          refine zr_run [(.iconst (-1), 0, 0, 0, .int (-1 : Int32))] [] (WW' := [w_Xx G A K s0, w_Ld G (A 2) s1, w_Fk G (A 4) s2]) (lv' := [some (.ref (A 0 0)), some (.int x1), some (.int q3), none, none, none]) (pc' := 43) (st' := [.int (-1 : Int32)]) (by decide +kernel) rfl rfl ⟨trivial, trivial⟩ ?_
          obtain rfl := Option.some.inj hf
          exact zr_iret (b0 := fun _ => 0) (by decide +kernel) rfl rfl rfl rfl rfl
        · have hf := ziff hf hc
          obtain ⟨q4, e4, hf⟩ := zbi_of hf
          refine zr_run [(.aload_n 0, 0, 0, 0, .null), (.getfield 29, 0, 0, 3, .null), (.aload_n 0, 0, 0, 0, .null), (.getfield 19, 0, 0, 1, .null), (.iload_n 1, 0, 0, 0, .null)] [] (WW' := [w_Xx G A K s0, w_Ld G (A 2) s1, w_Fk G (A 4) s2]) (lv' := [some (.ref (A 0 0)), some (.int x1), some (.int q3), none, none, none]) (pc' := 53) (st' := [.int x1, .ref ((A 2) 0), .ref ((A 4) 0)]) (by decide +kernel) rfl rfl ⟨trivial, ⟨rfl, rfl, zw_2_152⟩, trivial, ⟨rfl, rfl, zw_2_150⟩, trivial, trivial⟩ ?_
          refine zr_callV (c_X1_allMiles l G (A 4) (A 2) s2 s1 x1 q4 e4) (WW' := fun _ => [w_Xx G A K s0, w_Ld G (A 2) s1, w_Fk G (A 4) s2]) (st := []) (st' := [.int q4]) [2, 1] rfl rfl (fun _ => Nat.le_of_ble_eq_true rfl) (fun _ => rfl) rfl rfl nm_X1_allMiles zw_4_170 zw_4_28 zw_4_29 zw_1_8 zw_4_30 rfl rfl rfl (Nat.le_of_ble_eq_true rfl) ⟨Nat.le_of_ble_eq_true rfl, Nat.le_of_ble_eq_true rfl⟩ (by decide +kernel) (fun _ => ?_)
          obtain ⟨q5, e5, hf⟩ := zbi_of hf
          refine zr_run [(.aload_n 0, 0, 0, 0, .null), (.getfield 29, 0, 0, 3, .null), (.iload_n 1, 0, 0, 0, .null), (.iconst 5, 0, 0, 0, .int (5 : Int32))] [] (WW' := [w_Xx G A K s0, w_Ld G (A 2) s1, w_Fk G (A 4) s2]) (lv' := [some (.ref (A 0 0)), some (.int x1), some (.int q3), none, none, none]) (pc' := 62) (st' := [.int (5 : Int32), .int x1, .ref ((A 4) 0), .int q4]) (by decide +kernel) rfl rfl ⟨trivial, ⟨rfl, rfl, zw_2_152⟩, trivial, trivial, trivial⟩ ?_
          refine zr_callV (c_X1_of l G (A 4) s2 x1 (5 : Int32) q5 e5) (WW' := fun _ => [w_Xx G A K s0, w_Ld G (A 2) s1, w_Fk G (A 4) s2]) (st := [.int q4]) (st' := [.int q5, .int q4]) [2] rfl rfl (fun _ => Nat.le_of_ble_eq_true rfl) (fun _ => rfl) rfl rfl nm_X1_of zw_4_168 zw_3_142 zw_3_143 zw_1_8 zw_3_142n rfl rfl rfl (Nat.le_of_ble_eq_true rfl) ⟨Nat.le_of_ble_eq_true rfl, Nat.le_of_ble_eq_true rfl⟩ (by decide +kernel) (fun _ => ?_)
          obtain ⟨h6, hf⟩ := zck_of hf
          obtain ⟨q7, e7, hf⟩ := zbi_of hf
          refine zr_run [(.isub, 0, 0, 0, .null), (.istore_n 3, 0, 0, 0, .null), (.iload_n 3, 0, 0, 0, .null), (.iload_n 2, 0, 0, 0, .null), (.iadd, 0, 0, 0, .null), (.iconst 1, 0, 0, 0, .int (1 : Int32)), (.isub, 0, 0, 0, .null), (.iload_n 2, 0, 0, 0, .null), (.idiv, 0, 0, 0, .null), (.istore 4, 0, 0, 0, .null), (.aload_n 0, 0, 0, 0, .null), (.getfield 29, 0, 0, 3, .null)] [] (WW' := [w_Xx G A K s0, w_Ld G (A 2) s1, w_Fk G (A 4) s2]) (lv' := [some (.ref (A 0 0)), some (.int x1), some (.int q3), some (.int (q4 - q5)), some (.int ((((q4 - q5) + q3) - (1 : Int32)) / q3)), none]) (pc' := 80) (st' := [.ref ((A 4) 0)]) (by decide +kernel) rfl rfl ⟨trivial, trivial, trivial, trivial, trivial, trivial, trivial, trivial, h6, trivial, trivial, ⟨rfl, rfl, zw_2_152⟩, trivial⟩ ?_
          refine zr_callV (c_X1_today l G (A 4) s2 q7 e7) (WW' := fun _ => [w_Xx G A K s0, w_Ld G (A 2) s1, w_Fk G (A 4) s2]) (st := []) (st' := [.int q7]) [2] rfl rfl (fun _ => Nat.le_of_ble_eq_true rfl) (fun _ => rfl) rfl rfl nm_X1_today zw_3_156 zw_3_157 zw_3_158 zw_1_8 zw_3_159 rfl rfl rfl (Nat.le_of_ble_eq_true rfl) ⟨Nat.le_of_ble_eq_true rfl, Nat.le_of_ble_eq_true rfl⟩ (by decide +kernel) (fun _ => ?_)
          obtain ⟨q8, e8, hf⟩ := zbi_of hf
          refine zr_run [(.iload 4, 0, 0, 0, .null), (.iadd, 0, 0, 0, .null), (.iconst 1, 0, 0, 0, .int (1 : Int32)), (.isub, 0, 0, 0, .null), (.istore 5, 0, 0, 0, .null), (.iload 4, 0, 0, 0, .null), (.aload_n 0, 0, 0, 0, .null), (.getfield 29, 0, 0, 3, .null), (.iload_n 1, 0, 0, 0, .null)] [] (WW' := [w_Xx G A K s0, w_Ld G (A 2) s1, w_Fk G (A 4) s2]) (lv' := [some (.ref (A 0 0)), some (.int x1), some (.int q3), some (.int (q4 - q5)), some (.int ((((q4 - q5) + q3) - (1 : Int32)) / q3)), some (.int ((q7 + ((((q4 - q5) + q3) - (1 : Int32)) / q3)) - (1 : Int32)))]) (pc' := 97) (st' := [.int x1, .ref ((A 4) 0), .int ((((q4 - q5) + q3) - (1 : Int32)) / q3)]) (by decide +kernel) rfl rfl ⟨trivial, trivial, trivial, trivial, trivial, trivial, trivial, ⟨rfl, rfl, zw_2_152⟩, trivial, trivial⟩ ?_
          refine zr_callV (c_X1_daysYet l G (A 4) s2 x1 q8 e8) (WW' := fun _ => [w_Xx G A K s0, w_Ld G (A 2) s1, w_Fk G (A 4) s2]) (st := [.int ((((q4 - q5) + q3) - (1 : Int32)) / q3)]) (st' := [.int q8, .int ((((q4 - q5) + q3) - (1 : Int32)) / q3)]) [2] rfl rfl (fun _ => Nat.le_of_ble_eq_true rfl) (fun _ => rfl) rfl rfl nm_X1_daysYet zw_4_209 zw_4_210 zw_4_211 zw_1_8 zw_4_212 rfl rfl rfl (Nat.le_of_ble_eq_true rfl) ⟨Nat.le_of_ble_eq_true rfl, Nat.le_of_ble_eq_true rfl⟩ (by decide +kernel) (fun _ => ?_)
          refine zr_icmp_gt (off := 11) (tgt := 111) (by decide +kernel) (by decide) (fun hc => ?_) (fun hc => ?_)
          · have hf := zift hf hc
            refine zr_run [] [0, 1, 2, 3, 4, 5] (WW' := [w_Xx G A K s0, w_Ld G (A 2) s1, w_Fk G (A 4) s2]) (lv' := [none, none, none, none, none, none]) (pc' := 111) (st' := []) (by decide +kernel) rfl rfl trivial ?_
            exact t_X11_there_b111 l G A K W0 r s0 s1 s2 hf
          · have hf := ziff hf hc
            refine zr_run [(.iload 5, 0, 0, 0, .null), (.sipush 400, 0, 0, 0, .int (400 : Int32))] [] (WW' := [w_Xx G A K s0, w_Ld G (A 2) s1, w_Fk G (A 4) s2]) (lv' := [some (.ref (A 0 0)), some (.int x1), some (.int q3), some (.int (q4 - q5)), some (.int ((((q4 - q5) + q3) - (1 : Int32)) / q3)), some (.int ((q7 + ((((q4 - q5) + q3) - (1 : Int32)) / q3)) - (1 : Int32)))]) (pc' := 108) (st' := [.int (400 : Int32), .int ((q7 + ((((q4 - q5) + q3) - (1 : Int32)) / q3)) - (1 : Int32))]) (by decide +kernel) rfl rfl ⟨trivial, trivial, trivial⟩ ?_
            refine zr_icmp_lt (off := 7) (tgt := 115) (by decide +kernel) (by decide) (fun hc => ?_) (fun hc => ?_)
            · have hf := zift hf hc
              refine zr_run [(.iload 5, 0, 0, 0, .null)] [] (WW' := [w_Xx G A K s0, w_Ld G (A 2) s1, w_Fk G (A 4) s2]) (lv' := [some (.ref (A 0 0)), some (.int x1), some (.int q3), some (.int (q4 - q5)), some (.int ((((q4 - q5) + q3) - (1 : Int32)) / q3)), some (.int ((q7 + ((((q4 - q5) + q3) - (1 : Int32)) / q3)) - (1 : Int32)))]) (pc' := 117) (st' := [.int ((q7 + ((((q4 - q5) + q3) - (1 : Int32)) / q3)) - (1 : Int32))]) (by decide +kernel) rfl rfl ⟨trivial, trivial⟩ ?_
              obtain rfl := Option.some.inj hf
              exact zr_iret (b0 := fun _ => 0) (by decide +kernel) rfl rfl rfl rfl rfl
            · have hf := ziff hf hc
              refine zr_run [] [0, 1, 2, 3, 4, 5] (WW' := [w_Xx G A K s0, w_Ld G (A 2) s1, w_Fk G (A 4) s2]) (lv' := [none, none, none, none, none, none]) (pc' := 111) (st' := []) (by decide +kernel) rfl rfl trivial ?_
              exact t_X11_there_b111 l G A K W0 r s0 s1 s2 hf
      · have hf := ziff hf hc
        refine zr_run [(.iconst (-1), 0, 0, 0, .int (-1 : Int32))] [] (WW' := [w_Xx G A K s0, w_Ld G (A 2) s1, w_Fk G (A 4) s2]) (lv' := [some (.ref (A 0 0)), some (.int x1), none, none, none, none]) (pc' := 25) (st' := [.int (-1 : Int32)]) (by decide +kernel) rfl rfl ⟨trivial, trivial⟩ ?_
        obtain rfl := Option.some.inj hf
        exact zr_iret (b0 := fun _ => 0) (by decide +kernel) rfl rfl rfl rfl rfl
  exact zj_entry [some (.ref (A 0 0)), some (.int x1), none, none, none, none] (by decide +kernel) rfl (by decide) (Nat.le_of_ble_eq_true rfl) rfl rfl (key _)
def M_X11_oath : zj_M := (RX11, cX11_oath, 2, (some .int), { frames := 6, cells := 0, slots := 0, locals := 186 }, false)
theorem nm_X11_oath : zj_nm yX11_oath 1 := ⟨by decide +kernel, by decide +kernel, by decide +kernel⟩
def f_X11_oath  (s0 : XxT) (s1 : LdT) (s2 : ScT) (s3 : FkT) (x1 : Int32) : Option (Int32 × ScT) := ((f_X3_hasMan s1 x1).bind fun q1 => (if q1 = 0 then some ((-1 : Int32), s2) else ((f_X8_write s2 s1 s3 x1).bind fun q2 => some (q2.1, q2.2))))
set_option maxRecDepth 100000 in
set_option maxHeartbeats 4000000 in
theorem c_X11_oath (l : Launch) (G : zj_G) (A : Nat → Nat → Nat) (K : Nat → Nat → Option Nat) (s0 : XxT) (s1 : LdT) (s2 : ScT) (s3 : FkT) (x1 : Int32) (r : Int32 × ScT) (hf : f_X11_oath s0 s1 s2 s3 x1 = some r) : zj_C l G M_X11_oath yX11_oath [w_Xx G A K s0, w_Ld G (A 2) s1, w_Sc G (A 21) s2, w_Fk G (A 4) s3] [.ref (A 0 0), .int x1] (some (.int r.1)) (fun _ => [w_Xx G A K s0, w_Ld G (A 2) s1, w_Sc G (A 21) r.2, w_Fk G (A 4) s3]) := by
  have key : ∀ W0 : List va_W, zj_J l G M_X11_oath W0 (zj_ret G M_X11_oath W0 (some (.int r.1)) (fun _ => [w_Xx G A K s0, w_Ld G (A 2) s1, w_Sc G (A 21) r.2, w_Fk G (A 4) s3])) 0 0 [w_Xx G A K s0, w_Ld G (A 2) s1, w_Sc G (A 21) s2, w_Fk G (A 4) s3] [some (.ref (A 0 0)), some (.int x1)] 0 [] := by
    intro W0
    unfold f_X11_oath at hf
    obtain ⟨q1, e1, hf⟩ := zbi_of hf
    refine zr_run [(.aload_n 0, 0, 0, 0, .null), (.getfield 19, 0, 0, 1, .null), (.iload_n 1, 0, 0, 0, .null)] [] (WW' := [w_Xx G A K s0, w_Ld G (A 2) s1, w_Sc G (A 21) s2, w_Fk G (A 4) s3]) (lv' := [some (.ref (A 0 0)), some (.int x1)]) (pc' := 5) (st' := [.int x1, .ref ((A 2) 0)]) (by decide +kernel) rfl rfl ⟨trivial, ⟨rfl, rfl, zw_2_150⟩, trivial, trivial⟩ ?_
    refine zr_callV (c_X3_hasMan l G (A 2) s1 x1 q1 e1) (WW' := fun _ => [w_Xx G A K s0, w_Ld G (A 2) s1, w_Sc G (A 21) s2, w_Fk G (A 4) s3]) (st := []) (st' := [.int q1]) [1] rfl rfl (fun _ => Nat.le_of_ble_eq_true rfl) (fun _ => rfl) rfl rfl nm_X3_hasMan zw_3_168 zw_3_169 zw_3_170 zw_1_7 zw_3_171 rfl rfl rfl (Nat.le_of_ble_eq_true rfl) ⟨Nat.le_of_ble_eq_true rfl, Nat.le_of_ble_eq_true rfl⟩ (by decide +kernel) (fun _ => ?_)
    refine zr_if_eq (off := 22) (tgt := 30) (by decide +kernel) (by decide) (fun hc => ?_) (fun hc => ?_)
    · have hf := zift hf hc
      refine zr_run [(.iconst (-1), 0, 0, 0, .int (-1 : Int32))] [] (WW' := [w_Xx G A K s0, w_Ld G (A 2) s1, w_Sc G (A 21) s2, w_Fk G (A 4) s3]) (lv' := [some (.ref (A 0 0)), some (.int x1)]) (pc' := 31) (st' := [.int (-1 : Int32)]) (by decide +kernel) rfl rfl ⟨trivial, trivial⟩ ?_
      obtain rfl := Option.some.inj hf
      exact zr_iret (b0 := fun _ => 0) (by decide +kernel) rfl rfl rfl rfl rfl
    · have hf := ziff hf hc
      obtain ⟨q2, e2, hf⟩ := zbi_of hf
      refine zr_run [(.aload_n 0, 0, 0, 0, .null), (.getfield 96, 0, 0, 15, .null), (.aload_n 0, 0, 0, 0, .null), (.getfield 19, 0, 0, 1, .null), (.aload_n 0, 0, 0, 0, .null), (.getfield 29, 0, 0, 3, .null), (.iload_n 1, 0, 0, 0, .null)] [] (WW' := [w_Xx G A K s0, w_Ld G (A 2) s1, w_Sc G (A 21) s2, w_Fk G (A 4) s3]) (lv' := [some (.ref (A 0 0)), some (.int x1)]) (pc' := 24) (st' := [.int x1, .ref ((A 4) 0), .ref ((A 2) 0), .ref ((A 21) 0)]) (by decide +kernel) rfl rfl ⟨trivial, ⟨rfl, rfl, zw_2_164⟩, trivial, ⟨rfl, rfl, zw_2_150⟩, trivial, ⟨rfl, rfl, zw_2_152⟩, trivial, trivial⟩ ?_
      refine zr_callV (c_X8_write l G (A 21) (A 2) (A 4) s2 s1 s3 x1 q2 e2) (WW' := fun _ => [w_Xx G A K s0, w_Ld G (A 2) s1, w_Sc G (A 21) q2.2, w_Fk G (A 4) s3]) (st := []) (st' := [.int q2.1]) [2, 1, 3] rfl rfl (fun _ => Nat.le_of_ble_eq_true rfl) (fun _ => rfl) rfl rfl nm_X8_write zw_4_217 zw_4_218 zw_4_219 zw_1_16 zw_4_220 rfl rfl rfl (Nat.le_of_ble_eq_true rfl) ⟨Nat.le_of_ble_eq_true rfl, Nat.le_of_ble_eq_true rfl⟩ (by decide +kernel) (fun _ => ?_)
      refine zr_goto (off := 4) (tgt := 31) (by decide +kernel) (by decide) ?_
      obtain rfl := Option.some.inj hf
      exact zr_iret (b0 := fun _ => 0) (by decide +kernel) rfl rfl rfl rfl rfl
  exact zj_entry [some (.ref (A 0 0)), some (.int x1)] (by decide +kernel) rfl (by decide) (Nat.le_of_ble_eq_true rfl) rfl rfl (key _)
def M_X11_byteAt : zj_M := (RX11, cX11_byteAt, 2, (some .int), { frames := 0, cells := 0, slots := 0, locals := 0 }, false)
theorem nm_X11_byteAt : zj_nm yX11_byteAt 1 := ⟨by decide +kernel, by decide +kernel, by decide +kernel⟩
def f_X11_byteAt_b15  (s0 : XxT) (s1 : ScT)   : Option (Int32) := some (-1 : Int32)
def f_X11_byteAt  (s0 : XxT) (s1 : ScT) (x1 : Int32) : Option (Int32) := (if x1 < 0 then f_X11_byteAt_b15 s0 s1 else (if x1 < (Sc_length s1) then (if zb_in x1 32 = true then some ((Sc_text s1) x1.toNatClampNeg) else none) else f_X11_byteAt_b15 s0 s1))
set_option maxRecDepth 100000 in
set_option maxHeartbeats 4000000 in
theorem t_X11_byteAt_b15 (l : Launch) (G : zj_G) (A : Nat → Nat → Nat) (K : Nat → Nat → Option Nat) (W0 : List va_W) (r : Int32) (s0 : XxT) (s1 : ScT)    (hf : f_X11_byteAt_b15 s0 s1 = some r) : zj_J l G M_X11_byteAt W0 (zj_ret G M_X11_byteAt W0 (some (.int r)) (fun _ => [w_Xx G A K s0, w_Sc G (A 21) s1])) 0 0 [w_Xx G A K s0, w_Sc G (A 21) s1] [none, none] 15 [] := by
  unfold f_X11_byteAt_b15 at hf
  refine zr_run [(.iconst (-1), 0, 0, 0, .int (-1 : Int32))] [] (WW' := [w_Xx G A K s0, w_Sc G (A 21) s1]) (lv' := [none, none]) (pc' := 16) (st' := [.int (-1 : Int32)]) (by decide +kernel) rfl rfl ⟨trivial, trivial⟩ ?_
  refine zr_goto (off := 12) (tgt := 28) (by decide +kernel) (by decide) ?_
  obtain rfl := Option.some.inj hf
  exact zr_iret (b0 := fun _ => 0) (by decide +kernel) rfl rfl rfl rfl rfl
set_option maxRecDepth 100000 in
set_option maxHeartbeats 4000000 in
theorem c_X11_byteAt (l : Launch) (G : zj_G) (A : Nat → Nat → Nat) (K : Nat → Nat → Option Nat) (s0 : XxT) (s1 : ScT) (x1 : Int32) (r : Int32) (hf : f_X11_byteAt s0 s1 x1 = some r) : zj_C l G M_X11_byteAt yX11_byteAt [w_Xx G A K s0, w_Sc G (A 21) s1] [.ref (A 0 0), .int x1] (some (.int r)) (fun _ => [w_Xx G A K s0, w_Sc G (A 21) s1]) := by
  have key : ∀ W0 : List va_W, zj_J l G M_X11_byteAt W0 (zj_ret G M_X11_byteAt W0 (some (.int r)) (fun _ => [w_Xx G A K s0, w_Sc G (A 21) s1])) 0 0 [w_Xx G A K s0, w_Sc G (A 21) s1] [some (.ref (A 0 0)), some (.int x1)] 0 [] := by
    intro W0
    unfold f_X11_byteAt at hf
    refine zr_run [(.iload_n 1, 0, 0, 0, .null)] [] (WW' := [w_Xx G A K s0, w_Sc G (A 21) s1]) (lv' := [some (.ref (A 0 0)), some (.int x1)]) (pc' := 1) (st' := [.int x1]) (by decide +kernel) rfl rfl ⟨trivial, trivial⟩ ?_
    refine zr_if_lt (off := 14) (tgt := 15) (by decide +kernel) (by decide) (fun hc => ?_) (fun hc => ?_)
    · have hf := zift hf hc
      refine zr_run [] [0, 1] (WW' := [w_Xx G A K s0, w_Sc G (A 21) s1]) (lv' := [none, none]) (pc' := 15) (st' := []) (by decide +kernel) rfl rfl trivial ?_
      exact t_X11_byteAt_b15 l G A K W0 r s0 s1 hf
    · have hf := ziff hf hc
      refine zr_run [(.iload_n 1, 0, 0, 0, .null), (.aload_n 0, 0, 0, 0, .null), (.getfield 96, 0, 0, 15, .null), (.getfield 299, 1, 0, 1, .null)] [] (WW' := [w_Xx G A K s0, w_Sc G (A 21) s1]) (lv' := [some (.ref (A 0 0)), some (.int x1)]) (pc' := 12) (st' := [.int (Sc_length s1), .int x1]) (by decide +kernel) rfl rfl ⟨trivial, trivial, ⟨rfl, rfl, zw_2_164⟩, ⟨rfl, rfl, zw_2_122⟩, trivial⟩ ?_
      refine zr_icmp_lt (off := 7) (tgt := 19) (by decide +kernel) (by decide) (fun hc => ?_) (fun hc => ?_)
      · have hf := zift hf hc
        obtain ⟨h1, hf⟩ := zck_of hf
        refine zr_run [(.aload_n 0, 0, 0, 0, .null), (.getfield 96, 0, 0, 15, .null), (.getfield 300, 1, 0, 0, .null), (.iload_n 1, 0, 0, 0, .null), (.baload, 1, 1, 0, .null)] [] (WW' := [w_Xx G A K s0, w_Sc G (A 21) s1]) (lv' := [some (.ref (A 0 0)), some (.int x1)]) (pc' := 28) (st' := [.int ((Sc_text s1) x1.toNatClampNeg)]) (by decide +kernel) rfl rfl ⟨trivial, ⟨rfl, rfl, zw_2_164⟩, ⟨rfl, rfl, zw_2_120⟩, trivial, ⟨rfl, rfl, h1⟩, trivial⟩ ?_
        obtain rfl := Option.some.inj hf
        exact zr_iret (b0 := fun _ => 0) (by decide +kernel) rfl rfl rfl rfl rfl
      · have hf := ziff hf hc
        refine zr_run [] [0, 1] (WW' := [w_Xx G A K s0, w_Sc G (A 21) s1]) (lv' := [none, none]) (pc' := 15) (st' := []) (by decide +kernel) rfl rfl trivial ?_
        exact t_X11_byteAt_b15 l G A K W0 r s0 s1 hf
  exact zj_entry [some (.ref (A 0 0)), some (.int x1)] (by decide +kernel) rfl (by decide) (Nat.le_of_ble_eq_true rfl) rfl rfl (key _)
def M_X11_odds : zj_M := (RX11, cX11_odds, 6, (some .int), { frames := 5, cells := 0, slots := 0, locals := 124 }, false)
theorem nm_X11_odds : zj_nm yX11_odds 3 := ⟨by decide +kernel, by decide +kernel, by decide +kernel⟩
def f_X11_odds_b71  (s0 : XxT) (s1 : LdT) (s2 : FkT) (s3 : FkT) (k30 : FkT → Int32 → Int32 → Int32 → Int32 → Int32 → Option (Int32 × FkT)) (x1 : Int32) (x2 : Int32) (x3 : Int32) (x4 : Int32) (x5 : Int32) : Option (Int32 × FkT) := k30 s2 x1 x2 x3 x4 (x5 + (1 : Int32))
def f_X11_odds_H30  (s0 : XxT) (s1 : LdT) (s2 : FkT) (s3 : FkT) (k30 : FkT → Int32 → Int32 → Int32 → Int32 → Int32 → Option (Int32 × FkT)) (x1 : Int32) (x2 : Int32) (x3 : Int32) (x4 : Int32) (x5 : Int32) : Option (Int32 × FkT) := (if x5 < x2 then ((f_X1_copy s2 s3).bind fun q2 => ((f_X1_sailsIn q2 s1 x1 (30 : Int32) (x3 + x5)).bind fun q3 => (if q3.1 = 0 then f_X11_odds_b71 s0 s1 q3.2 s3 k30 x1 x2 x3 x4 x5 else f_X11_odds_b71 s0 s1 q3.2 s3 k30 x1 x2 x3 (x4 + (1 : Int32)) x5))) else some (x4, s2))
def f_X11_odds_L30  (s0 : XxT) (s1 : LdT) (s3 : FkT)  : Nat → FkT → Int32 → Int32 → Int32 → Int32 → Int32 → Option (Int32 × FkT)
  | 0 => fun _ _ _ _ _ _ => none
  | n + 1 => fun s2 x1 x2 x3 x4 x5 => f_X11_odds_H30 s0 s1 s2 s3 (f_X11_odds_L30 s0 s1 s3 n) x1 x2 x3 x4 x5
def f_X11_odds  (s0 : XxT) (s1 : LdT) (s2 : FkT) (s3 : FkT) (x1 : Int32) (x2 : Int32) (x3 : Int32) : Option (Int32 × FkT) := ((f_X3_hasMan s1 x1).bind fun q1 => (if q1 = 0 then some ((-1 : Int32), s2) else (if x2 < (1 : Int32) then some ((-1 : Int32), s2) else (if (30 : Int32) < x2 then some ((-1 : Int32), s2) else f_X11_odds_L30 s0 s1 s3 zFU s2 x1 x2 x3 (0 : Int32) (0 : Int32)))))
set_option maxRecDepth 100000 in
set_option maxHeartbeats 4000000 in
theorem t_X11_odds_b71 (l : Launch) (G : zj_G) (A : Nat → Nat → Nat) (K : Nat → Nat → Option Nat) (W0 : List va_W) (r : Int32 × FkT) (s0 : XxT) (s1 : LdT) (s2 : FkT) (s3 : FkT) (k30 : FkT → Int32 → Int32 → Int32 → Int32 → Int32 → Option (Int32 × FkT)) (hk30 : ∀ (s2 : FkT) (x1 : Int32) (x2 : Int32) (x3 : Int32) (x4 : Int32) (x5 : Int32), k30 s2 x1 x2 x3 x4 x5 = some r → zj_J l G M_X11_odds W0 (zj_ret G M_X11_odds W0 (some (.int r.1)) (fun _ => [w_Xx G A K s0, w_Ld G (A 2) s1, w_Fk G (A 5) r.2, w_Fk G (A 4) s3])) 0 0 [w_Xx G A K s0, w_Ld G (A 2) s1, w_Fk G (A 5) s2, w_Fk G (A 4) s3] [some (.ref (A 0 0)), some (.int x1), some (.int x2), some (.int x3), some (.int x4), some (.int x5)] 30 []) (x1 : Int32) (x2 : Int32) (x3 : Int32) (x4 : Int32) (x5 : Int32) (hf : f_X11_odds_b71 s0 s1 s2 s3 k30 x1 x2 x3 x4 x5 = some r) : zj_J l G M_X11_odds W0 (zj_ret G M_X11_odds W0 (some (.int r.1)) (fun _ => [w_Xx G A K s0, w_Ld G (A 2) s1, w_Fk G (A 5) r.2, w_Fk G (A 4) s3])) 0 0 [w_Xx G A K s0, w_Ld G (A 2) s1, w_Fk G (A 5) s2, w_Fk G (A 4) s3] [some (.ref (A 0 0)), some (.int x1), some (.int x2), some (.int x3), some (.int x4), some (.int x5)] 71 [] := by
  unfold f_X11_odds_b71 at hf
  refine zr_run [(.iinc 5 1, 0, 0, 0, .int (1 : Int32))] [] (WW' := [w_Xx G A K s0, w_Ld G (A 2) s1, w_Fk G (A 5) s2, w_Fk G (A 4) s3]) (lv' := [some (.ref (A 0 0)), some (.int x1), some (.int x2), some (.int x3), some (.int x4), some (.int (x5 + (1 : Int32)))]) (pc' := 74) (st' := []) (by decide +kernel) rfl rfl ⟨trivial, trivial⟩ ?_
  refine zr_goto (off := -44) (tgt := 30) (by decide +kernel) (by decide) ?_
  exact hk30 s2 x1 x2 x3 x4 (x5 + (1 : Int32)) hf
set_option maxRecDepth 100000 in
set_option maxHeartbeats 4000000 in
theorem t_X11_odds_H30 (l : Launch) (G : zj_G) (A : Nat → Nat → Nat) (K : Nat → Nat → Option Nat) (W0 : List va_W) (r : Int32 × FkT) (s0 : XxT) (s1 : LdT) (s2 : FkT) (s3 : FkT) (k30 : FkT → Int32 → Int32 → Int32 → Int32 → Int32 → Option (Int32 × FkT)) (hk30 : ∀ (s2 : FkT) (x1 : Int32) (x2 : Int32) (x3 : Int32) (x4 : Int32) (x5 : Int32), k30 s2 x1 x2 x3 x4 x5 = some r → zj_J l G M_X11_odds W0 (zj_ret G M_X11_odds W0 (some (.int r.1)) (fun _ => [w_Xx G A K s0, w_Ld G (A 2) s1, w_Fk G (A 5) r.2, w_Fk G (A 4) s3])) 0 0 [w_Xx G A K s0, w_Ld G (A 2) s1, w_Fk G (A 5) s2, w_Fk G (A 4) s3] [some (.ref (A 0 0)), some (.int x1), some (.int x2), some (.int x3), some (.int x4), some (.int x5)] 30 []) (x1 : Int32) (x2 : Int32) (x3 : Int32) (x4 : Int32) (x5 : Int32) (hf : f_X11_odds_H30 s0 s1 s2 s3 k30 x1 x2 x3 x4 x5 = some r) : zj_J l G M_X11_odds W0 (zj_ret G M_X11_odds W0 (some (.int r.1)) (fun _ => [w_Xx G A K s0, w_Ld G (A 2) s1, w_Fk G (A 5) r.2, w_Fk G (A 4) s3])) 0 0 [w_Xx G A K s0, w_Ld G (A 2) s1, w_Fk G (A 5) s2, w_Fk G (A 4) s3] [some (.ref (A 0 0)), some (.int x1), some (.int x2), some (.int x3), some (.int x4), some (.int x5)] 30 [] := by
  unfold f_X11_odds_H30 at hf
  refine zr_run [(.iload 5, 0, 0, 0, .null), (.iload_n 2, 0, 0, 0, .null)] [] (WW' := [w_Xx G A K s0, w_Ld G (A 2) s1, w_Fk G (A 5) s2, w_Fk G (A 4) s3]) (lv' := [some (.ref (A 0 0)), some (.int x1), some (.int x2), some (.int x3), some (.int x4), some (.int x5)]) (pc' := 33) (st' := [.int x2, .int x5]) (by decide +kernel) rfl rfl ⟨trivial, trivial, trivial⟩ ?_
  refine zr_icmp_ge (off := 44) (tgt := 77) (by decide +kernel) (by decide) (fun hc => ?_) (fun hc => ?_)
  · have hf := zift hf hc
    obtain ⟨q2, e2, hf⟩ := zbi_of hf
    refine zr_run [(.aload_n 0, 0, 0, 0, .null), (.getfield 33, 0, 0, 4, .null), (.aload_n 0, 0, 0, 0, .null), (.getfield 29, 0, 0, 3, .null)] [] (WW' := [w_Xx G A K s0, w_Ld G (A 2) s1, w_Fk G (A 5) s2, w_Fk G (A 4) s3]) (lv' := [some (.ref (A 0 0)), some (.int x1), some (.int x2), some (.int x3), some (.int x4), some (.int x5)]) (pc' := 44) (st' := [.ref ((A 4) 0), .ref ((A 5) 0)]) (by decide +kernel) rfl rfl ⟨trivial, ⟨rfl, rfl, zw_2_153⟩, trivial, ⟨rfl, rfl, zw_2_152⟩, trivial⟩ ?_
    refine zr_callV (c_X1_copy l G (A 5) (A 4) s2 s3 q2 e2) (WW' := fun _ => [w_Xx G A K s0, w_Ld G (A 2) s1, w_Fk G (A 5) q2, w_Fk G (A 4) s3]) (st := []) (st' := []) [2, 3] rfl rfl (fun _ => Nat.le_of_ble_eq_true rfl) (fun _ => rfl) rfl rfl nm_X1_copy zw_3_177 zw_3_178 zw_3_179 zw_1_8 zw_3_180 rfl rfl rfl (Nat.le_of_ble_eq_true rfl) ⟨Nat.le_of_ble_eq_true rfl, Nat.le_of_ble_eq_true rfl⟩ (by decide +kernel) (fun _ => ?_)
    obtain ⟨q3, e3, hf⟩ := zbi_of hf
    refine zr_run [(.aload_n 0, 0, 0, 0, .null), (.getfield 33, 0, 0, 4, .null), (.aload_n 0, 0, 0, 0, .null), (.getfield 19, 0, 0, 1, .null), (.iload_n 1, 0, 0, 0, .null), (.bipush 30, 0, 0, 0, .int (30 : Int32)), (.iload_n 3, 0, 0, 0, .null), (.iload 5, 0, 0, 0, .null), (.iadd, 0, 0, 0, .null)] [] (WW' := [w_Xx G A K s0, w_Ld G (A 2) s1, w_Fk G (A 5) q2, w_Fk G (A 4) s3]) (lv' := [some (.ref (A 0 0)), some (.int x1), some (.int x2), some (.int x3), some (.int x4), some (.int x5)]) (pc' := 62) (st' := [.int (x3 + x5), .int (30 : Int32), .int x1, .ref ((A 2) 0), .ref ((A 5) 0)]) (by decide +kernel) rfl rfl ⟨trivial, ⟨rfl, rfl, zw_2_153⟩, trivial, ⟨rfl, rfl, zw_2_150⟩, trivial, trivial, trivial, trivial, trivial, trivial⟩ ?_
    refine zr_callV (c_X1_sailsIn l G (A 5) (A 2) q2 s1 x1 (30 : Int32) (x3 + x5) q3 e3) (WW' := fun _ => [w_Xx G A K s0, w_Ld G (A 2) s1, w_Fk G (A 5) q3.2, w_Fk G (A 4) s3]) (st := []) (st' := [.int q3.1]) [2, 1] rfl rfl (fun _ => Nat.le_of_ble_eq_true rfl) (fun _ => rfl) rfl rfl nm_X1_sailsIn zw_5_16 zw_5_17 zw_5_18 zw_1_8 zw_5_19 rfl rfl rfl (Nat.le_of_ble_eq_true rfl) ⟨Nat.le_of_ble_eq_true rfl, Nat.le_of_ble_eq_true rfl⟩ (by decide +kernel) (fun _ => ?_)
    refine zr_if_eq (off := 6) (tgt := 71) (by decide +kernel) (by decide) (fun hc => ?_) (fun hc => ?_)
    · have hf := zift hf hc
      exact t_X11_odds_b71 l G A K W0 r s0 s1 q3.2 s3 k30 hk30 x1 x2 x3 x4 x5 hf
    · have hf := ziff hf hc
      refine zr_run [(.iinc 4 1, 0, 0, 0, .int (1 : Int32))] [] (WW' := [w_Xx G A K s0, w_Ld G (A 2) s1, w_Fk G (A 5) q3.2, w_Fk G (A 4) s3]) (lv' := [some (.ref (A 0 0)), some (.int x1), some (.int x2), some (.int x3), some (.int (x4 + (1 : Int32))), some (.int x5)]) (pc' := 71) (st' := []) (by decide +kernel) rfl rfl ⟨trivial, trivial⟩ ?_
      exact t_X11_odds_b71 l G A K W0 r s0 s1 q3.2 s3 k30 hk30 x1 x2 x3 (x4 + (1 : Int32)) x5 hf
  · have hf := ziff hf hc
    refine zr_run [(.iload 4, 0, 0, 0, .null)] [] (WW' := [w_Xx G A K s0, w_Ld G (A 2) s1, w_Fk G (A 5) s2, w_Fk G (A 4) s3]) (lv' := [some (.ref (A 0 0)), some (.int x1), some (.int x2), some (.int x3), some (.int x4), some (.int x5)]) (pc' := 79) (st' := [.int x4]) (by decide +kernel) rfl rfl ⟨trivial, trivial⟩ ?_
    obtain rfl := Option.some.inj hf
    exact zr_iret (b0 := fun _ => 0) (by decide +kernel) rfl rfl rfl rfl rfl
theorem t_X11_odds_L30 (l : Launch) (G : zj_G) (A : Nat → Nat → Nat) (K : Nat → Nat → Option Nat) (W0 : List va_W) (r : Int32 × FkT) (s0 : XxT) (s1 : LdT) (s3 : FkT)   : ∀ (n : Nat) (s2 : FkT) (x1 : Int32) (x2 : Int32) (x3 : Int32) (x4 : Int32) (x5 : Int32), f_X11_odds_L30 s0 s1 s3 n s2 x1 x2 x3 x4 x5 = some r → zj_J l G M_X11_odds W0 (zj_ret G M_X11_odds W0 (some (.int r.1)) (fun _ => [w_Xx G A K s0, w_Ld G (A 2) s1, w_Fk G (A 5) r.2, w_Fk G (A 4) s3])) 0 0 [w_Xx G A K s0, w_Ld G (A 2) s1, w_Fk G (A 5) s2, w_Fk G (A 4) s3] [some (.ref (A 0 0)), some (.int x1), some (.int x2), some (.int x3), some (.int x4), some (.int x5)] 30 [] := by
  intro n
  induction n with
  | zero => intro s2 x1 x2 x3 x4 x5 hf; exact nomatch (show none = some r from hf)
  | succ n ih => intro s2 x1 x2 x3 x4 x5 hf; exact t_X11_odds_H30 l G A K W0 r s0 s1 s2 s3  (f_X11_odds_L30 s0 s1 s3 n)  ih x1 x2 x3 x4 x5  hf
set_option maxRecDepth 100000 in
set_option maxHeartbeats 4000000 in
theorem c_X11_odds (l : Launch) (G : zj_G) (A : Nat → Nat → Nat) (K : Nat → Nat → Option Nat) (s0 : XxT) (s1 : LdT) (s2 : FkT) (s3 : FkT) (x1 : Int32) (x2 : Int32) (x3 : Int32) (r : Int32 × FkT) (hf : f_X11_odds s0 s1 s2 s3 x1 x2 x3 = some r) : zj_C l G M_X11_odds yX11_odds [w_Xx G A K s0, w_Ld G (A 2) s1, w_Fk G (A 5) s2, w_Fk G (A 4) s3] [.ref (A 0 0), .int x1, .int x2, .int x3] (some (.int r.1)) (fun _ => [w_Xx G A K s0, w_Ld G (A 2) s1, w_Fk G (A 5) r.2, w_Fk G (A 4) s3]) := by
  have key : ∀ W0 : List va_W, zj_J l G M_X11_odds W0 (zj_ret G M_X11_odds W0 (some (.int r.1)) (fun _ => [w_Xx G A K s0, w_Ld G (A 2) s1, w_Fk G (A 5) r.2, w_Fk G (A 4) s3])) 0 0 [w_Xx G A K s0, w_Ld G (A 2) s1, w_Fk G (A 5) s2, w_Fk G (A 4) s3] [some (.ref (A 0 0)), some (.int x1), some (.int x2), some (.int x3), none, none] 0 [] := by
    intro W0
    unfold f_X11_odds at hf
    obtain ⟨q1, e1, hf⟩ := zbi_of hf
    refine zr_run [(.aload_n 0, 0, 0, 0, .null), (.getfield 19, 0, 0, 1, .null), (.iload_n 1, 0, 0, 0, .null)] [] (WW' := [w_Xx G A K s0, w_Ld G (A 2) s1, w_Fk G (A 5) s2, w_Fk G (A 4) s3]) (lv' := [some (.ref (A 0 0)), some (.int x1), some (.int x2), some (.int x3), none, none]) (pc' := 5) (st' := [.int x1, .ref ((A 2) 0)]) (by decide +kernel) rfl rfl ⟨trivial, ⟨rfl, rfl, zw_2_150⟩, trivial, trivial⟩ ?_
    refine zr_callV (c_X3_hasMan l G (A 2) s1 x1 q1 e1) (WW' := fun _ => [w_Xx G A K s0, w_Ld G (A 2) s1, w_Fk G (A 5) s2, w_Fk G (A 4) s3]) (st := []) (st' := [.int q1]) [1] rfl rfl (fun _ => Nat.le_of_ble_eq_true rfl) (fun _ => rfl) rfl rfl nm_X3_hasMan zw_3_168 zw_3_169 zw_3_170 zw_1_7 zw_3_171 rfl rfl rfl (Nat.le_of_ble_eq_true rfl) ⟨Nat.le_of_ble_eq_true rfl, Nat.le_of_ble_eq_true rfl⟩ (by decide +kernel) (fun _ => ?_)
    refine zr_if_eq (off := 14) (tgt := 22) (by decide +kernel) (by decide) (fun hc => ?_) (fun hc => ?_)
    · have hf := zift hf hc
      refine zr_run [(.iconst (-1), 0, 0, 0, .int (-1 : Int32))] [] (WW' := [w_Xx G A K s0, w_Ld G (A 2) s1, w_Fk G (A 5) s2, w_Fk G (A 4) s3]) (lv' := [some (.ref (A 0 0)), some (.int x1), some (.int x2), some (.int x3), none, none]) (pc' := 23) (st' := [.int (-1 : Int32)]) (by decide +kernel) rfl rfl ⟨trivial, trivial⟩ ?_
      obtain rfl := Option.some.inj hf
      exact zr_iret (b0 := fun _ => 0) (by decide +kernel) rfl rfl rfl rfl rfl
    · have hf := ziff hf hc
      refine zr_run [(.iload_n 2, 0, 0, 0, .null), (.iconst 1, 0, 0, 0, .int (1 : Int32))] [] (WW' := [w_Xx G A K s0, w_Ld G (A 2) s1, w_Fk G (A 5) s2, w_Fk G (A 4) s3]) (lv' := [some (.ref (A 0 0)), some (.int x1), some (.int x2), some (.int x3), none, none]) (pc' := 13) (st' := [.int (1 : Int32), .int x2]) (by decide +kernel) rfl rfl ⟨trivial, trivial, trivial⟩ ?_
      refine zr_icmp_lt (off := 9) (tgt := 22) (by decide +kernel) (by decide) (fun hc => ?_) (fun hc => ?_)
      · have hf := zift hf hc
        refine zr_run [(.iconst (-1), 0, 0, 0, .int (-1 : Int32))] [] (WW' := [w_Xx G A K s0, w_Ld G (A 2) s1, w_Fk G (A 5) s2, w_Fk G (A 4) s3]) (lv' := [some (.ref (A 0 0)), some (.int x1), some (.int x2), some (.int x3), none, none]) (pc' := 23) (st' := [.int (-1 : Int32)]) (by decide +kernel) rfl rfl ⟨trivial, trivial⟩ ?_
        obtain rfl := Option.some.inj hf
        exact zr_iret (b0 := fun _ => 0) (by decide +kernel) rfl rfl rfl rfl rfl
      · have hf := ziff hf hc
        refine zr_run [(.iload_n 2, 0, 0, 0, .null), (.bipush 30, 0, 0, 0, .int (30 : Int32))] [] (WW' := [w_Xx G A K s0, w_Ld G (A 2) s1, w_Fk G (A 5) s2, w_Fk G (A 4) s3]) (lv' := [some (.ref (A 0 0)), some (.int x1), some (.int x2), some (.int x3), none, none]) (pc' := 19) (st' := [.int (30 : Int32), .int x2]) (by decide +kernel) rfl rfl ⟨trivial, trivial, trivial⟩ ?_
        refine zr_icmp_le (off := 5) (tgt := 24) (by decide +kernel) (by decide) (fun hc => ?_) (fun hc => ?_)
        · have hf := zift hf hc
          refine zr_run [(.iconst (-1), 0, 0, 0, .int (-1 : Int32))] [] (WW' := [w_Xx G A K s0, w_Ld G (A 2) s1, w_Fk G (A 5) s2, w_Fk G (A 4) s3]) (lv' := [some (.ref (A 0 0)), some (.int x1), some (.int x2), some (.int x3), none, none]) (pc' := 23) (st' := [.int (-1 : Int32)]) (by decide +kernel) rfl rfl ⟨trivial, trivial⟩ ?_
          obtain rfl := Option.some.inj hf
          exact zr_iret (b0 := fun _ => 0) (by decide +kernel) rfl rfl rfl rfl rfl
        · have hf := ziff hf hc
          refine zr_run [(.iconst 0, 0, 0, 0, .int (0 : Int32)), (.istore 4, 0, 0, 0, .null), (.iconst 0, 0, 0, 0, .int (0 : Int32)), (.istore 5, 0, 0, 0, .null)] [] (WW' := [w_Xx G A K s0, w_Ld G (A 2) s1, w_Fk G (A 5) s2, w_Fk G (A 4) s3]) (lv' := [some (.ref (A 0 0)), some (.int x1), some (.int x2), some (.int x3), some (.int (0 : Int32)), some (.int (0 : Int32))]) (pc' := 30) (st' := []) (by decide +kernel) rfl rfl ⟨trivial, trivial, trivial, trivial, trivial⟩ ?_
          exact t_X11_odds_L30 l G A K W0 r s0 s1 s3 zFU s2 x1 x2 x3 (0 : Int32) (0 : Int32) hf
  exact zj_entry [some (.ref (A 0 0)), some (.int x1), some (.int x2), some (.int x3), none, none] (by decide +kernel) rfl (by decide) (Nat.le_of_ble_eq_true rfl) rfl rfl (key _)
def M_X11_book : zj_M := (RX11, cX11_book, 4, (some .int), { frames := 7, cells := 0, slots := 0, locals := 171 }, false)
theorem nm_X11_book : zj_nm yX11_book 1 := ⟨by decide +kernel, by decide +kernel, by decide +kernel⟩
def f_X11_book  (s0 : XxT) (s1 : LgT) (s2 : RdT) (s3 : LdT) (s4 : FkT) (s5 : FkT) (s6 : HiT) (s7 : H8T) (x1 : Int32) : Option (Int32 × LgT × RdT × FkT × FkT × HiT × H8T) := (if x1 < 0 then some ((-1000 : Int32), s1, s2, s4, s5, s6, s7) else (if (1 : Int32) < x1 then some ((-1000 : Int32), s1, s2, s4, s5, s6, s7) else ((f_X4_read s1 s2 s3).bind fun q1 => (zlet (Rd_s_length q1.2.2 (0 : Int32)) fun y2 => (if q1.1 = 0 then some (((-2 : Int32) - (Rd_faultAt y2)), q1.2.1, y2, s4, s5, s6, s7) else ((f_X1_copy s4 s5).bind fun q3 => ((f_X4_live q1.2.1 s3 q3).bind fun q4 => (if x1 = (1 : Int32) then (if 0 < (Lg_lived q4.2.1) then ((f_X2_keep s6 s7 s5).bind fun q5 => ((f_X1_copy s5 q4.2.2).bind fun q6 => some (q4.1, q4.2.1, y2, q4.2.2, q6, q5.1, q5.2))) else some (q4.1, q4.2.1, y2, q4.2.2, s5, s6, s7)) else some (q4.1, q4.2.1, y2, q4.2.2, s5, s6, s7)))))))))
set_option maxRecDepth 100000 in
set_option maxHeartbeats 4000000 in
theorem c_X11_book (l : Launch) (G : zj_G) (A : Nat → Nat → Nat) (K : Nat → Nat → Option Nat) (s0 : XxT) (s1 : LgT) (s2 : RdT) (s3 : LdT) (s4 : FkT) (s5 : FkT) (s6 : HiT) (s7 : H8T) (x1 : Int32) (r : Int32 × LgT × RdT × FkT × FkT × HiT × H8T) (hf : f_X11_book s0 s1 s2 s3 s4 s5 s6 s7 x1 = some r) : zj_C l G M_X11_book yX11_book [w_Xx G A K s0, w_Lg G (A 17) s1, w_Rd G (A 1) s2, w_Ld G (A 2) s3, w_Fk G (A 5) s4, w_Fk G (A 4) s5, w_Hi G (A 8) (fun i => A (9 + i)) s6, w_H8 G (fun i => A (9 + i)) s7] [.ref (A 0 0), .int x1] (some (.int r.1)) (fun _ => [w_Xx G A K s0, w_Lg G (A 17) r.2.1, w_Rd G (A 1) r.2.2.1, w_Ld G (A 2) s3, w_Fk G (A 5) r.2.2.2.1, w_Fk G (A 4) r.2.2.2.2.1, w_Hi G (A 8) (fun i => A (9 + i)) r.2.2.2.2.2.1, w_H8 G (fun i => A (9 + i)) r.2.2.2.2.2.2]) := by
  have key : ∀ W0 : List va_W, zj_J l G M_X11_book W0 (zj_ret G M_X11_book W0 (some (.int r.1)) (fun _ => [w_Xx G A K s0, w_Lg G (A 17) r.2.1, w_Rd G (A 1) r.2.2.1, w_Ld G (A 2) s3, w_Fk G (A 5) r.2.2.2.1, w_Fk G (A 4) r.2.2.2.2.1, w_Hi G (A 8) (fun i => A (9 + i)) r.2.2.2.2.2.1, w_H8 G (fun i => A (9 + i)) r.2.2.2.2.2.2])) 0 0 [w_Xx G A K s0, w_Lg G (A 17) s1, w_Rd G (A 1) s2, w_Ld G (A 2) s3, w_Fk G (A 5) s4, w_Fk G (A 4) s5, w_Hi G (A 8) (fun i => A (9 + i)) s6, w_H8 G (fun i => A (9 + i)) s7] [some (.ref (A 0 0)), some (.int x1), none, none] 0 [] := by
    intro W0
    unfold f_X11_book at hf
    refine zr_run [(.iload_n 1, 0, 0, 0, .null)] [] (WW' := [w_Xx G A K s0, w_Lg G (A 17) s1, w_Rd G (A 1) s2, w_Ld G (A 2) s3, w_Fk G (A 5) s4, w_Fk G (A 4) s5, w_Hi G (A 8) (fun i => A (9 + i)) s6, w_H8 G (fun i => A (9 + i)) s7]) (lv' := [some (.ref (A 0 0)), some (.int x1), none, none]) (pc' := 1) (st' := [.int x1]) (by decide +kernel) rfl rfl ⟨trivial, trivial⟩ ?_
    refine zr_if_lt (off := 8) (tgt := 9) (by decide +kernel) (by decide) (fun hc => ?_) (fun hc => ?_)
    · have hf := zift hf hc
      refine zr_run [(.sipush (-1000), 0, 0, 0, .int (-1000 : Int32))] [] (WW' := [w_Xx G A K s0, w_Lg G (A 17) s1, w_Rd G (A 1) s2, w_Ld G (A 2) s3, w_Fk G (A 5) s4, w_Fk G (A 4) s5, w_Hi G (A 8) (fun i => A (9 + i)) s6, w_H8 G (fun i => A (9 + i)) s7]) (lv' := [some (.ref (A 0 0)), some (.int x1), none, none]) (pc' := 12) (st' := [.int (-1000 : Int32)]) (by decide +kernel) rfl rfl ⟨trivial, trivial⟩ ?_
      obtain rfl := Option.some.inj hf
      exact zr_iret (b0 := fun _ => 0) (by decide +kernel) rfl rfl rfl rfl rfl
    · have hf := ziff hf hc
      refine zr_run [(.iload_n 1, 0, 0, 0, .null), (.iconst 1, 0, 0, 0, .int (1 : Int32))] [] (WW' := [w_Xx G A K s0, w_Lg G (A 17) s1, w_Rd G (A 1) s2, w_Ld G (A 2) s3, w_Fk G (A 5) s4, w_Fk G (A 4) s5, w_Hi G (A 8) (fun i => A (9 + i)) s6, w_H8 G (fun i => A (9 + i)) s7]) (lv' := [some (.ref (A 0 0)), some (.int x1), none, none]) (pc' := 6) (st' := [.int (1 : Int32), .int x1]) (by decide +kernel) rfl rfl ⟨trivial, trivial, trivial⟩ ?_
      refine zr_icmp_le (off := 7) (tgt := 13) (by decide +kernel) (by decide) (fun hc => ?_) (fun hc => ?_)
      · have hf := zift hf hc
        refine zr_run [(.sipush (-1000), 0, 0, 0, .int (-1000 : Int32))] [] (WW' := [w_Xx G A K s0, w_Lg G (A 17) s1, w_Rd G (A 1) s2, w_Ld G (A 2) s3, w_Fk G (A 5) s4, w_Fk G (A 4) s5, w_Hi G (A 8) (fun i => A (9 + i)) s6, w_H8 G (fun i => A (9 + i)) s7]) (lv' := [some (.ref (A 0 0)), some (.int x1), none, none]) (pc' := 12) (st' := [.int (-1000 : Int32)]) (by decide +kernel) rfl rfl ⟨trivial, trivial⟩ ?_
        obtain rfl := Option.some.inj hf
        exact zr_iret (b0 := fun _ => 0) (by decide +kernel) rfl rfl rfl rfl rfl
      · have hf := ziff hf hc
        obtain ⟨q1, e1, hf⟩ := zbi_of hf
        refine zr_run [(.aload_n 0, 0, 0, 0, .null), (.getfield 68, 0, 0, 11, .null), (.aload_n 0, 0, 0, 0, .null), (.getfield 10, 0, 0, 0, .null), (.aload_n 0, 0, 0, 0, .null), (.getfield 19, 0, 0, 1, .null)] [] (WW' := [w_Xx G A K s0, w_Lg G (A 17) s1, w_Rd G (A 1) s2, w_Ld G (A 2) s3, w_Fk G (A 5) s4, w_Fk G (A 4) s5, w_Hi G (A 8) (fun i => A (9 + i)) s6, w_H8 G (fun i => A (9 + i)) s7]) (lv' := [some (.ref (A 0 0)), some (.int x1), none, none]) (pc' := 25) (st' := [.ref ((A 2) 0), .ref ((A 1) 0), .ref ((A 17) 0)]) (by decide +kernel) rfl rfl ⟨trivial, ⟨rfl, rfl, zw_2_160⟩, trivial, ⟨rfl, rfl, zw_2_149⟩, trivial, ⟨rfl, rfl, zw_2_150⟩, trivial⟩ ?_
        refine zr_callV (c_X4_read l G (A 17) (A 1) (A 2) s1 s2 s3 q1 e1) (WW' := fun _ => [w_Xx G A K s0, w_Lg G (A 17) q1.2.1, w_Rd G (A 1) q1.2.2, w_Ld G (A 2) s3, w_Fk G (A 5) s4, w_Fk G (A 4) s5, w_Hi G (A 8) (fun i => A (9 + i)) s6, w_H8 G (fun i => A (9 + i)) s7]) (st := []) (st' := [.int q1.1]) [1, 2, 3] rfl rfl (fun _ => Nat.le_of_ble_eq_true rfl) (fun _ => rfl) rfl rfl nm_X4_read zw_5_24 zw_5_25 zw_5_26 zw_1_11 zw_5_27 rfl rfl rfl (Nat.le_of_ble_eq_true rfl) ⟨Nat.le_of_ble_eq_true rfl, Nat.le_of_ble_eq_true rfl⟩ (by decide +kernel) (fun _ => ?_)
        obtain ⟨y2, e2, hf⟩ := zlet_of hf
        refine zr_run [(.istore_n 2, 0, 0, 0, .null), (.aload_n 0, 0, 0, 0, .null), (.getfield 10, 0, 0, 0, .null), (.iconst 0, 0, 0, 0, .int (0 : Int32)), (.putfield 123, 2, 0, 1, .null)] [] (WW' := [w_Xx G A K s0, w_Lg G (A 17) q1.2.1, w_Rd G (A 1) (Rd_s_length q1.2.2 (0 : Int32)), w_Ld G (A 2) s3, w_Fk G (A 5) s4, w_Fk G (A 4) s5, w_Hi G (A 8) (fun i => A (9 + i)) s6, w_H8 G (fun i => A (9 + i)) s7]) (lv' := [some (.ref (A 0 0)), some (.int x1), some (.int q1.1), none]) (pc' := 37) (st' := []) (by decide +kernel) rfl rfl ⟨trivial, trivial, ⟨rfl, rfl, zw_2_149⟩, trivial, ⟨rfl, rfl, rfl, trivial, rfl, rfl, zw_1_94⟩, trivial⟩ ?_
        refine zr_eq (WW2 := [w_Xx G A K s0, w_Lg G (A 17) q1.2.1, w_Rd G (A 1) y2, w_Ld G (A 2) s3, w_Fk G (A 5) s4, w_Fk G (A 4) s5, w_Hi G (A 8) (fun i => A (9 + i)) s6, w_H8 G (fun i => A (9 + i)) s7]) (lv2 := [some (.ref (A 0 0)), some (.int x1), some (.int q1.1), none]) (st2 := []) (by rw [e2]) rfl rfl ?_
        refine zr_run [(.iload_n 2, 0, 0, 0, .null)] [] (WW' := [w_Xx G A K s0, w_Lg G (A 17) q1.2.1, w_Rd G (A 1) y2, w_Ld G (A 2) s3, w_Fk G (A 5) s4, w_Fk G (A 4) s5, w_Hi G (A 8) (fun i => A (9 + i)) s6, w_H8 G (fun i => A (9 + i)) s7]) (lv' := [some (.ref (A 0 0)), some (.int x1), some (.int q1.1), none]) (pc' := 38) (st' := [.int q1.1]) (by decide +kernel) rfl rfl ⟨trivial, trivial⟩ ?_
        refine zr_if_ne (off := 14) (tgt := 52) (by decide +kernel) (by decide) (fun hc => ?_) (fun hc => ?_)
        · have hf := zift hf hc
          refine zr_run [(.bipush (-2), 0, 0, 0, .int (-2 : Int32)), (.aload_n 0, 0, 0, 0, .null), (.getfield 10, 0, 0, 0, .null), (.getfield 130, 2, 0, 12, .null), (.isub, 0, 0, 0, .null)] [] (WW' := [w_Xx G A K s0, w_Lg G (A 17) q1.2.1, w_Rd G (A 1) y2, w_Ld G (A 2) s3, w_Fk G (A 5) s4, w_Fk G (A 4) s5, w_Hi G (A 8) (fun i => A (9 + i)) s6, w_H8 G (fun i => A (9 + i)) s7]) (lv' := [some (.ref (A 0 0)), some (.int x1), some (.int q1.1), none]) (pc' := 51) (st' := [.int ((-2 : Int32) - (Rd_faultAt y2))]) (by decide +kernel) rfl rfl ⟨trivial, trivial, ⟨rfl, rfl, zw_2_149⟩, ⟨rfl, rfl, zw_1_116⟩, trivial, trivial⟩ ?_
          obtain rfl := Option.some.inj hf
          exact zr_iret (b0 := fun _ => 0) (by decide +kernel) rfl rfl rfl rfl rfl
        · have hf := ziff hf hc
          obtain ⟨q3, e3, hf⟩ := zbi_of hf
          refine zr_run [(.aload_n 0, 0, 0, 0, .null), (.getfield 33, 0, 0, 4, .null), (.aload_n 0, 0, 0, 0, .null), (.getfield 29, 0, 0, 3, .null)] [] (WW' := [w_Xx G A K s0, w_Lg G (A 17) q1.2.1, w_Rd G (A 1) y2, w_Ld G (A 2) s3, w_Fk G (A 5) s4, w_Fk G (A 4) s5, w_Hi G (A 8) (fun i => A (9 + i)) s6, w_H8 G (fun i => A (9 + i)) s7]) (lv' := [some (.ref (A 0 0)), some (.int x1), some (.int q1.1), none]) (pc' := 60) (st' := [.ref ((A 4) 0), .ref ((A 5) 0)]) (by decide +kernel) rfl rfl ⟨trivial, ⟨rfl, rfl, zw_2_153⟩, trivial, ⟨rfl, rfl, zw_2_152⟩, trivial⟩ ?_
          refine zr_callV (c_X1_copy l G (A 5) (A 4) s4 s5 q3 e3) (WW' := fun _ => [w_Xx G A K s0, w_Lg G (A 17) q1.2.1, w_Rd G (A 1) y2, w_Ld G (A 2) s3, w_Fk G (A 5) q3, w_Fk G (A 4) s5, w_Hi G (A 8) (fun i => A (9 + i)) s6, w_H8 G (fun i => A (9 + i)) s7]) (st := []) (st' := []) [4, 5] rfl rfl (fun _ => Nat.le_of_ble_eq_true rfl) (fun _ => rfl) rfl rfl nm_X1_copy zw_3_177 zw_3_178 zw_3_179 zw_1_8 zw_3_180 rfl rfl rfl (Nat.le_of_ble_eq_true rfl) ⟨Nat.le_of_ble_eq_true rfl, Nat.le_of_ble_eq_true rfl⟩ (by decide +kernel) (fun _ => ?_)
          obtain ⟨q4, e4, hf⟩ := zbi_of hf
          refine zr_run [(.aload_n 0, 0, 0, 0, .null), (.getfield 68, 0, 0, 11, .null), (.aload_n 0, 0, 0, 0, .null), (.getfield 19, 0, 0, 1, .null), (.aload_n 0, 0, 0, 0, .null), (.getfield 33, 0, 0, 4, .null)] [] (WW' := [w_Xx G A K s0, w_Lg G (A 17) q1.2.1, w_Rd G (A 1) y2, w_Ld G (A 2) s3, w_Fk G (A 5) q3, w_Fk G (A 4) s5, w_Hi G (A 8) (fun i => A (9 + i)) s6, w_H8 G (fun i => A (9 + i)) s7]) (lv' := [some (.ref (A 0 0)), some (.int x1), some (.int q1.1), none]) (pc' := 75) (st' := [.ref ((A 5) 0), .ref ((A 2) 0), .ref ((A 17) 0)]) (by decide +kernel) rfl rfl ⟨trivial, ⟨rfl, rfl, zw_2_160⟩, trivial, ⟨rfl, rfl, zw_2_150⟩, trivial, ⟨rfl, rfl, zw_2_153⟩, trivial⟩ ?_
          refine zr_callV (c_X4_live l G (A 17) (A 2) (A 5) q1.2.1 s3 q3 q4 e4) (WW' := fun _ => [w_Xx G A K s0, w_Lg G (A 17) q4.2.1, w_Rd G (A 1) y2, w_Ld G (A 2) s3, w_Fk G (A 5) q4.2.2, w_Fk G (A 4) s5, w_Hi G (A 8) (fun i => A (9 + i)) s6, w_H8 G (fun i => A (9 + i)) s7]) (st := []) (st' := [.int q4.1]) [1, 3, 4] rfl rfl (fun _ => Nat.le_of_ble_eq_true rfl) (fun _ => rfl) rfl rfl nm_X4_live zw_5_45 zw_5_46 zw_5_47 zw_1_11 zw_5_48 rfl rfl rfl (Nat.le_of_ble_eq_true rfl) ⟨Nat.le_of_ble_eq_true rfl, Nat.le_of_ble_eq_true rfl⟩ (by decide +kernel) (fun _ => ?_)
          refine zr_run [(.istore_n 3, 0, 0, 0, .null), (.iload_n 1, 0, 0, 0, .null), (.iconst 1, 0, 0, 0, .int (1 : Int32))] [] (WW' := [w_Xx G A K s0, w_Lg G (A 17) q4.2.1, w_Rd G (A 1) y2, w_Ld G (A 2) s3, w_Fk G (A 5) q4.2.2, w_Fk G (A 4) s5, w_Hi G (A 8) (fun i => A (9 + i)) s6, w_H8 G (fun i => A (9 + i)) s7]) (lv' := [some (.ref (A 0 0)), some (.int x1), some (.int q1.1), some (.int q4.1)]) (pc' := 81) (st' := [.int (1 : Int32), .int x1]) (by decide +kernel) rfl rfl ⟨trivial, trivial, trivial, trivial⟩ ?_
          refine zr_icmp_ne (off := 35) (tgt := 116) (by decide +kernel) (by decide) (fun hc => ?_) (fun hc => ?_)
          · have hf := zift hf hc
            refine zr_run [(.aload_n 0, 0, 0, 0, .null), (.getfield 68, 0, 0, 11, .null), (.getfield 314, 1, 0, 1, .null)] [] (WW' := [w_Xx G A K s0, w_Lg G (A 17) q4.2.1, w_Rd G (A 1) y2, w_Ld G (A 2) s3, w_Fk G (A 5) q4.2.2, w_Fk G (A 4) s5, w_Hi G (A 8) (fun i => A (9 + i)) s6, w_H8 G (fun i => A (9 + i)) s7]) (lv' := [some (.ref (A 0 0)), some (.int x1), some (.int q1.1), some (.int q4.1)]) (pc' := 91) (st' := [.int (Lg_lived q4.2.1)]) (by decide +kernel) rfl rfl ⟨trivial, ⟨rfl, rfl, zw_2_160⟩, ⟨rfl, rfl, zw_2_37⟩, trivial⟩ ?_
            refine zr_if_le (off := 25) (tgt := 116) (by decide +kernel) (by decide) (fun hc => ?_) (fun hc => ?_)
            · have hf := zift hf hc
              obtain ⟨q5, e5, hf⟩ := zbi_of hf
              refine zr_run [(.aload_n 0, 0, 0, 0, .null), (.getfield 49, 0, 0, 7, .null), (.aload_n 0, 0, 0, 0, .null), (.getfield 29, 0, 0, 3, .null)] [] (WW' := [w_Xx G A K s0, w_Lg G (A 17) q4.2.1, w_Rd G (A 1) y2, w_Ld G (A 2) s3, w_Fk G (A 5) q4.2.2, w_Fk G (A 4) s5, w_Hi G (A 8) (fun i => A (9 + i)) s6, w_H8 G (fun i => A (9 + i)) s7]) (lv' := [some (.ref (A 0 0)), some (.int x1), some (.int q1.1), some (.int q4.1)]) (pc' := 102) (st' := [.ref ((A 4) 0), .ref ((A 8) 0)]) (by decide +kernel) rfl rfl ⟨trivial, ⟨rfl, rfl, zw_2_156⟩, trivial, ⟨rfl, rfl, zw_2_152⟩, trivial⟩ ?_
              refine zr_callV (c_X2_keep l G (A 8) (fun i => A (9 + i)) (A 4) s6 s7 s5 q5 e5) (WW' := fun _ => [w_Xx G A K s0, w_Lg G (A 17) q4.2.1, w_Rd G (A 1) y2, w_Ld G (A 2) s3, w_Fk G (A 5) q4.2.2, w_Fk G (A 4) s5, w_Hi G (A 8) (fun i => A (9 + i)) q5.1, w_H8 G (fun i => A (9 + i)) q5.2]) (st := []) (st' := []) [6, 7, 5] rfl rfl (fun _ => Nat.le_of_ble_eq_true rfl) (fun _ => rfl) rfl rfl nm_X2_keep zw_3_197 zw_3_198 zw_3_199 zw_1_10 zw_3_200 rfl rfl rfl (Nat.le_of_ble_eq_true rfl) ⟨Nat.le_of_ble_eq_true rfl, Nat.le_of_ble_eq_true rfl⟩ (by decide +kernel) (fun _ => ?_)
              obtain ⟨q6, e6, hf⟩ := zbi_of hf
              refine zr_run [(.aload_n 0, 0, 0, 0, .null), (.getfield 29, 0, 0, 3, .null), (.aload_n 0, 0, 0, 0, .null), (.getfield 33, 0, 0, 4, .null)] [] (WW' := [w_Xx G A K s0, w_Lg G (A 17) q4.2.1, w_Rd G (A 1) y2, w_Ld G (A 2) s3, w_Fk G (A 5) q4.2.2, w_Fk G (A 4) s5, w_Hi G (A 8) (fun i => A (9 + i)) q5.1, w_H8 G (fun i => A (9 + i)) q5.2]) (lv' := [some (.ref (A 0 0)), some (.int x1), some (.int q1.1), some (.int q4.1)]) (pc' := 113) (st' := [.ref ((A 5) 0), .ref ((A 4) 0)]) (by decide +kernel) rfl rfl ⟨trivial, ⟨rfl, rfl, zw_2_152⟩, trivial, ⟨rfl, rfl, zw_2_153⟩, trivial⟩ ?_
              refine zr_callV (c_X1_copy l G (A 4) (A 5) s5 q4.2.2 q6 e6) (WW' := fun _ => [w_Xx G A K s0, w_Lg G (A 17) q4.2.1, w_Rd G (A 1) y2, w_Ld G (A 2) s3, w_Fk G (A 5) q4.2.2, w_Fk G (A 4) q6, w_Hi G (A 8) (fun i => A (9 + i)) q5.1, w_H8 G (fun i => A (9 + i)) q5.2]) (st := []) (st' := []) [5, 4] rfl rfl (fun _ => Nat.le_of_ble_eq_true rfl) (fun _ => rfl) rfl rfl nm_X1_copy zw_3_177 zw_3_178 zw_3_179 zw_1_8 zw_3_180 rfl rfl rfl (Nat.le_of_ble_eq_true rfl) ⟨Nat.le_of_ble_eq_true rfl, Nat.le_of_ble_eq_true rfl⟩ (by decide +kernel) (fun _ => ?_)
              refine zr_run [(.iload_n 3, 0, 0, 0, .null)] [] (WW' := [w_Xx G A K s0, w_Lg G (A 17) q4.2.1, w_Rd G (A 1) y2, w_Ld G (A 2) s3, w_Fk G (A 5) q4.2.2, w_Fk G (A 4) q6, w_Hi G (A 8) (fun i => A (9 + i)) q5.1, w_H8 G (fun i => A (9 + i)) q5.2]) (lv' := [some (.ref (A 0 0)), some (.int x1), some (.int q1.1), some (.int q4.1)]) (pc' := 117) (st' := [.int q4.1]) (by decide +kernel) rfl rfl ⟨trivial, trivial⟩ ?_
              obtain rfl := Option.some.inj hf
              exact zr_iret (b0 := fun _ => 0) (by decide +kernel) rfl rfl rfl rfl rfl
            · have hf := ziff hf hc
              refine zr_run [(.iload_n 3, 0, 0, 0, .null)] [] (WW' := [w_Xx G A K s0, w_Lg G (A 17) q4.2.1, w_Rd G (A 1) y2, w_Ld G (A 2) s3, w_Fk G (A 5) q4.2.2, w_Fk G (A 4) s5, w_Hi G (A 8) (fun i => A (9 + i)) s6, w_H8 G (fun i => A (9 + i)) s7]) (lv' := [some (.ref (A 0 0)), some (.int x1), some (.int q1.1), some (.int q4.1)]) (pc' := 117) (st' := [.int q4.1]) (by decide +kernel) rfl rfl ⟨trivial, trivial⟩ ?_
              obtain rfl := Option.some.inj hf
              exact zr_iret (b0 := fun _ => 0) (by decide +kernel) rfl rfl rfl rfl rfl
          · have hf := ziff hf hc
            refine zr_run [(.iload_n 3, 0, 0, 0, .null)] [] (WW' := [w_Xx G A K s0, w_Lg G (A 17) q4.2.1, w_Rd G (A 1) y2, w_Ld G (A 2) s3, w_Fk G (A 5) q4.2.2, w_Fk G (A 4) s5, w_Hi G (A 8) (fun i => A (9 + i)) s6, w_H8 G (fun i => A (9 + i)) s7]) (lv' := [some (.ref (A 0 0)), some (.int x1), some (.int q1.1), some (.int q4.1)]) (pc' := 117) (st' := [.int q4.1]) (by decide +kernel) rfl rfl ⟨trivial, trivial⟩ ?_
            obtain rfl := Option.some.inj hf
            exact zr_iret (b0 := fun _ => 0) (by decide +kernel) rfl rfl rfl rfl rfl
  exact zj_entry [some (.ref (A 0 0)), some (.int x1), none, none] (by decide +kernel) rfl (by decide) (Nat.le_of_ble_eq_true rfl) rfl rfl (key _)
def M_X11_told : zj_M := (RX11, cX11_told, 2, (some .int), { frames := 0, cells := 0, slots := 0, locals := 0 }, false)
theorem nm_X11_told : zj_nm yX11_told 1 := ⟨by decide +kernel, by decide +kernel, by decide +kernel⟩
def f_X11_told_b9  (s0 : XxT) (s1 : LgT)   : Option (Int32) := some (-1 : Int32)
def f_X11_told  (s0 : XxT) (s1 : LgT) (x1 : Int32) : Option (Int32) := (if x1 < 0 then f_X11_told_b9 s0 s1 else (if (3 : Int32) < x1 then f_X11_told_b9 s0 s1 else (if zb_in x1 4 = true then some ((Lg_verdict s1) x1.toNatClampNeg) else none)))
set_option maxRecDepth 100000 in
set_option maxHeartbeats 4000000 in
theorem t_X11_told_b9 (l : Launch) (G : zj_G) (A : Nat → Nat → Nat) (K : Nat → Nat → Option Nat) (W0 : List va_W) (r : Int32) (s0 : XxT) (s1 : LgT)    (hf : f_X11_told_b9 s0 s1 = some r) : zj_J l G M_X11_told W0 (zj_ret G M_X11_told W0 (some (.int r)) (fun _ => [w_Xx G A K s0, w_Lg G (A 17) s1])) 0 0 [w_Xx G A K s0, w_Lg G (A 17) s1] [none, none] 9 [] := by
  unfold f_X11_told_b9 at hf
  refine zr_run [(.iconst (-1), 0, 0, 0, .int (-1 : Int32))] [] (WW' := [w_Xx G A K s0, w_Lg G (A 17) s1]) (lv' := [none, none]) (pc' := 10) (st' := [.int (-1 : Int32)]) (by decide +kernel) rfl rfl ⟨trivial, trivial⟩ ?_
  refine zr_goto (off := 12) (tgt := 22) (by decide +kernel) (by decide) ?_
  obtain rfl := Option.some.inj hf
  exact zr_iret (b0 := fun _ => 0) (by decide +kernel) rfl rfl rfl rfl rfl
set_option maxRecDepth 100000 in
set_option maxHeartbeats 4000000 in
theorem c_X11_told (l : Launch) (G : zj_G) (A : Nat → Nat → Nat) (K : Nat → Nat → Option Nat) (s0 : XxT) (s1 : LgT) (x1 : Int32) (r : Int32) (hf : f_X11_told s0 s1 x1 = some r) : zj_C l G M_X11_told yX11_told [w_Xx G A K s0, w_Lg G (A 17) s1] [.ref (A 0 0), .int x1] (some (.int r)) (fun _ => [w_Xx G A K s0, w_Lg G (A 17) s1]) := by
  have key : ∀ W0 : List va_W, zj_J l G M_X11_told W0 (zj_ret G M_X11_told W0 (some (.int r)) (fun _ => [w_Xx G A K s0, w_Lg G (A 17) s1])) 0 0 [w_Xx G A K s0, w_Lg G (A 17) s1] [some (.ref (A 0 0)), some (.int x1)] 0 [] := by
    intro W0
    unfold f_X11_told at hf
    refine zr_run [(.iload_n 1, 0, 0, 0, .null)] [] (WW' := [w_Xx G A K s0, w_Lg G (A 17) s1]) (lv' := [some (.ref (A 0 0)), some (.int x1)]) (pc' := 1) (st' := [.int x1]) (by decide +kernel) rfl rfl ⟨trivial, trivial⟩ ?_
    refine zr_if_lt (off := 8) (tgt := 9) (by decide +kernel) (by decide) (fun hc => ?_) (fun hc => ?_)
    · have hf := zift hf hc
      refine zr_run [] [0, 1] (WW' := [w_Xx G A K s0, w_Lg G (A 17) s1]) (lv' := [none, none]) (pc' := 9) (st' := []) (by decide +kernel) rfl rfl trivial ?_
      exact t_X11_told_b9 l G A K W0 r s0 s1 hf
    · have hf := ziff hf hc
      refine zr_run [(.iload_n 1, 0, 0, 0, .null), (.iconst 3, 0, 0, 0, .int (3 : Int32))] [] (WW' := [w_Xx G A K s0, w_Lg G (A 17) s1]) (lv' := [some (.ref (A 0 0)), some (.int x1)]) (pc' := 6) (st' := [.int (3 : Int32), .int x1]) (by decide +kernel) rfl rfl ⟨trivial, trivial, trivial⟩ ?_
      refine zr_icmp_le (off := 7) (tgt := 13) (by decide +kernel) (by decide) (fun hc => ?_) (fun hc => ?_)
      · have hf := zift hf hc
        refine zr_run [] [0, 1] (WW' := [w_Xx G A K s0, w_Lg G (A 17) s1]) (lv' := [none, none]) (pc' := 9) (st' := []) (by decide +kernel) rfl rfl trivial ?_
        exact t_X11_told_b9 l G A K W0 r s0 s1 hf
      · have hf := ziff hf hc
        obtain ⟨h1, hf⟩ := zck_of hf
        refine zr_run [(.aload_n 0, 0, 0, 0, .null), (.getfield 68, 0, 0, 11, .null), (.getfield 317, 1, 0, 0, .null), (.iload_n 1, 0, 0, 0, .null), (.iaload, 1, 1, 0, .null)] [] (WW' := [w_Xx G A K s0, w_Lg G (A 17) s1]) (lv' := [some (.ref (A 0 0)), some (.int x1)]) (pc' := 22) (st' := [.int ((Lg_verdict s1) x1.toNatClampNeg)]) (by decide +kernel) rfl rfl ⟨trivial, ⟨rfl, rfl, zw_2_160⟩, ⟨rfl, rfl, zw_2_35⟩, trivial, ⟨rfl, rfl, h1⟩, trivial⟩ ?_
        obtain rfl := Option.some.inj hf
        exact zr_iret (b0 := fun _ => 0) (by decide +kernel) rfl rfl rfl rfl rfl
  exact zj_entry [some (.ref (A 0 0)), some (.int x1)] (by decide +kernel) rfl (by decide) (Nat.le_of_ble_eq_true rfl) rfl rfl (key _)
def M_X11_sentence : zj_M := (RX11, cX11_sentence, 3, (some .int), { frames := 45, cells := 0, slots := 0, locals := 1153 }, false)
theorem nm_X11_sentence : zj_nm yX11_sentence 0 := ⟨by decide +kernel, by decide +kernel, by decide +kernel⟩
def f_X11_sentence  (s0 : XxT) (s1 : PhT) (s2 : RdT) (s3 : LdT) (s4 : PhT)  : Option (Int32 × XxT × PhT × RdT × Bool) := ((f_X5_read s1 s2 s3).bind fun q1 => (zlet (Rd_s_length q1.2.2 (0 : Int32)) fun y2 => (if q1.1 = 0 then some (((-1 : Int32) - (Rd_faultAt y2)), s0, q1.2.1, y2, false) else some ((Ph_ones q1.2.1), s0, q1.2.1, y2, true))))
set_option maxRecDepth 100000 in
set_option maxHeartbeats 4000000 in
theorem c_X11_sentence (l : Launch) (G : zj_G) (A : Nat → Nat → Nat) (K : Nat → Nat → Option Nat) (s0 : XxT) (s1 : PhT) (s2 : RdT) (s3 : LdT) (s4 : PhT)  (r : Int32 × XxT × PhT × RdT × Bool) (hf : f_X11_sentence s0 s1 s2 s3 s4 = some r) : zj_C l G M_X11_sentence yX11_sentence [w_Xx G A K s0, w_Ph G (A 7) s1, w_Rd G (A 1) s2, w_Ld G (A 2) s3, w_Ph G (A 6) s4] [.ref (A 0 0)] (some (.int r.1)) (fun _ => [w_Xx G (zsf r.2.2.2.2 A 6 7) K r.2.1, w_Ph G (A 7) r.2.2.1, w_Rd G (A 1) r.2.2.2.1, w_Ld G (A 2) s3, w_Ph G (A 6) s4]) := by
  have key : ∀ W0 : List va_W, zj_J l G M_X11_sentence W0 (zj_ret G M_X11_sentence W0 (some (.int r.1)) (fun _ => [w_Xx G (zsf r.2.2.2.2 A 6 7) K r.2.1, w_Ph G (A 7) r.2.2.1, w_Rd G (A 1) r.2.2.2.1, w_Ld G (A 2) s3, w_Ph G (A 6) s4])) 0 0 [w_Xx G A K s0, w_Ph G (A 7) s1, w_Rd G (A 1) s2, w_Ld G (A 2) s3, w_Ph G (A 6) s4] [some (.ref (A 0 0)), none, none] 0 [] := by
    intro W0
    unfold f_X11_sentence at hf
    obtain ⟨q1, e1, hf⟩ := zbi_of hf
    refine zr_run [(.aload_n 0, 0, 0, 0, .null), (.getfield 43, 0, 0, 6, .null), (.aload_n 0, 0, 0, 0, .null), (.getfield 10, 0, 0, 0, .null), (.aload_n 0, 0, 0, 0, .null), (.getfield 19, 0, 0, 1, .null)] [] (WW' := [w_Xx G A K s0, w_Ph G (A 7) s1, w_Rd G (A 1) s2, w_Ld G (A 2) s3, w_Ph G (A 6) s4]) (lv' := [some (.ref (A 0 0)), none, none]) (pc' := 12) (st' := [.ref ((A 2) 0), .ref ((A 1) 0), .ref ((A 7) 0)]) (by decide +kernel) rfl rfl ⟨trivial, ⟨rfl, rfl, zw_2_155⟩, trivial, ⟨rfl, rfl, zw_2_149⟩, trivial, ⟨rfl, rfl, zw_2_150⟩, trivial⟩ ?_
    refine zr_callV (c_X5_read l G (A 7) (A 1) (A 2) s1 s2 s3 q1 e1) (WW' := fun _ => [w_Xx G A K s0, w_Ph G (A 7) q1.2.1, w_Rd G (A 1) q1.2.2, w_Ld G (A 2) s3, w_Ph G (A 6) s4]) (st := []) (st' := [.int q1.1]) [1, 2, 3] rfl rfl (fun _ => Nat.le_of_ble_eq_true rfl) (fun _ => rfl) rfl rfl nm_X5_read zw_5_73 zw_5_74 zw_5_75 zw_1_9 zw_5_76 rfl rfl rfl (Nat.le_of_ble_eq_true rfl) ⟨Nat.le_of_ble_eq_true rfl, Nat.le_of_ble_eq_true rfl⟩ (by decide +kernel) (fun _ => ?_)
    obtain ⟨y2, e2, hf⟩ := zlet_of hf
    refine zr_run [(.istore_n 1, 0, 0, 0, .null), (.aload_n 0, 0, 0, 0, .null), (.getfield 10, 0, 0, 0, .null), (.iconst 0, 0, 0, 0, .int (0 : Int32)), (.putfield 123, 2, 0, 1, .null)] [] (WW' := [w_Xx G A K s0, w_Ph G (A 7) q1.2.1, w_Rd G (A 1) (Rd_s_length q1.2.2 (0 : Int32)), w_Ld G (A 2) s3, w_Ph G (A 6) s4]) (lv' := [some (.ref (A 0 0)), some (.int q1.1), none]) (pc' := 24) (st' := []) (by decide +kernel) rfl rfl ⟨trivial, trivial, ⟨rfl, rfl, zw_2_149⟩, trivial, ⟨rfl, rfl, rfl, trivial, rfl, rfl, zw_1_94⟩, trivial⟩ ?_
    refine zr_eq (WW2 := [w_Xx G A K s0, w_Ph G (A 7) q1.2.1, w_Rd G (A 1) y2, w_Ld G (A 2) s3, w_Ph G (A 6) s4]) (lv2 := [some (.ref (A 0 0)), some (.int q1.1), none]) (st2 := []) (by rw [e2]) rfl rfl ?_
    refine zr_run [(.iload_n 1, 0, 0, 0, .null)] [] (WW' := [w_Xx G A K s0, w_Ph G (A 7) q1.2.1, w_Rd G (A 1) y2, w_Ld G (A 2) s3, w_Ph G (A 6) s4]) (lv' := [some (.ref (A 0 0)), some (.int q1.1), none]) (pc' := 25) (st' := [.int q1.1]) (by decide +kernel) rfl rfl ⟨trivial, trivial⟩ ?_
    refine zr_if_ne (off := 13) (tgt := 38) (by decide +kernel) (by decide) (fun hc => ?_) (fun hc => ?_)
    · have hf := zift hf hc
      refine zr_run [(.iconst (-1), 0, 0, 0, .int (-1 : Int32)), (.aload_n 0, 0, 0, 0, .null), (.getfield 10, 0, 0, 0, .null), (.getfield 130, 2, 0, 12, .null), (.isub, 0, 0, 0, .null)] [] (WW' := [w_Xx G A K s0, w_Ph G (A 7) q1.2.1, w_Rd G (A 1) y2, w_Ld G (A 2) s3, w_Ph G (A 6) s4]) (lv' := [some (.ref (A 0 0)), some (.int q1.1), none]) (pc' := 37) (st' := [.int ((-1 : Int32) - (Rd_faultAt y2))]) (by decide +kernel) rfl rfl ⟨trivial, trivial, ⟨rfl, rfl, zw_2_149⟩, ⟨rfl, rfl, zw_1_116⟩, trivial, trivial⟩ ?_
      obtain rfl := Option.some.inj hf
      exact zr_iret (b0 := fun _ => 0) (by decide +kernel) rfl rfl rfl rfl rfl
    · have hf := ziff hf hc
      refine zr_run [(.aload_n 0, 0, 0, 0, .null), (.getfield 39, 0, 0, 5, .null), (.astore_n 2, 0, 0, 0, .null), (.aload_n 0, 0, 0, 0, .null), (.aload_n 0, 0, 0, 0, .null), (.getfield 43, 0, 0, 6, .null), (.putfield 39, 0, 0, 5, .null), (.aload_n 0, 0, 0, 0, .null), (.aload_n 2, 0, 0, 0, .null), (.putfield 43, 0, 0, 6, .null), (.aload_n 0, 0, 0, 0, .null), (.getfield 39, 0, 0, 5, .null), (.getfield 321, 1, 0, 0, .null)] [] (WW' := [w_Xx G (zsw A 6 7) K s0, w_Ph G (A 7) q1.2.1, w_Rd G (A 1) y2, w_Ld G (A 2) s3, w_Ph G (A 6) s4]) (lv' := [some (.ref (A 0 0)), some (.int q1.1), some (.ref ((A 6) 0))]) (pc' := 63) (st' := [.int (Ph_ones q1.2.1)]) (by decide +kernel) rfl rfl ⟨trivial, ⟨rfl, rfl, zw_2_154⟩, trivial, trivial, trivial, ⟨rfl, rfl, zw_2_155⟩, ⟨rfl, rfl, rfl, trivial, rfl, rfl, zw_2_154⟩, trivial, trivial, ⟨rfl, rfl, rfl, trivial, rfl, rfl, zw_2_155⟩, trivial, ⟨rfl, rfl, zw_2_154⟩, ⟨rfl, rfl, zw_1_231⟩, trivial⟩ ?_
      obtain rfl := Option.some.inj hf
      exact zr_iret (b0 := fun _ => 0) (by decide +kernel) rfl rfl rfl rfl rfl
  exact zj_entry [some (.ref (A 0 0)), none, none] (by decide +kernel) rfl (by decide) (Nat.le_of_ble_eq_true rfl) rfl rfl (key _)
def M_X11_said : zj_M := (RX11, cX11_said, 4, (some .int), { frames := 4, cells := 0, slots := 0, locals := 96 }, false)
theorem nm_X11_said : zj_nm yX11_said 1 := ⟨by decide +kernel, by decide +kernel, by decide +kernel⟩
def f_X11_said_b61  (s0 : XxT) (s1 : PhT) (s2 : LdT) (s3 : FkT) (k21 : Int32 → Int32 → Int32 → Option (Int32)) (x1 : Int32) (x2 : Int32) (x3 : Int32) : Option (Int32) := k21 x1 x2 (x3 + (1 : Int32))
def f_X11_said_H21  (s0 : XxT) (s1 : PhT) (s2 : LdT) (s3 : FkT) (k21 : Int32 → Int32 → Int32 → Option (Int32)) (x1 : Int32) (x2 : Int32) (x3 : Int32) : Option (Int32) := (if x3 < (Ld_men s2) then ((f_X5_holds s1 s2 s3 x3).bind fun q1 => (if q1 = 0 then f_X11_said_b61 s0 s1 s2 s3 k21 x1 x2 x3 else (if x2 = x1 then some x3 else f_X11_said_b61 s0 s1 s2 s3 k21 x1 (x2 + (1 : Int32)) x3))) else (if x1 = (-1 : Int32) then some x2 else some (-1 : Int32)))
def f_X11_said_L21  (s0 : XxT) (s1 : PhT) (s2 : LdT) (s3 : FkT)  : Nat → Int32 → Int32 → Int32 → Option (Int32)
  | 0 => fun _ _ _ => none
  | n + 1 => fun x1 x2 x3 => f_X11_said_H21 s0 s1 s2 s3 (f_X11_said_L21 s0 s1 s2 s3 n) x1 x2 x3
def f_X11_said  (s0 : XxT) (s1 : PhT) (s2 : LdT) (s3 : FkT) (x1 : Int32) : Option (Int32) := (if (Ph_ones s1) = 0 then some (-1 : Int32) else (if x1 < (-1 : Int32) then some (-1 : Int32) else f_X11_said_L21 s0 s1 s2 s3 zFU x1 (0 : Int32) (0 : Int32)))
set_option maxRecDepth 100000 in
set_option maxHeartbeats 4000000 in
theorem t_X11_said_b61 (l : Launch) (G : zj_G) (A : Nat → Nat → Nat) (K : Nat → Nat → Option Nat) (W0 : List va_W) (r : Int32) (s0 : XxT) (s1 : PhT) (s2 : LdT) (s3 : FkT) (k21 : Int32 → Int32 → Int32 → Option (Int32)) (hk21 : ∀ (x1 : Int32) (x2 : Int32) (x3 : Int32), k21 x1 x2 x3 = some r → zj_J l G M_X11_said W0 (zj_ret G M_X11_said W0 (some (.int r)) (fun _ => [w_Xx G A K s0, w_Ph G (A 6) s1, w_Ld G (A 2) s2, w_Fk G (A 4) s3])) 0 0 [w_Xx G A K s0, w_Ph G (A 6) s1, w_Ld G (A 2) s2, w_Fk G (A 4) s3] [some (.ref (A 0 0)), some (.int x1), some (.int x2), some (.int x3)] 21 []) (x1 : Int32) (x2 : Int32) (x3 : Int32) (hf : f_X11_said_b61 s0 s1 s2 s3 k21 x1 x2 x3 = some r) : zj_J l G M_X11_said W0 (zj_ret G M_X11_said W0 (some (.int r)) (fun _ => [w_Xx G A K s0, w_Ph G (A 6) s1, w_Ld G (A 2) s2, w_Fk G (A 4) s3])) 0 0 [w_Xx G A K s0, w_Ph G (A 6) s1, w_Ld G (A 2) s2, w_Fk G (A 4) s3] [some (.ref (A 0 0)), some (.int x1), some (.int x2), some (.int x3)] 61 [] := by
  unfold f_X11_said_b61 at hf
  refine zr_run [(.iinc 3 1, 0, 0, 0, .int (1 : Int32))] [] (WW' := [w_Xx G A K s0, w_Ph G (A 6) s1, w_Ld G (A 2) s2, w_Fk G (A 4) s3]) (lv' := [some (.ref (A 0 0)), some (.int x1), some (.int x2), some (.int (x3 + (1 : Int32)))]) (pc' := 64) (st' := []) (by decide +kernel) rfl rfl ⟨trivial, trivial⟩ ?_
  refine zr_goto (off := -43) (tgt := 21) (by decide +kernel) (by decide) ?_
  exact hk21 x1 x2 (x3 + (1 : Int32)) hf
set_option maxRecDepth 100000 in
set_option maxHeartbeats 4000000 in
theorem t_X11_said_H21 (l : Launch) (G : zj_G) (A : Nat → Nat → Nat) (K : Nat → Nat → Option Nat) (W0 : List va_W) (r : Int32) (s0 : XxT) (s1 : PhT) (s2 : LdT) (s3 : FkT) (k21 : Int32 → Int32 → Int32 → Option (Int32)) (hk21 : ∀ (x1 : Int32) (x2 : Int32) (x3 : Int32), k21 x1 x2 x3 = some r → zj_J l G M_X11_said W0 (zj_ret G M_X11_said W0 (some (.int r)) (fun _ => [w_Xx G A K s0, w_Ph G (A 6) s1, w_Ld G (A 2) s2, w_Fk G (A 4) s3])) 0 0 [w_Xx G A K s0, w_Ph G (A 6) s1, w_Ld G (A 2) s2, w_Fk G (A 4) s3] [some (.ref (A 0 0)), some (.int x1), some (.int x2), some (.int x3)] 21 []) (x1 : Int32) (x2 : Int32) (x3 : Int32) (hf : f_X11_said_H21 s0 s1 s2 s3 k21 x1 x2 x3 = some r) : zj_J l G M_X11_said W0 (zj_ret G M_X11_said W0 (some (.int r)) (fun _ => [w_Xx G A K s0, w_Ph G (A 6) s1, w_Ld G (A 2) s2, w_Fk G (A 4) s3])) 0 0 [w_Xx G A K s0, w_Ph G (A 6) s1, w_Ld G (A 2) s2, w_Fk G (A 4) s3] [some (.ref (A 0 0)), some (.int x1), some (.int x2), some (.int x3)] 21 [] := by
  unfold f_X11_said_H21 at hf
  refine zr_run [(.iload_n 3, 0, 0, 0, .null), (.aload_n 0, 0, 0, 0, .null), (.getfield 19, 0, 0, 1, .null), (.getfield 153, 2, 0, 2, .null)] [] (WW' := [w_Xx G A K s0, w_Ph G (A 6) s1, w_Ld G (A 2) s2, w_Fk G (A 4) s3]) (lv' := [some (.ref (A 0 0)), some (.int x1), some (.int x2), some (.int x3)]) (pc' := 29) (st' := [.int (Ld_men s2), .int x3]) (by decide +kernel) rfl rfl ⟨trivial, trivial, ⟨rfl, rfl, zw_2_150⟩, ⟨rfl, rfl, zw_1_162⟩, trivial⟩ ?_
  refine zr_icmp_ge (off := 38) (tgt := 67) (by decide +kernel) (by decide) (fun hc => ?_) (fun hc => ?_)
  · have hf := zift hf hc
    obtain ⟨q1, e1, hf⟩ := zbi_of hf
    refine zr_run [(.aload_n 0, 0, 0, 0, .null), (.getfield 39, 0, 0, 5, .null), (.aload_n 0, 0, 0, 0, .null), (.getfield 19, 0, 0, 1, .null), (.aload_n 0, 0, 0, 0, .null), (.getfield 29, 0, 0, 3, .null), (.iload_n 3, 0, 0, 0, .null)] [] (WW' := [w_Xx G A K s0, w_Ph G (A 6) s1, w_Ld G (A 2) s2, w_Fk G (A 4) s3]) (lv' := [some (.ref (A 0 0)), some (.int x1), some (.int x2), some (.int x3)]) (pc' := 45) (st' := [.int x3, .ref ((A 4) 0), .ref ((A 2) 0), .ref ((A 6) 0)]) (by decide +kernel) rfl rfl ⟨trivial, ⟨rfl, rfl, zw_2_154⟩, trivial, ⟨rfl, rfl, zw_2_150⟩, trivial, ⟨rfl, rfl, zw_2_152⟩, trivial, trivial⟩ ?_
    refine zr_callV (c_X5_holds l G (A 6) (A 2) (A 4) s1 s2 s3 x3 q1 e1) (WW' := fun _ => [w_Xx G A K s0, w_Ph G (A 6) s1, w_Ld G (A 2) s2, w_Fk G (A 4) s3]) (st := []) (st' := [.int q1]) [1, 2, 3] rfl rfl (fun _ => Nat.le_of_ble_eq_true rfl) (fun _ => rfl) rfl rfl nm_X5_holds zw_5_105 zw_5_106 zw_5_107 zw_1_9 zw_5_108 rfl rfl rfl (Nat.le_of_ble_eq_true rfl) ⟨Nat.le_of_ble_eq_true rfl, Nat.le_of_ble_eq_true rfl⟩ (by decide +kernel) (fun _ => ?_)
    refine zr_if_eq (off := 13) (tgt := 61) (by decide +kernel) (by decide) (fun hc => ?_) (fun hc => ?_)
    · have hf := zift hf hc
      exact t_X11_said_b61 l G A K W0 r s0 s1 s2 s3 k21 hk21 x1 x2 x3 hf
    · have hf := ziff hf hc
      refine zr_run [(.iload_n 2, 0, 0, 0, .null), (.iload_n 1, 0, 0, 0, .null)] [] (WW' := [w_Xx G A K s0, w_Ph G (A 6) s1, w_Ld G (A 2) s2, w_Fk G (A 4) s3]) (lv' := [some (.ref (A 0 0)), some (.int x1), some (.int x2), some (.int x3)]) (pc' := 53) (st' := [.int x1, .int x2]) (by decide +kernel) rfl rfl ⟨trivial, trivial, trivial⟩ ?_
      refine zr_icmp_ne (off := 5) (tgt := 58) (by decide +kernel) (by decide) (fun hc => ?_) (fun hc => ?_)
      · have hf := zift hf hc
        refine zr_run [(.iload_n 3, 0, 0, 0, .null)] [] (WW' := [w_Xx G A K s0, w_Ph G (A 6) s1, w_Ld G (A 2) s2, w_Fk G (A 4) s3]) (lv' := [some (.ref (A 0 0)), some (.int x1), some (.int x2), some (.int x3)]) (pc' := 57) (st' := [.int x3]) (by decide +kernel) rfl rfl ⟨trivial, trivial⟩ ?_
        obtain rfl := Option.some.inj hf
        exact zr_iret (b0 := fun _ => 0) (by decide +kernel) rfl rfl rfl rfl rfl
      · have hf := ziff hf hc
        refine zr_run [(.iinc 2 1, 0, 0, 0, .int (1 : Int32))] [] (WW' := [w_Xx G A K s0, w_Ph G (A 6) s1, w_Ld G (A 2) s2, w_Fk G (A 4) s3]) (lv' := [some (.ref (A 0 0)), some (.int x1), some (.int (x2 + (1 : Int32))), some (.int x3)]) (pc' := 61) (st' := []) (by decide +kernel) rfl rfl ⟨trivial, trivial⟩ ?_
        exact t_X11_said_b61 l G A K W0 r s0 s1 s2 s3 k21 hk21 x1 (x2 + (1 : Int32)) x3 hf
  · have hf := ziff hf hc
    refine zr_run [(.iload_n 1, 0, 0, 0, .null), (.iconst (-1), 0, 0, 0, .int (-1 : Int32))] [] (WW' := [w_Xx G A K s0, w_Ph G (A 6) s1, w_Ld G (A 2) s2, w_Fk G (A 4) s3]) (lv' := [some (.ref (A 0 0)), some (.int x1), some (.int x2), some (.int x3)]) (pc' := 69) (st' := [.int (-1 : Int32), .int x1]) (by decide +kernel) rfl rfl ⟨trivial, trivial, trivial⟩ ?_
    refine zr_icmp_ne (off := 7) (tgt := 76) (by decide +kernel) (by decide) (fun hc => ?_) (fun hc => ?_)
    · have hf := zift hf hc
      refine zr_run [(.iload_n 2, 0, 0, 0, .null)] [] (WW' := [w_Xx G A K s0, w_Ph G (A 6) s1, w_Ld G (A 2) s2, w_Fk G (A 4) s3]) (lv' := [some (.ref (A 0 0)), some (.int x1), some (.int x2), some (.int x3)]) (pc' := 73) (st' := [.int x2]) (by decide +kernel) rfl rfl ⟨trivial, trivial⟩ ?_
      refine zr_goto (off := 4) (tgt := 77) (by decide +kernel) (by decide) ?_
      obtain rfl := Option.some.inj hf
      exact zr_iret (b0 := fun _ => 0) (by decide +kernel) rfl rfl rfl rfl rfl
    · have hf := ziff hf hc
      refine zr_run [(.iconst (-1), 0, 0, 0, .int (-1 : Int32))] [] (WW' := [w_Xx G A K s0, w_Ph G (A 6) s1, w_Ld G (A 2) s2, w_Fk G (A 4) s3]) (lv' := [some (.ref (A 0 0)), some (.int x1), some (.int x2), some (.int x3)]) (pc' := 77) (st' := [.int (-1 : Int32)]) (by decide +kernel) rfl rfl ⟨trivial, trivial⟩ ?_
      obtain rfl := Option.some.inj hf
      exact zr_iret (b0 := fun _ => 0) (by decide +kernel) rfl rfl rfl rfl rfl
theorem t_X11_said_L21 (l : Launch) (G : zj_G) (A : Nat → Nat → Nat) (K : Nat → Nat → Option Nat) (W0 : List va_W) (r : Int32) (s0 : XxT) (s1 : PhT) (s2 : LdT) (s3 : FkT)   : ∀ (n : Nat) (x1 : Int32) (x2 : Int32) (x3 : Int32), f_X11_said_L21 s0 s1 s2 s3 n x1 x2 x3 = some r → zj_J l G M_X11_said W0 (zj_ret G M_X11_said W0 (some (.int r)) (fun _ => [w_Xx G A K s0, w_Ph G (A 6) s1, w_Ld G (A 2) s2, w_Fk G (A 4) s3])) 0 0 [w_Xx G A K s0, w_Ph G (A 6) s1, w_Ld G (A 2) s2, w_Fk G (A 4) s3] [some (.ref (A 0 0)), some (.int x1), some (.int x2), some (.int x3)] 21 [] := by
  intro n
  induction n with
  | zero => intro x1 x2 x3 hf; exact nomatch (show none = some r from hf)
  | succ n ih => intro x1 x2 x3 hf; exact t_X11_said_H21 l G A K W0 r s0 s1 s2 s3  (f_X11_said_L21 s0 s1 s2 s3 n)  ih x1 x2 x3  hf
set_option maxRecDepth 100000 in
set_option maxHeartbeats 4000000 in
theorem c_X11_said (l : Launch) (G : zj_G) (A : Nat → Nat → Nat) (K : Nat → Nat → Option Nat) (s0 : XxT) (s1 : PhT) (s2 : LdT) (s3 : FkT) (x1 : Int32) (r : Int32) (hf : f_X11_said s0 s1 s2 s3 x1 = some r) : zj_C l G M_X11_said yX11_said [w_Xx G A K s0, w_Ph G (A 6) s1, w_Ld G (A 2) s2, w_Fk G (A 4) s3] [.ref (A 0 0), .int x1] (some (.int r)) (fun _ => [w_Xx G A K s0, w_Ph G (A 6) s1, w_Ld G (A 2) s2, w_Fk G (A 4) s3]) := by
  have key : ∀ W0 : List va_W, zj_J l G M_X11_said W0 (zj_ret G M_X11_said W0 (some (.int r)) (fun _ => [w_Xx G A K s0, w_Ph G (A 6) s1, w_Ld G (A 2) s2, w_Fk G (A 4) s3])) 0 0 [w_Xx G A K s0, w_Ph G (A 6) s1, w_Ld G (A 2) s2, w_Fk G (A 4) s3] [some (.ref (A 0 0)), some (.int x1), none, none] 0 [] := by
    intro W0
    unfold f_X11_said at hf
    refine zr_run [(.aload_n 0, 0, 0, 0, .null), (.getfield 39, 0, 0, 5, .null), (.getfield 321, 1, 0, 0, .null)] [] (WW' := [w_Xx G A K s0, w_Ph G (A 6) s1, w_Ld G (A 2) s2, w_Fk G (A 4) s3]) (lv' := [some (.ref (A 0 0)), some (.int x1), none, none]) (pc' := 7) (st' := [.int (Ph_ones s1)]) (by decide +kernel) rfl rfl ⟨trivial, ⟨rfl, rfl, zw_2_154⟩, ⟨rfl, rfl, zw_1_231⟩, trivial⟩ ?_
    refine zr_if_eq (off := 8) (tgt := 15) (by decide +kernel) (by decide) (fun hc => ?_) (fun hc => ?_)
    · have hf := zift hf hc
      refine zr_run [(.iconst (-1), 0, 0, 0, .int (-1 : Int32))] [] (WW' := [w_Xx G A K s0, w_Ph G (A 6) s1, w_Ld G (A 2) s2, w_Fk G (A 4) s3]) (lv' := [some (.ref (A 0 0)), some (.int x1), none, none]) (pc' := 16) (st' := [.int (-1 : Int32)]) (by decide +kernel) rfl rfl ⟨trivial, trivial⟩ ?_
      obtain rfl := Option.some.inj hf
      exact zr_iret (b0 := fun _ => 0) (by decide +kernel) rfl rfl rfl rfl rfl
    · have hf := ziff hf hc
      refine zr_run [(.iload_n 1, 0, 0, 0, .null), (.iconst (-1), 0, 0, 0, .int (-1 : Int32))] [] (WW' := [w_Xx G A K s0, w_Ph G (A 6) s1, w_Ld G (A 2) s2, w_Fk G (A 4) s3]) (lv' := [some (.ref (A 0 0)), some (.int x1), none, none]) (pc' := 12) (st' := [.int (-1 : Int32), .int x1]) (by decide +kernel) rfl rfl ⟨trivial, trivial, trivial⟩ ?_
      refine zr_icmp_ge (off := 5) (tgt := 17) (by decide +kernel) (by decide) (fun hc => ?_) (fun hc => ?_)
      · have hf := zift hf hc
        refine zr_run [(.iconst (-1), 0, 0, 0, .int (-1 : Int32))] [] (WW' := [w_Xx G A K s0, w_Ph G (A 6) s1, w_Ld G (A 2) s2, w_Fk G (A 4) s3]) (lv' := [some (.ref (A 0 0)), some (.int x1), none, none]) (pc' := 16) (st' := [.int (-1 : Int32)]) (by decide +kernel) rfl rfl ⟨trivial, trivial⟩ ?_
        obtain rfl := Option.some.inj hf
        exact zr_iret (b0 := fun _ => 0) (by decide +kernel) rfl rfl rfl rfl rfl
      · have hf := ziff hf hc
        refine zr_run [(.iconst 0, 0, 0, 0, .int (0 : Int32)), (.istore_n 2, 0, 0, 0, .null), (.iconst 0, 0, 0, 0, .int (0 : Int32)), (.istore_n 3, 0, 0, 0, .null)] [] (WW' := [w_Xx G A K s0, w_Ph G (A 6) s1, w_Ld G (A 2) s2, w_Fk G (A 4) s3]) (lv' := [some (.ref (A 0 0)), some (.int x1), some (.int (0 : Int32)), some (.int (0 : Int32))]) (pc' := 21) (st' := []) (by decide +kernel) rfl rfl ⟨trivial, trivial, trivial, trivial, trivial⟩ ?_
        exact t_X11_said_L21 l G A K W0 r s0 s1 s2 s3 zFU x1 (0 : Int32) (0 : Int32) hf
  exact zj_entry [some (.ref (A 0 0)), some (.int x1), none, none] (by decide +kernel) rfl (by decide) (Nat.le_of_ble_eq_true rfl) rfl rfl (key _)
