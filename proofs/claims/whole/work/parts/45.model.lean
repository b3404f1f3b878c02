def M_X12_least_ : zj_M := (RX12, cX12_least_, 1, (some .int), { frames := 0, cells := 0, slots := 0, locals := 0 }, false)
theorem nm_X12_least_ : zj_nm yX12_least_ 0 := ⟨by decide +kernel, by decide +kernel, by decide +kernel⟩
def f_X12_least_  (s0 : MoT)  : Option (Int32 × MoT) := (zlet (Mo_s_thrown s0 (0 : Int32)) fun y1 => some ((Mo_turnedLeast y1), y1))
set_option maxRecDepth 100000 in
set_option maxHeartbeats 4000000 in
theorem c_X12_least_ (l : Launch) (G : zj_G) (a0 : Nat → Nat) (s0 : MoT)  (r : Int32 × MoT) (hf : f_X12_least_ s0 = some r) : zj_C l G M_X12_least_ yX12_least_ [w_Mo G a0 s0] [.ref (a0 0)] (some (.int r.1)) (fun _ => [w_Mo G a0 r.2]) := by
  have key : ∀ W0 : List va_W, zj_J l G M_X12_least_ W0 (zj_ret G M_X12_least_ W0 (some (.int r.1)) (fun _ => [w_Mo G a0 r.2])) 0 0 [w_Mo G a0 s0] [some (.ref (a0 0))] 0 [] := by
    intro W0
    unfold f_X12_least_ at hf
    obtain ⟨y1, e1, hf⟩ := zlet_of hf
    refine zr_run [(.aload_n 0, 0, 0, 0, .null), (.iconst 0, 0, 0, 0, .int (0 : Int32)), (.putfield 91, 0, 0, 0, .null)] [] (WW' := [w_Mo G a0 (Mo_s_thrown s0 (0 : Int32))]) (lv' := [some (.ref (a0 0))]) (pc' := 5) (st' := []) (by decide +kernel) rfl rfl ⟨trivial, trivial, ⟨rfl, rfl, rfl, trivial, rfl, rfl, zw_6_29⟩, trivial⟩ ?_
    refine zr_eq (WW2 := [w_Mo G a0 y1]) (lv2 := [some (.ref (a0 0))]) (st2 := []) (by rw [e1]) rfl rfl ?_
    refine zr_run [(.aload_n 0, 0, 0, 0, .null), (.getfield 73, 0, 0, 41, .null)] [] (WW' := [w_Mo G a0 y1]) (lv' := [some (.ref (a0 0))]) (pc' := 9) (st' := [.int (Mo_turnedLeast y1)]) (by decide +kernel) rfl rfl ⟨trivial, ⟨rfl, rfl, zw_6_70⟩, trivial⟩ ?_
    obtain rfl := Option.some.inj hf
    exact zr_iret (b0 := fun _ => 0) (by decide +kernel) rfl rfl rfl rfl rfl
  exact zj_entry [some (.ref (a0 0))] (by decide +kernel) rfl (by decide) (Nat.le_of_ble_eq_true rfl) rfl rfl (key _)
def M_X12_greatest : zj_M := (RX12, cX12_greatest, 1, (some .int), { frames := 0, cells := 0, slots := 0, locals := 0 }, false)
theorem nm_X12_greatest : zj_nm yX12_greatest 0 := ⟨by decide +kernel, by decide +kernel, by decide +kernel⟩
def f_X12_greatest  (s0 : MoT)  : Option (Int32 × MoT) := (zlet (Mo_s_thrown s0 (0 : Int32)) fun y1 => some ((Mo_turnedGreatest y1), y1))
set_option maxRecDepth 100000 in
set_option maxHeartbeats 4000000 in
theorem c_X12_greatest (l : Launch) (G : zj_G) (a0 : Nat → Nat) (s0 : MoT)  (r : Int32 × MoT) (hf : f_X12_greatest s0 = some r) : zj_C l G M_X12_greatest yX12_greatest [w_Mo G a0 s0] [.ref (a0 0)] (some (.int r.1)) (fun _ => [w_Mo G a0 r.2]) := by
  have key : ∀ W0 : List va_W, zj_J l G M_X12_greatest W0 (zj_ret G M_X12_greatest W0 (some (.int r.1)) (fun _ => [w_Mo G a0 r.2])) 0 0 [w_Mo G a0 s0] [some (.ref (a0 0))] 0 [] := by
    intro W0
    unfold f_X12_greatest at hf
    obtain ⟨y1, e1, hf⟩ := zlet_of hf
    refine zr_run [(.aload_n 0, 0, 0, 0, .null), (.iconst 0, 0, 0, 0, .int (0 : Int32)), (.putfield 91, 0, 0, 0, .null)] [] (WW' := [w_Mo G a0 (Mo_s_thrown s0 (0 : Int32))]) (lv' := [some (.ref (a0 0))]) (pc' := 5) (st' := []) (by decide +kernel) rfl rfl ⟨trivial, trivial, ⟨rfl, rfl, rfl, trivial, rfl, rfl, zw_6_29⟩, trivial⟩ ?_
    refine zr_eq (WW2 := [w_Mo G a0 y1]) (lv2 := [some (.ref (a0 0))]) (st2 := []) (by rw [e1]) rfl rfl ?_
    refine zr_run [(.aload_n 0, 0, 0, 0, .null), (.getfield 76, 0, 0, 42, .null)] [] (WW' := [w_Mo G a0 y1]) (lv' := [some (.ref (a0 0))]) (pc' := 9) (st' := [.int (Mo_turnedGreatest y1)]) (by decide +kernel) rfl rfl ⟨trivial, ⟨rfl, rfl, zw_6_71⟩, trivial⟩ ?_
    obtain rfl := Option.some.inj hf
    exact zr_iret (b0 := fun _ => 0) (by decide +kernel) rfl rfl rfl rfl rfl
  exact zj_entry [some (.ref (a0 0))] (by decide +kernel) rfl (by decide) (Nat.le_of_ble_eq_true rfl) rfl rfl (key _)
def M_X12_there : zj_M := (RX12, cX12_there, 3, (some .int), { frames := 2, cells := 0, slots := 0, locals := 43 }, false)
theorem nm_X12_there : zj_nm yX12_there 1 := ⟨by decide +kernel, by decide +kernel, by decide +kernel⟩
def f_X12_there_b118  (s0 : MoT)   : Option (Int32 × MoT) := some ((-1 : Int32), s0)
def f_X12_there  (s0 : MoT) (x1 : Int32) : Option (Int32 × MoT) := (zlet (Mo_s_thrown s0 (0 : Int32)) fun y1 => ((f_X12_isMan y1 x1).bind fun q2 => (if q2 = 0 then some ((-1 : Int32), y1) else (if zb_in ((444 : Int32) + x1) 758 = true then (if ((Mo_now y1) ((444 : Int32) + x1).toNatClampNeg) = (1 : Int32) then (if zb_in ((492 : Int32) + x1) 758 = true then (if ((Mo_now y1) ((492 : Int32) + x1).toNatClampNeg) = 0 then some ((-1 : Int32), y1) else (if zb_in ((480 : Int32) + x1) 758 = true then (if zb_in ((474 : Int32) + x1) 758 = true then (if zb_in ((492 : Int32) + x1) 758 = true then (if zb_in ((492 : Int32) + x1) 758 = true then (if zb_nz ((Mo_now y1) ((492 : Int32) + x1).toNatClampNeg) = true then (zlet ((((((Mo_now y1) ((480 : Int32) + x1).toNatClampNeg) - ((Mo_now y1) ((474 : Int32) + x1).toNatClampNeg)) + ((Mo_now y1) ((492 : Int32) + x1).toNatClampNeg)) - (1 : Int32)) / ((Mo_now y1) ((492 : Int32) + x1).toNatClampNeg)) fun y10 => (if zb_in ((486 : Int32) + x1) 758 = true then (if ((Mo_now y1) ((486 : Int32) + x1).toNatClampNeg) < y10 then f_X12_there_b118 y1 else (if (400 : Int32) < (((Mo_now y1) (443 : Int32).toNatClampNeg) + y10) then f_X12_there_b118 y1 else some (((((Mo_now y1) (443 : Int32).toNatClampNeg) + y10) - (1 : Int32)), y1))) else none)) else none) else none) else none) else none) else none)) else none) else some ((-1 : Int32), y1)) else none))))
set_option maxRecDepth 100000 in
set_option maxHeartbeats 4000000 in
theorem t_X12_there_b118 (l : Launch) (G : zj_G) (a0 : Nat → Nat) (W0 : List va_W) (r : Int32 × MoT) (s0 : MoT)    (hf : f_X12_there_b118 s0 = some r) : zj_J l G M_X12_there W0 (zj_ret G M_X12_there W0 (some (.int r.1)) (fun _ => [w_Mo G a0 r.2])) 0 0 [w_Mo G a0 s0] [none, none, none] 118 [] := by
  unfold f_X12_there_b118 at hf
  refine zr_run [(.iconst (-1), 0, 0, 0, .int (-1 : Int32))] [] (WW' := [w_Mo G a0 s0]) (lv' := [none, none, none]) (pc' := 119) (st' := [.int (-1 : Int32)]) (by decide +kernel) rfl rfl ⟨trivial, trivial⟩ ?_
  refine zr_goto (off := 15) (tgt := 134) (by decide +kernel) (by decide) ?_
  obtain rfl := Option.some.inj hf
  exact zr_iret (b0 := fun _ => 0) (by decide +kernel) rfl rfl rfl rfl rfl
set_option maxRecDepth 100000 in
set_option maxHeartbeats 4000000 in
theorem c_X12_there (l : Launch) (G : zj_G) (a0 : Nat → Nat) (s0 : MoT) (x1 : Int32) (r : Int32 × MoT) (hf : f_X12_there s0 x1 = some r) : zj_C l G M_X12_there yX12_there [w_Mo G a0 s0] [.ref (a0 0), .int x1] (some (.int r.1)) (fun _ => [w_Mo G a0 r.2]) := by
  have key : ∀ W0 : List va_W, zj_J l G M_X12_there W0 (zj_ret G M_X12_there W0 (some (.int r.1)) (fun _ => [w_Mo G a0 r.2])) 0 0 [w_Mo G a0 s0] [some (.ref (a0 0)), some (.int x1), none] 0 [] := by
    intro W0
    unfold f_X12_there at hf
    obtain ⟨y1, e1, hf⟩ := zlet_of hf
    refine zr_run [(.aload_n 0, 0, 0, 0, .null), (.iconst 0, 0, 0, 0, .int (0 : Int32)), (.putfield 91, 0, 0, 0, .null)] [] (WW' := [w_Mo G a0 (Mo_s_thrown s0 (0 : Int32))]) (lv' := [some (.ref (a0 0)), some (.int x1), none]) (pc' := 5) (st' := []) (by decide +kernel) rfl rfl ⟨trivial, trivial, ⟨rfl, rfl, rfl, trivial, rfl, rfl, zw_6_29⟩, trivial⟩ ?_
    refine zr_eq (WW2 := [w_Mo G a0 y1]) (lv2 := [some (.ref (a0 0)), some (.int x1), none]) (st2 := []) (by rw [e1]) rfl rfl ?_
    obtain ⟨q2, e2, hf⟩ := zbi_of hf
    refine zr_run [(.aload_n 0, 0, 0, 0, .null), (.iload_n 1, 0, 0, 0, .null)] [] (WW' := [w_Mo G a0 y1]) (lv' := [some (.ref (a0 0)), some (.int x1), none]) (pc' := 7) (st' := [.int x1, .ref (a0 0)]) (by decide +kernel) rfl rfl ⟨trivial, trivial, trivial⟩ ?_
    refine zr_callV (c_X12_isMan l G a0 y1 x1 q2 e2) (WW' := fun _ => [w_Mo G a0 y1]) (st := []) (st' := [.int q2]) [0] rfl rfl (fun _ => Nat.le_of_ble_eq_true rfl) (fun _ => rfl) rfl rfl nm_X12_isMan zw_7_128 zw_7_130 zw_0_76 zw_1_18 zw_7_131 rfl rfl rfl (Nat.le_of_ble_eq_true rfl) ⟨Nat.le_of_ble_eq_true rfl, Nat.le_of_ble_eq_true rfl⟩ (by decide +kernel) (fun _ => ?_)
    refine zr_if_eq (off := 30) (tgt := 40) (by decide +kernel) (by decide) (fun hc => ?_) (fun hc => ?_)
    · have hf := zift hf hc
      refine zr_run [(.iconst (-1), 0, 0, 0, .int (-1 : Int32))] [] (WW' := [w_Mo G a0 y1]) (lv' := [some (.ref (a0 0)), some (.int x1), none]) (pc' := 41) (st' := [.int (-1 : Int32)]) (by decide +kernel) rfl rfl ⟨trivial, trivial⟩ ?_
      obtain rfl := Option.some.inj hf
      exact zr_iret (b0 := fun _ => 0) (by decide +kernel) rfl rfl rfl rfl rfl
    · have hf := ziff hf hc
      obtain ⟨h3, hf⟩ := zck_of hf
      refine zr_run [(.aload_n 0, 0, 0, 0, .null), (.getfield 13, 0, 0, 14, .null), (.sipush 444, 0, 0, 0, .int (444 : Int32)), (.iload_n 1, 0, 0, 0, .null), (.iadd, 0, 0, 0, .null), (.iaload, 0, 2, 0, .null), (.iconst 1, 0, 0, 0, .int (1 : Int32))] [] (WW' := [w_Mo G a0 y1]) (lv' := [some (.ref (a0 0)), some (.int x1), none]) (pc' := 24) (st' := [.int (1 : Int32), .int ((Mo_now y1) ((444 : Int32) + x1).toNatClampNeg)]) (by decide +kernel) rfl rfl ⟨trivial, ⟨rfl, rfl, zw_6_43⟩, trivial, trivial, trivial, ⟨rfl, rfl, h3⟩, trivial, trivial⟩ ?_
      refine zr_icmp_ne (off := 16) (tgt := 40) (by decide +kernel) (by decide) (fun hc => ?_) (fun hc => ?_)
      · have hf := zift hf hc
        obtain ⟨h4, hf⟩ := zck_of hf
        refine zr_run [(.aload_n 0, 0, 0, 0, .null), (.getfield 13, 0, 0, 14, .null), (.sipush 492, 0, 0, 0, .int (492 : Int32)), (.iload_n 1, 0, 0, 0, .null), (.iadd, 0, 0, 0, .null), (.iaload, 0, 2, 0, .null)] [] (WW' := [w_Mo G a0 y1]) (lv' := [some (.ref (a0 0)), some (.int x1), none]) (pc' := 37) (st' := [.int ((Mo_now y1) ((492 : Int32) + x1).toNatClampNeg)]) (by decide +kernel) rfl rfl ⟨trivial, ⟨rfl, rfl, zw_6_43⟩, trivial, trivial, trivial, ⟨rfl, rfl, h4⟩, trivial⟩ ?_
        refine zr_if_ne (off := 5) (tgt := 42) (by decide +kernel) (by decide) (fun hc => ?_) (fun hc => ?_)
        · have hf := zift hf hc
          refine zr_run [(.iconst (-1), 0, 0, 0, .int (-1 : Int32))] [] (WW' := [w_Mo G a0 y1]) (lv' := [some (.ref (a0 0)), some (.int x1), none]) (pc' := 41) (st' := [.int (-1 : Int32)]) (by decide +kernel) rfl rfl ⟨trivial, trivial⟩ ?_
          obtain rfl := Option.some.inj hf
          exact zr_iret (b0 := fun _ => 0) (by decide +kernel) rfl rfl rfl rfl rfl
        · have hf := ziff hf hc
          obtain ⟨h5, hf⟩ := zck_of hf
          obtain ⟨h6, hf⟩ := zck_of hf
          obtain ⟨h7, hf⟩ := zck_of hf
          obtain ⟨h8, hf⟩ := zck_of hf
          obtain ⟨h9, hf⟩ := zck_of hf
          obtain ⟨y10, e10, hf⟩ := zlet_of hf
          refine zr_run [(.aload_n 0, 0, 0, 0, .null), (.getfield 13, 0, 0, 14, .null), (.sipush 480, 0, 0, 0, .int (480 : Int32)), (.iload_n 1, 0, 0, 0, .null), (.iadd, 0, 0, 0, .null), (.iaload, 0, 2, 0, .null), (.aload_n 0, 0, 0, 0, .null), (.getfield 13, 0, 0, 14, .null), (.sipush 474, 0, 0, 0, .int (474 : Int32)), (.iload_n 1, 0, 0, 0, .null), (.iadd, 0, 0, 0, .null), (.iaload, 0, 2, 0, .null), (.isub, 0, 0, 0, .null), (.aload_n 0, 0, 0, 0, .null), (.getfield 13, 0, 0, 14, .null), (.sipush 492, 0, 0, 0, .int (492 : Int32)), (.iload_n 1, 0, 0, 0, .null), (.iadd, 0, 0, 0, .null), (.iaload, 0, 2, 0, .null), (.iadd, 0, 0, 0, .null), (.iconst 1, 0, 0, 0, .int (1 : Int32)), (.isub, 0, 0, 0, .null), (.aload_n 0, 0, 0, 0, .null), (.getfield 13, 0, 0, 14, .null), (.sipush 492, 0, 0, 0, .int (492 : Int32)), (.iload_n 1, 0, 0, 0, .null), (.iadd, 0, 0, 0, .null), (.iaload, 0, 2, 0, .null), (.idiv, 0, 0, 0, .null), (.istore_n 2, 0, 0, 0, .null)] [] (WW' := [w_Mo G a0 y1]) (lv' := [some (.ref (a0 0)), some (.int x1), some (.int ((((((Mo_now y1) ((480 : Int32) + x1).toNatClampNeg) - ((Mo_now y1) ((474 : Int32) + x1).toNatClampNeg)) + ((Mo_now y1) ((492 : Int32) + x1).toNatClampNeg)) - (1 : Int32)) / ((Mo_now y1) ((492 : Int32) + x1).toNatClampNeg)))]) (pc' := 88) (st' := []) (by decide +kernel) rfl rfl ⟨trivial, ⟨rfl, rfl, zw_6_43⟩, trivial, trivial, trivial, ⟨rfl, rfl, h5⟩, trivial, ⟨rfl, rfl, zw_6_43⟩, trivial, trivial, trivial, ⟨rfl, rfl, h6⟩, trivial, trivial, ⟨rfl, rfl, zw_6_43⟩, trivial, trivial, trivial, ⟨rfl, rfl, h7⟩, trivial, trivial, trivial, trivial, ⟨rfl, rfl, zw_6_43⟩, trivial, trivial, trivial, ⟨rfl, rfl, h8⟩, h9, trivial, trivial⟩ ?_
          refine zr_eq (WW2 := [w_Mo G a0 y1]) (lv2 := [some (.ref (a0 0)), some (.int x1), some (.int y10)]) (st2 := []) rfl (by rw [e10]) rfl ?_
          obtain ⟨h11, hf⟩ := zck_of hf
          refine zr_run [(.iload_n 2, 0, 0, 0, .null), (.aload_n 0, 0, 0, 0, .null), (.getfield 13, 0, 0, 14, .null), (.sipush 486, 0, 0, 0, .int (486 : Int32)), (.iload_n 1, 0, 0, 0, .null), (.iadd, 0, 0, 0, .null), (.iaload, 0, 2, 0, .null)] [] (WW' := [w_Mo G a0 y1]) (lv' := [some (.ref (a0 0)), some (.int x1), some (.int y10)]) (pc' := 99) (st' := [.int ((Mo_now y1) ((486 : Int32) + x1).toNatClampNeg), .int y10]) (by decide +kernel) rfl rfl ⟨trivial, trivial, ⟨rfl, rfl, zw_6_43⟩, trivial, trivial, trivial, ⟨rfl, rfl, h11⟩, trivial⟩ ?_
          refine zr_icmp_gt (off := 19) (tgt := 118) (by decide +kernel) (by decide) (fun hc => ?_) (fun hc => ?_)
          · have hf := zift hf hc
            refine zr_run [] [0, 1, 2] (WW' := [w_Mo G a0 y1]) (lv' := [none, none, none]) (pc' := 118) (st' := []) (by decide +kernel) rfl rfl trivial ?_
            exact t_X12_there_b118 l G a0 W0 r y1 hf
          · have hf := ziff hf hc
            refine zr_run [(.aload_n 0, 0, 0, 0, .null), (.getfield 13, 0, 0, 14, .null), (.sipush 443, 0, 0, 0, .int (443 : Int32)), (.iaload, 0, 2, 0, .null), (.iload_n 2, 0, 0, 0, .null), (.iadd, 0, 0, 0, .null), (.sipush 400, 0, 0, 0, .int (400 : Int32))] [] (WW' := [w_Mo G a0 y1]) (lv' := [some (.ref (a0 0)), some (.int x1), some (.int y10)]) (pc' := 115) (st' := [.int (400 : Int32), .int (((Mo_now y1) (443 : Int32).toNatClampNeg) + y10)]) (by decide +kernel) rfl rfl ⟨trivial, ⟨rfl, rfl, zw_6_43⟩, trivial, ⟨rfl, rfl, (by decide)⟩, trivial, trivial, trivial, trivial⟩ ?_
            refine zr_icmp_le (off := 7) (tgt := 122) (by decide +kernel) (by decide) (fun hc => ?_) (fun hc => ?_)
            · have hf := zift hf hc
              refine zr_run [] [0, 1, 2] (WW' := [w_Mo G a0 y1]) (lv' := [none, none, none]) (pc' := 118) (st' := []) (by decide +kernel) rfl rfl trivial ?_
              exact t_X12_there_b118 l G a0 W0 r y1 hf
            · have hf := ziff hf hc
              refine zr_run [(.aload_n 0, 0, 0, 0, .null), (.getfield 13, 0, 0, 14, .null), (.sipush 443, 0, 0, 0, .int (443 : Int32)), (.iaload, 0, 2, 0, .null), (.iload_n 2, 0, 0, 0, .null), (.iadd, 0, 0, 0, .null), (.iconst 1, 0, 0, 0, .int (1 : Int32)), (.isub, 0, 0, 0, .null)] [] (WW' := [w_Mo G a0 y1]) (lv' := [some (.ref (a0 0)), some (.int x1), some (.int y10)]) (pc' := 134) (st' := [.int ((((Mo_now y1) (443 : Int32).toNatClampNeg) + y10) - (1 : Int32))]) (by decide +kernel) rfl rfl ⟨trivial, ⟨rfl, rfl, zw_6_43⟩, trivial, ⟨rfl, rfl, (by decide)⟩, trivial, trivial, trivial, trivial, trivial⟩ ?_
              obtain rfl := Option.some.inj hf
              exact zr_iret (b0 := fun _ => 0) (by decide +kernel) rfl rfl rfl rfl rfl
      · have hf := ziff hf hc
        refine zr_run [(.iconst (-1), 0, 0, 0, .int (-1 : Int32))] [] (WW' := [w_Mo G a0 y1]) (lv' := [some (.ref (a0 0)), some (.int x1), none]) (pc' := 41) (st' := [.int (-1 : Int32)]) (by decide +kernel) rfl rfl ⟨trivial, trivial⟩ ?_
        obtain rfl := Option.some.inj hf
        exact zr_iret (b0 := fun _ => 0) (by decide +kernel) rfl rfl rfl rfl rfl
  exact zj_entry [some (.ref (a0 0)), some (.int x1), none] (by decide +kernel) rfl (by decide) (Nat.le_of_ble_eq_true rfl) rfl rfl (key _)
def M_X12_writeNext : zj_M := (RX12, cX12_writeNext, 3, none, { frames := 22, cells := 0, slots := 0, locals := 483 }, false)
theorem nm_X12_writeNext : zj_nm yX12_writeNext 1 := ⟨by decide +kernel, by decide +kernel, by decide +kernel⟩
def f_X12_writeNext  (s0 : MoT) (x1 : Int64) : Option (MoT) := ((f_X12_write s0 (32 : Int32)).bind fun q1 => ((f_X12_writeWord 20 q1 x1).bind fun q2 => some q2))
set_option maxRecDepth 100000 in
set_option maxHeartbeats 4000000 in
theorem c_X12_writeNext (l : Launch) (G : zj_G) (a0 : Nat → Nat) (s0 : MoT) (x1 : Int64) (r : MoT) (hf : f_X12_writeNext s0 x1 = some r) : zj_C l G M_X12_writeNext yX12_writeNext [w_Mo G a0 s0] [.ref (a0 0), .long x1] (none) (fun _ => [w_Mo G a0 r]) := by
  have key : ∀ W0 : List va_W, zj_J l G M_X12_writeNext W0 (zj_ret G M_X12_writeNext W0 (none) (fun _ => [w_Mo G a0 r])) 0 0 [w_Mo G a0 s0] [some (.ref (a0 0)), some (.long x1), none] 0 [] := by
    intro W0
    unfold f_X12_writeNext at hf
    obtain ⟨q1, e1, hf⟩ := zbi_of hf
    refine zr_run [(.aload_n 0, 0, 0, 0, .null), (.bipush 32, 0, 0, 0, .int (32 : Int32))] [] (WW' := [w_Mo G a0 s0]) (lv' := [some (.ref (a0 0)), some (.long x1), none]) (pc' := 3) (st' := [.int (32 : Int32), .ref (a0 0)]) (by decide +kernel) rfl rfl ⟨trivial, trivial, trivial⟩ ?_
    refine zr_callV (c_X12_write l G a0 s0 (32 : Int32) q1 e1) (WW' := fun _ => [w_Mo G a0 q1]) (st := []) (st' := []) [0] rfl rfl (fun _ => Nat.le_of_ble_eq_true rfl) (fun _ => rfl) rfl rfl nm_X12_write zw_8_103 zw_8_105 zw_0_103 zw_1_18 zw_8_106 rfl rfl rfl (Nat.le_of_ble_eq_true rfl) ⟨Nat.le_of_ble_eq_true rfl, Nat.le_of_ble_eq_true rfl⟩ (by decide +kernel) (fun _ => ?_)
    obtain ⟨q2, e2, hf⟩ := zbi_of hf
    refine zr_run [(.aload_n 0, 0, 0, 0, .null), (.lload_n 1, 0, 0, 0, .null)] [] (WW' := [w_Mo G a0 q1]) (lv' := [some (.ref (a0 0)), some (.long x1), none]) (pc' := 8) (st' := [.long x1, .ref (a0 0)]) (by decide +kernel) rfl rfl ⟨trivial, trivial, trivial⟩ ?_
    refine zr_callV (c_X12_writeWord l G 20 a0 q1 x1 q2 e2) (WW' := fun _ => [w_Mo G a0 q2]) (st := []) (st' := []) [0] rfl rfl (fun _ => Nat.le_of_ble_eq_true rfl) (fun _ => rfl) rfl rfl nm_X12_writeWord zw_8_99 zw_8_101 zw_0_102 zw_1_18 zw_8_102 rfl rfl rfl (Nat.le_of_ble_eq_true rfl) ⟨Nat.le_of_ble_eq_true rfl, Nat.le_of_ble_eq_true rfl⟩ (by decide +kernel) (fun _ => ?_)
    obtain rfl := Option.some.inj hf
    exact zr_vret (b0 := fun _ => 0) (by decide +kernel) rfl rfl rfl rfl rfl
  exact zj_entry [some (.ref (a0 0)), some (.long x1), none] (by decide +kernel) rfl (by decide) (Nat.le_of_ble_eq_true rfl) rfl rfl (key _)
def M_X12_oath : zj_M := (RX12, cX12_oath, 2, (some .int), { frames := 23, cells := 0, slots := 0, locals := 505 }, false)
theorem nm_X12_oath : zj_nm yX12_oath 1 := ⟨by decide +kernel, by decide +kernel, by decide +kernel⟩
def f_X12_oath_b206  (s0 : MoT)  (z0 : Int32) : Option (Int32 × MoT) := ((f_X12_wordOf z0).bind fun q25 => ((f_X12_writeNext s0 q25).bind fun q26 => some ((Mo_texts q26), q26)))
def f_X12_oath  (s0 : MoT) (x1 : Int32) : Option (Int32 × MoT) := (zlet (Mo_s_thrown s0 (0 : Int32)) fun y1 => ((f_X12_isMan y1 x1).bind fun q2 => (if q2 = 0 then some ((-1 : Int32), y1) else (zlet (Mo_s_texts y1 (0 : Int32)) fun y3 => (if zb_in ((10 : Int32) + x1) 16 = true then ((f_X12_writeWord 20 y3 ((Mo_name y3) ((10 : Int32) + x1).toNatClampNeg)).bind fun q5 => (if zb_in ((444 : Int32) + x1) 758 = true then (if ((Mo_now q5) ((444 : Int32) + x1).toNatClampNeg) = (0 : Int32) then ((f_X12_spelt (105 : Int32) (110 : Int32) (0 : Int32) (0 : Int32) (0 : Int32) (0 : Int32)).bind fun q7 => ((f_X12_writeNext q5 q7).bind fun q8 => (if zb_in ((468 : Int32) + x1) 758 = true then (if zb_in ((Mo_now q8) ((468 : Int32) + x1).toNatClampNeg) 16 = true then ((f_X12_writeNext q8 ((Mo_name q8) ((Mo_now q8) ((468 : Int32) + x1).toNatClampNeg).toNatClampNeg)).bind fun q11 => some ((Mo_texts q11), q11)) else none) else none))) else (if ((Mo_now q5) ((444 : Int32) + x1).toNatClampNeg) = (1 : Int32) then ((f_X12_wordOf (22 : Int32)).bind fun q12 => ((f_X12_writeNext q5 q12).bind fun q13 => (if zb_in ((462 : Int32) + x1) 758 = true then (if zb_in ((Mo_now q13) ((462 : Int32) + x1).toNatClampNeg) 16 = true then ((f_X12_writeNext q13 ((Mo_name q13) ((Mo_now q13) ((462 : Int32) + x1).toNatClampNeg).toNatClampNeg)).bind fun q16 => ((f_X12_write q16 (32 : Int32)).bind fun q17 => (if zb_in ((486 : Int32) + x1) 758 = true then ((f_X12_writeNumber 20 q17 ((Mo_now q17) ((486 : Int32) + x1).toNatClampNeg)).bind fun q19 => some ((Mo_texts q19), q19)) else none))) else none) else none))) else (if ((Mo_now q5) ((444 : Int32) + x1).toNatClampNeg) = (2 : Int32) then ((f_X12_wordOf (17 : Int32)).bind fun q20 => ((f_X12_writeNext q5 q20).bind fun q21 => some ((Mo_texts q21), q21))) else (if ((Mo_now q5) ((444 : Int32) + x1).toNatClampNeg) = (3 : Int32) then ((f_X12_wordOf (18 : Int32)).bind fun q22 => ((f_X12_writeNext q5 q22).bind fun q23 => some ((Mo_texts q23), q23))) else (if zb_in ((444 : Int32) + x1) 758 = true then (if ((Mo_now q5) ((444 : Int32) + x1).toNatClampNeg) = (4 : Int32) then f_X12_oath_b206 q5 (19 : Int32) else f_X12_oath_b206 q5 (20 : Int32)) else none))))) else none)) else none)))))
set_option maxRecDepth 100000 in
set_option maxHeartbeats 4000000 in
theorem t_X12_oath_b206 (l : Launch) (G : zj_G) (a0 : Nat → Nat) (W0 : List va_W) (r : Int32 × MoT) (s0 : MoT)   (z0 : Int32) (hf : f_X12_oath_b206 s0 z0 = some r) : zj_J l G M_X12_oath W0 (zj_ret G M_X12_oath W0 (some (.int r.1)) (fun _ => [w_Mo G a0 r.2])) 0 0 [w_Mo G a0 s0] [some (.ref (a0 0)), none] 206 [.int z0, .ref (a0 0)] := by
  unfold f_X12_oath_b206 at hf
  obtain ⟨q25, e25, hf⟩ := zbi_of hf
  refine zr_callS (c_X12_wordOf l G z0 q25 e25) (WW' := fun _ => [w_Mo G a0 s0]) (st := [.ref (a0 0)]) (st' := [.long q25, .ref (a0 0)]) [] rfl rfl (fun _ => Nat.le_of_ble_eq_true rfl) (fun _ => rfl) rfl rfl nm_X12_wordOf zw_7_5 zw_7_6 zw_1_18 zw_7_7 rfl (Nat.le_of_ble_eq_true rfl) ⟨Nat.le_of_ble_eq_true rfl, Nat.le_of_ble_eq_true rfl⟩ (by decide +kernel) (fun _ => ?_)
  obtain ⟨q26, e26, hf⟩ := zbi_of hf
  refine zr_callV (c_X12_writeNext l G a0 s0 q25 q26 e26) (WW' := fun _ => [w_Mo G a0 q26]) (st := []) (st' := []) [0] rfl rfl (fun _ => Nat.le_of_ble_eq_true rfl) (fun _ => rfl) rfl rfl nm_X12_writeNext zw_8_107 zw_8_109 zw_0_104 zw_1_18 zw_8_110 rfl rfl rfl (Nat.le_of_ble_eq_true rfl) ⟨Nat.le_of_ble_eq_true rfl, Nat.le_of_ble_eq_true rfl⟩ (by decide +kernel) (fun _ => ?_)
  refine zr_run [(.aload_n 0, 0, 0, 0, .null), (.getfield 381, 0, 0, 44, .null)] [] (WW' := [w_Mo G a0 q26]) (lv' := [some (.ref (a0 0)), none]) (pc' := 216) (st' := [.int (Mo_texts q26)]) (by decide +kernel) rfl rfl ⟨trivial, ⟨rfl, rfl, zw_6_73⟩, trivial⟩ ?_
  obtain rfl := Option.some.inj hf
  exact zr_iret (b0 := fun _ => 0) (by decide +kernel) rfl rfl rfl rfl rfl
set_option maxRecDepth 100000 in
set_option maxHeartbeats 4000000 in
theorem c_X12_oath (l : Launch) (G : zj_G) (a0 : Nat → Nat) (s0 : MoT) (x1 : Int32) (r : Int32 × MoT) (hf : f_X12_oath s0 x1 = some r) : zj_C l G M_X12_oath yX12_oath [w_Mo G a0 s0] [.ref (a0 0), .int x1] (some (.int r.1)) (fun _ => [w_Mo G a0 r.2]) := by
  have key : ∀ W0 : List va_W, zj_J l G M_X12_oath W0 (zj_ret G M_X12_oath W0 (some (.int r.1)) (fun _ => [w_Mo G a0 r.2])) 0 0 [w_Mo G a0 s0] [some (.ref (a0 0)), some (.int x1)] 0 [] := by
    intro W0
    unfold f_X12_oath at hf
    obtain ⟨y1, e1, hf⟩ := zlet_of hf
    refine zr_run [(.aload_n 0, 0, 0, 0, .null), (.iconst 0, 0, 0, 0, .int (0 : Int32)), (.putfield 91, 0, 0, 0, .null)] [] (WW' := [w_Mo G a0 (Mo_s_thrown s0 (0 : Int32))]) (lv' := [some (.ref (a0 0)), some (.int x1)]) (pc' := 5) (st' := []) (by decide +kernel) rfl rfl ⟨trivial, trivial, ⟨rfl, rfl, rfl, trivial, rfl, rfl, zw_6_29⟩, trivial⟩ ?_
    refine zr_eq (WW2 := [w_Mo G a0 y1]) (lv2 := [some (.ref (a0 0)), some (.int x1)]) (st2 := []) (by rw [e1]) rfl rfl ?_
    obtain ⟨q2, e2, hf⟩ := zbi_of hf
    refine zr_run [(.aload_n 0, 0, 0, 0, .null), (.iload_n 1, 0, 0, 0, .null)] [] (WW' := [w_Mo G a0 y1]) (lv' := [some (.ref (a0 0)), some (.int x1)]) (pc' := 7) (st' := [.int x1, .ref (a0 0)]) (by decide +kernel) rfl rfl ⟨trivial, trivial, trivial⟩ ?_
    refine zr_callV (c_X12_isMan l G a0 y1 x1 q2 e2) (WW' := fun _ => [w_Mo G a0 y1]) (st := []) (st' := [.int q2]) [0] rfl rfl (fun _ => Nat.le_of_ble_eq_true rfl) (fun _ => rfl) rfl rfl nm_X12_isMan zw_7_128 zw_7_130 zw_0_76 zw_1_18 zw_7_131 rfl rfl rfl (Nat.le_of_ble_eq_true rfl) ⟨Nat.le_of_ble_eq_true rfl, Nat.le_of_ble_eq_true rfl⟩ (by decide +kernel) (fun _ => ?_)
    refine zr_if_ne (off := 5) (tgt := 15) (by decide +kernel) (by decide) (fun hc => ?_) (fun hc => ?_)
    · have hf := zift hf hc
      refine zr_run [(.iconst (-1), 0, 0, 0, .int (-1 : Int32))] [] (WW' := [w_Mo G a0 y1]) (lv' := [some (.ref (a0 0)), some (.int x1)]) (pc' := 14) (st' := [.int (-1 : Int32)]) (by decide +kernel) rfl rfl ⟨trivial, trivial⟩ ?_
      obtain rfl := Option.some.inj hf
      exact zr_iret (b0 := fun _ => 0) (by decide +kernel) rfl rfl rfl rfl rfl
    · have hf := ziff hf hc
      obtain ⟨y3, e3, hf⟩ := zlet_of hf
      refine zr_run [(.aload_n 0, 0, 0, 0, .null), (.iconst 0, 0, 0, 0, .int (0 : Int32)), (.putfield 381, 0, 0, 44, .null)] [] (WW' := [w_Mo G a0 (Mo_s_texts y1 (0 : Int32))]) (lv' := [some (.ref (a0 0)), some (.int x1)]) (pc' := 20) (st' := []) (by decide +kernel) rfl rfl ⟨trivial, trivial, ⟨rfl, rfl, rfl, trivial, rfl, rfl, zw_6_73⟩, trivial⟩ ?_
      refine zr_eq (WW2 := [w_Mo G a0 y3]) (lv2 := [some (.ref (a0 0)), some (.int x1)]) (st2 := []) (by rw [e3]) rfl rfl ?_
      obtain ⟨h4, hf⟩ := zck_of hf
      obtain ⟨q5, e5, hf⟩ := zbi_of hf
      refine zr_run [(.aload_n 0, 0, 0, 0, .null), (.aload_n 0, 0, 0, 0, .null), (.getfield 28, 0, 0, 19, .null), (.bipush 10, 0, 0, 0, .int (10 : Int32)), (.iload_n 1, 0, 0, 0, .null), (.iadd, 0, 0, 0, .null), (.laload, 0, 7, 0, .null)] [] (WW' := [w_Mo G a0 y3]) (lv' := [some (.ref (a0 0)), some (.int x1)]) (pc' := 30) (st' := [.long ((Mo_name y3) ((10 : Int32) + x1).toNatClampNeg), .ref (a0 0)]) (by decide +kernel) rfl rfl ⟨trivial, trivial, ⟨rfl, rfl, zw_6_48⟩, trivial, trivial, trivial, ⟨rfl, rfl, h4⟩, trivial⟩ ?_
      refine zr_callV (c_X12_writeWord l G 20 a0 y3 ((Mo_name y3) ((10 : Int32) + x1).toNatClampNeg) q5 e5) (WW' := fun _ => [w_Mo G a0 q5]) (st := []) (st' := []) [0] rfl rfl (fun _ => Nat.le_of_ble_eq_true rfl) (fun _ => rfl) rfl rfl nm_X12_writeWord zw_8_99 zw_8_101 zw_0_102 zw_1_18 zw_8_102 rfl rfl rfl (Nat.le_of_ble_eq_true rfl) ⟨Nat.le_of_ble_eq_true rfl, Nat.le_of_ble_eq_true rfl⟩ (by decide +kernel) (fun _ => ?_)
      obtain ⟨h6, hf⟩ := zck_of hf
      refine zr_run [(.aload_n 0, 0, 0, 0, .null), (.getfield 13, 0, 0, 14, .null), (.sipush 444, 0, 0, 0, .int (444 : Int32)), (.iload_n 1, 0, 0, 0, .null), (.iadd, 0, 0, 0, .null), (.iaload, 0, 2, 0, .null)] [] (WW' := [w_Mo G a0 q5]) (lv' := [some (.ref (a0 0)), some (.int x1)]) (pc' := 43) (st' := [.int ((Mo_now q5) ((444 : Int32) + x1).toNatClampNeg)]) (by decide +kernel) rfl rfl ⟨trivial, ⟨rfl, rfl, zw_6_43⟩, trivial, trivial, trivial, ⟨rfl, rfl, h6⟩, trivial⟩ ?_
      by_cases hc0 : ((Mo_now q5) ((444 : Int32) + x1).toNatClampNeg) = (0 : Int32)
      · have hf := zift hf hc0
        refine zr_tabIn (v := (0 : Int32)) (tgt := 72) (dflt := 141) (lo := 0) (hi := 3) (offs := #[29, 66, 117, 129]) (len := 29) (off := 29) hc0 (by decide +kernel) (by decide) (by decide) (by decide) ?_
        obtain ⟨q7, e7, hf⟩ := zbi_of hf
        refine zr_run [(.aload_n 0, 0, 0, 0, .null), (.bipush 105, 0, 0, 0, .int (105 : Int32)), (.bipush 110, 0, 0, 0, .int (110 : Int32)), (.iconst 0, 0, 0, 0, .int (0 : Int32)), (.iconst 0, 0, 0, 0, .int (0 : Int32)), (.iconst 0, 0, 0, 0, .int (0 : Int32)), (.iconst 0, 0, 0, 0, .int (0 : Int32))] [] (WW' := [w_Mo G a0 q5]) (lv' := [some (.ref (a0 0)), some (.int x1)]) (pc' := 81) (st' := [.int (0 : Int32), .int (0 : Int32), .int (0 : Int32), .int (0 : Int32), .int (110 : Int32), .int (105 : Int32), .ref (a0 0)]) (by decide +kernel) rfl rfl ⟨trivial, trivial, trivial, trivial, trivial, trivial, trivial, trivial⟩ ?_
        refine zr_callS (c_X12_spelt l G (105 : Int32) (110 : Int32) (0 : Int32) (0 : Int32) (0 : Int32) (0 : Int32) q7 e7) (WW' := fun _ => [w_Mo G a0 q5]) (st := [.ref (a0 0)]) (st' := [.long q7, .ref (a0 0)]) [] rfl rfl (fun _ => Nat.le_of_ble_eq_true rfl) (fun _ => rfl) rfl rfl nm_X12_spelt zw_7_8 zw_7_9 zw_1_18 zw_7_10 rfl (Nat.le_of_ble_eq_true rfl) ⟨Nat.le_of_ble_eq_true rfl, Nat.le_of_ble_eq_true rfl⟩ (by decide +kernel) (fun _ => ?_)
        obtain ⟨q8, e8, hf⟩ := zbi_of hf
        refine zr_callV (c_X12_writeNext l G a0 q5 q7 q8 e8) (WW' := fun _ => [w_Mo G a0 q8]) (st := []) (st' := []) [0] rfl rfl (fun _ => Nat.le_of_ble_eq_true rfl) (fun _ => rfl) rfl rfl nm_X12_writeNext zw_8_107 zw_8_109 zw_0_104 zw_1_18 zw_8_110 rfl rfl rfl (Nat.le_of_ble_eq_true rfl) ⟨Nat.le_of_ble_eq_true rfl, Nat.le_of_ble_eq_true rfl⟩ (by decide +kernel) (fun _ => ?_)
        obtain ⟨h9, hf⟩ := zck_of hf
        obtain ⟨h10, hf⟩ := zck_of hf
        obtain ⟨q11, e11, hf⟩ := zbi_of hf
        refine zr_run [(.aload_n 0, 0, 0, 0, .null), (.aload_n 0, 0, 0, 0, .null), (.getfield 28, 0, 0, 19, .null), (.aload_n 0, 0, 0, 0, .null), (.getfield 13, 0, 0, 14, .null), (.sipush 468, 0, 0, 0, .int (468 : Int32)), (.iload_n 1, 0, 0, 0, .null), (.iadd, 0, 0, 0, .null), (.iaload, 0, 2, 0, .null), (.laload, 0, 7, 0, .null)] [] (WW' := [w_Mo G a0 q8]) (lv' := [some (.ref (a0 0)), some (.int x1)]) (pc' := 103) (st' := [.long ((Mo_name q8) ((Mo_now q8) ((468 : Int32) + x1).toNatClampNeg).toNatClampNeg), .ref (a0 0)]) (by decide +kernel) rfl rfl ⟨trivial, trivial, ⟨rfl, rfl, zw_6_48⟩, trivial, ⟨rfl, rfl, zw_6_43⟩, trivial, trivial, trivial, ⟨rfl, rfl, h9⟩, ⟨rfl, rfl, h10⟩, trivial⟩ ?_
        refine zr_callV (c_X12_writeNext l G a0 q8 ((Mo_name q8) ((Mo_now q8) ((468 : Int32) + x1).toNatClampNeg).toNatClampNeg) q11 e11) (WW' := fun _ => [w_Mo G a0 q11]) (st := []) (st' := []) [0] rfl rfl (fun _ => Nat.le_of_ble_eq_true rfl) (fun _ => rfl) rfl rfl nm_X12_writeNext zw_8_107 zw_8_109 zw_0_104 zw_1_18 zw_8_110 rfl rfl rfl (Nat.le_of_ble_eq_true rfl) ⟨Nat.le_of_ble_eq_true rfl, Nat.le_of_ble_eq_true rfl⟩ (by decide +kernel) (fun _ => ?_)
        refine zr_goto (off := 106) (tgt := 212) (by decide +kernel) (by decide) ?_
        refine zr_run [(.aload_n 0, 0, 0, 0, .null), (.getfield 381, 0, 0, 44, .null)] [] (WW' := [w_Mo G a0 q11]) (lv' := [some (.ref (a0 0)), some (.int x1)]) (pc' := 216) (st' := [.int (Mo_texts q11)]) (by decide +kernel) rfl rfl ⟨trivial, ⟨rfl, rfl, zw_6_73⟩, trivial⟩ ?_
        obtain rfl := Option.some.inj hf
        exact zr_iret (b0 := fun _ => 0) (by decide +kernel) rfl rfl rfl rfl rfl
      · have hf := ziff hf hc0
        by_cases hc1 : ((Mo_now q5) ((444 : Int32) + x1).toNatClampNeg) = (1 : Int32)
        · have hf := zift hf hc1
          refine zr_tabIn (v := (1 : Int32)) (tgt := 109) (dflt := 141) (lo := 0) (hi := 3) (offs := #[29, 66, 117, 129]) (len := 29) (off := 66) hc1 (by decide +kernel) (by decide) (by decide) (by decide) ?_
          obtain ⟨q12, e12, hf⟩ := zbi_of hf
          refine zr_run [(.aload_n 0, 0, 0, 0, .null), (.bipush 22, 0, 0, 0, .int (22 : Int32))] [] (WW' := [w_Mo G a0 q5]) (lv' := [some (.ref (a0 0)), some (.int x1)]) (pc' := 112) (st' := [.int (22 : Int32), .ref (a0 0)]) (by decide +kernel) rfl rfl ⟨trivial, trivial, trivial⟩ ?_
          refine zr_callS (c_X12_wordOf l G (22 : Int32) q12 e12) (WW' := fun _ => [w_Mo G a0 q5]) (st := [.ref (a0 0)]) (st' := [.long q12, .ref (a0 0)]) [] rfl rfl (fun _ => Nat.le_of_ble_eq_true rfl) (fun _ => rfl) rfl rfl nm_X12_wordOf zw_7_5 zw_7_6 zw_1_18 zw_7_7 rfl (Nat.le_of_ble_eq_true rfl) ⟨Nat.le_of_ble_eq_true rfl, Nat.le_of_ble_eq_true rfl⟩ (by decide +kernel) (fun _ => ?_)
          obtain ⟨q13, e13, hf⟩ := zbi_of hf
          refine zr_callV (c_X12_writeNext l G a0 q5 q12 q13 e13) (WW' := fun _ => [w_Mo G a0 q13]) (st := []) (st' := []) [0] rfl rfl (fun _ => Nat.le_of_ble_eq_true rfl) (fun _ => rfl) rfl rfl nm_X12_writeNext zw_8_107 zw_8_109 zw_0_104 zw_1_18 zw_8_110 rfl rfl rfl (Nat.le_of_ble_eq_true rfl) ⟨Nat.le_of_ble_eq_true rfl, Nat.le_of_ble_eq_true rfl⟩ (by decide +kernel) (fun _ => ?_)
          obtain ⟨h14, hf⟩ := zck_of hf
          obtain ⟨h15, hf⟩ := zck_of hf
          obtain ⟨q16, e16, hf⟩ := zbi_of hf
          refine zr_run [(.aload_n 0, 0, 0, 0, .null), (.aload_n 0, 0, 0, 0, .null), (.getfield 28, 0, 0, 19, .null), (.aload_n 0, 0, 0, 0, .null), (.getfield 13, 0, 0, 14, .null), (.sipush 462, 0, 0, 0, .int (462 : Int32)), (.iload_n 1, 0, 0, 0, .null), (.iadd, 0, 0, 0, .null), (.iaload, 0, 2, 0, .null), (.laload, 0, 7, 0, .null)] [] (WW' := [w_Mo G a0 q13]) (lv' := [some (.ref (a0 0)), some (.int x1)]) (pc' := 134) (st' := [.long ((Mo_name q13) ((Mo_now q13) ((462 : Int32) + x1).toNatClampNeg).toNatClampNeg), .ref (a0 0)]) (by decide +kernel) rfl rfl ⟨trivial, trivial, ⟨rfl, rfl, zw_6_48⟩, trivial, ⟨rfl, rfl, zw_6_43⟩, trivial, trivial, trivial, ⟨rfl, rfl, h14⟩, ⟨rfl, rfl, h15⟩, trivial⟩ ?_
          refine zr_callV (c_X12_writeNext l G a0 q13 ((Mo_name q13) ((Mo_now q13) ((462 : Int32) + x1).toNatClampNeg).toNatClampNeg) q16 e16) (WW' := fun _ => [w_Mo G a0 q16]) (st := []) (st' := []) [0] rfl rfl (fun _ => Nat.le_of_ble_eq_true rfl) (fun _ => rfl) rfl rfl nm_X12_writeNext zw_8_107 zw_8_109 zw_0_104 zw_1_18 zw_8_110 rfl rfl rfl (Nat.le_of_ble_eq_true rfl) ⟨Nat.le_of_ble_eq_true rfl, Nat.le_of_ble_eq_true rfl⟩ (by decide +kernel) (fun _ => ?_)
          obtain ⟨q17, e17, hf⟩ := zbi_of hf
          refine zr_run [(.aload_n 0, 0, 0, 0, .null), (.bipush 32, 0, 0, 0, .int (32 : Int32))] [] (WW' := [w_Mo G a0 q16]) (lv' := [some (.ref (a0 0)), some (.int x1)]) (pc' := 140) (st' := [.int (32 : Int32), .ref (a0 0)]) (by decide +kernel) rfl rfl ⟨trivial, trivial, trivial⟩ ?_
          refine zr_callV (c_X12_write l G a0 q16 (32 : Int32) q17 e17) (WW' := fun _ => [w_Mo G a0 q17]) (st := []) (st' := []) [0] rfl rfl (fun _ => Nat.le_of_ble_eq_true rfl) (fun _ => rfl) rfl rfl nm_X12_write zw_8_103 zw_8_105 zw_0_103 zw_1_18 zw_8_106 rfl rfl rfl (Nat.le_of_ble_eq_true rfl) ⟨Nat.le_of_ble_eq_true rfl, Nat.le_of_ble_eq_true rfl⟩ (by decide +kernel) (fun _ => ?_)
          obtain ⟨h18, hf⟩ := zck_of hf
          obtain ⟨q19, e19, hf⟩ := zbi_of hf
          refine zr_run [(.aload_n 0, 0, 0, 0, .null), (.aload_n 0, 0, 0, 0, .null), (.getfield 13, 0, 0, 14, .null), (.sipush 486, 0, 0, 0, .int (486 : Int32)), (.iload_n 1, 0, 0, 0, .null), (.iadd, 0, 0, 0, .null), (.iaload, 0, 2, 0, .null)] [] (WW' := [w_Mo G a0 q17]) (lv' := [some (.ref (a0 0)), some (.int x1)]) (pc' := 154) (st' := [.int ((Mo_now q17) ((486 : Int32) + x1).toNatClampNeg), .ref (a0 0)]) (by decide +kernel) rfl rfl ⟨trivial, trivial, ⟨rfl, rfl, zw_6_43⟩, trivial, trivial, trivial, ⟨rfl, rfl, h18⟩, trivial⟩ ?_
          refine zr_callV (c_X12_writeNumber l G 20 a0 q17 ((Mo_now q17) ((486 : Int32) + x1).toNatClampNeg) q19 e19) (WW' := fun _ => [w_Mo G a0 q19]) (st := []) (st' := []) [0] rfl rfl (fun _ => Nat.le_of_ble_eq_true rfl) (fun _ => rfl) rfl rfl nm_X12_writeNumber zw_8_111 zw_8_113 zw_0_105 zw_1_18 zw_8_114 rfl rfl rfl (Nat.le_of_ble_eq_true rfl) ⟨Nat.le_of_ble_eq_true rfl, Nat.le_of_ble_eq_true rfl⟩ (by decide +kernel) (fun _ => ?_)
          refine zr_goto (off := 55) (tgt := 212) (by decide +kernel) (by decide) ?_
          refine zr_run [(.aload_n 0, 0, 0, 0, .null), (.getfield 381, 0, 0, 44, .null)] [] (WW' := [w_Mo G a0 q19]) (lv' := [some (.ref (a0 0)), some (.int x1)]) (pc' := 216) (st' := [.int (Mo_texts q19)]) (by decide +kernel) rfl rfl ⟨trivial, ⟨rfl, rfl, zw_6_73⟩, trivial⟩ ?_
          obtain rfl := Option.some.inj hf
          exact zr_iret (b0 := fun _ => 0) (by decide +kernel) rfl rfl rfl rfl rfl
        · have hf := ziff hf hc1
          by_cases hc2 : ((Mo_now q5) ((444 : Int32) + x1).toNatClampNeg) = (2 : Int32)
          · have hf := zift hf hc2
            refine zr_tabIn (v := (2 : Int32)) (tgt := 160) (dflt := 141) (lo := 0) (hi := 3) (offs := #[29, 66, 117, 129]) (len := 29) (off := 117) hc2 (by decide +kernel) (by decide) (by decide) (by decide) ?_
            obtain ⟨q20, e20, hf⟩ := zbi_of hf
            refine zr_run [(.aload_n 0, 0, 0, 0, .null), (.bipush 17, 0, 0, 0, .int (17 : Int32))] [] (WW' := [w_Mo G a0 q5]) (lv' := [some (.ref (a0 0)), some (.int x1)]) (pc' := 163) (st' := [.int (17 : Int32), .ref (a0 0)]) (by decide +kernel) rfl rfl ⟨trivial, trivial, trivial⟩ ?_
            refine zr_callS (c_X12_wordOf l G (17 : Int32) q20 e20) (WW' := fun _ => [w_Mo G a0 q5]) (st := [.ref (a0 0)]) (st' := [.long q20, .ref (a0 0)]) [] rfl rfl (fun _ => Nat.le_of_ble_eq_true rfl) (fun _ => rfl) rfl rfl nm_X12_wordOf zw_7_5 zw_7_6 zw_1_18 zw_7_7 rfl (Nat.le_of_ble_eq_true rfl) ⟨Nat.le_of_ble_eq_true rfl, Nat.le_of_ble_eq_true rfl⟩ (by decide +kernel) (fun _ => ?_)
            obtain ⟨q21, e21, hf⟩ := zbi_of hf
            refine zr_callV (c_X12_writeNext l G a0 q5 q20 q21 e21) (WW' := fun _ => [w_Mo G a0 q21]) (st := []) (st' := []) [0] rfl rfl (fun _ => Nat.le_of_ble_eq_true rfl) (fun _ => rfl) rfl rfl nm_X12_writeNext zw_8_107 zw_8_109 zw_0_104 zw_1_18 zw_8_110 rfl rfl rfl (Nat.le_of_ble_eq_true rfl) ⟨Nat.le_of_ble_eq_true rfl, Nat.le_of_ble_eq_true rfl⟩ (by decide +kernel) (fun _ => ?_)
            refine zr_goto (off := 43) (tgt := 212) (by decide +kernel) (by decide) ?_
            refine zr_run [(.aload_n 0, 0, 0, 0, .null), (.getfield 381, 0, 0, 44, .null)] [] (WW' := [w_Mo G a0 q21]) (lv' := [some (.ref (a0 0)), some (.int x1)]) (pc' := 216) (st' := [.int (Mo_texts q21)]) (by decide +kernel) rfl rfl ⟨trivial, ⟨rfl, rfl, zw_6_73⟩, trivial⟩ ?_
            obtain rfl := Option.some.inj hf
            exact zr_iret (b0 := fun _ => 0) (by decide +kernel) rfl rfl rfl rfl rfl
          · have hf := ziff hf hc2
            by_cases hc3 : ((Mo_now q5) ((444 : Int32) + x1).toNatClampNeg) = (3 : Int32)
            · have hf := zift hf hc3
              refine zr_tabIn (v := (3 : Int32)) (tgt := 172) (dflt := 141) (lo := 0) (hi := 3) (offs := #[29, 66, 117, 129]) (len := 29) (off := 129) hc3 (by decide +kernel) (by decide) (by decide) (by decide) ?_
              obtain ⟨q22, e22, hf⟩ := zbi_of hf
              refine zr_run [(.aload_n 0, 0, 0, 0, .null), (.bipush 18, 0, 0, 0, .int (18 : Int32))] [] (WW' := [w_Mo G a0 q5]) (lv' := [some (.ref (a0 0)), some (.int x1)]) (pc' := 175) (st' := [.int (18 : Int32), .ref (a0 0)]) (by decide +kernel) rfl rfl ⟨trivial, trivial, trivial⟩ ?_
              refine zr_callS (c_X12_wordOf l G (18 : Int32) q22 e22) (WW' := fun _ => [w_Mo G a0 q5]) (st := [.ref (a0 0)]) (st' := [.long q22, .ref (a0 0)]) [] rfl rfl (fun _ => Nat.le_of_ble_eq_true rfl) (fun _ => rfl) rfl rfl nm_X12_wordOf zw_7_5 zw_7_6 zw_1_18 zw_7_7 rfl (Nat.le_of_ble_eq_true rfl) ⟨Nat.le_of_ble_eq_true rfl, Nat.le_of_ble_eq_true rfl⟩ (by decide +kernel) (fun _ => ?_)
              obtain ⟨q23, e23, hf⟩ := zbi_of hf
              refine zr_callV (c_X12_writeNext l G a0 q5 q22 q23 e23) (WW' := fun _ => [w_Mo G a0 q23]) (st := []) (st' := []) [0] rfl rfl (fun _ => Nat.le_of_ble_eq_true rfl) (fun _ => rfl) rfl rfl nm_X12_writeNext zw_8_107 zw_8_109 zw_0_104 zw_1_18 zw_8_110 rfl rfl rfl (Nat.le_of_ble_eq_true rfl) ⟨Nat.le_of_ble_eq_true rfl, Nat.le_of_ble_eq_true rfl⟩ (by decide +kernel) (fun _ => ?_)
              refine zr_goto (off := 31) (tgt := 212) (by decide +kernel) (by decide) ?_
              refine zr_run [(.aload_n 0, 0, 0, 0, .null), (.getfield 381, 0, 0, 44, .null)] [] (WW' := [w_Mo G a0 q23]) (lv' := [some (.ref (a0 0)), some (.int x1)]) (pc' := 216) (st' := [.int (Mo_texts q23)]) (by decide +kernel) rfl rfl ⟨trivial, ⟨rfl, rfl, zw_6_73⟩, trivial⟩ ?_
              obtain rfl := Option.some.inj hf
              exact zr_iret (b0 := fun _ => 0) (by decide +kernel) rfl rfl rfl rfl rfl
            · have hf := ziff hf hc3
              refine zr_tabOut (tgt := 184) (dflt := 141) (lo := 0) (hi := 3) (offs := #[29, 66, 117, 129]) (len := 29) (by decide +kernel) (by have q0 := lv_neT hc0 (a := 0) (by decide); have q1 := lv_neT hc1 (a := 1) (by decide); have q2 := lv_neT hc2 (a := 2) (by decide); have q3 := lv_neT hc3 (a := 3) (by decide); omega) (by decide) ?_
              obtain ⟨h24, hf⟩ := zck_of hf
              refine zr_run [(.aload_n 0, 0, 0, 0, .null), (.aload_n 0, 0, 0, 0, .null), (.getfield 13, 0, 0, 14, .null), (.sipush 444, 0, 0, 0, .int (444 : Int32)), (.iload_n 1, 0, 0, 0, .null), (.iadd, 0, 0, 0, .null), (.iaload, 0, 2, 0, .null), (.iconst 4, 0, 0, 0, .int (4 : Int32))] [] (WW' := [w_Mo G a0 q5]) (lv' := [some (.ref (a0 0)), some (.int x1)]) (pc' := 196) (st' := [.int (4 : Int32), .int ((Mo_now q5) ((444 : Int32) + x1).toNatClampNeg), .ref (a0 0)]) (by decide +kernel) rfl rfl ⟨trivial, trivial, ⟨rfl, rfl, zw_6_43⟩, trivial, trivial, trivial, ⟨rfl, rfl, h24⟩, trivial, trivial⟩ ?_
              refine zr_icmp_ne (off := 8) (tgt := 204) (by decide +kernel) (by decide) (fun hc => ?_) (fun hc => ?_)
              · have hf := zift hf hc
                refine zr_run [(.bipush 19, 0, 0, 0, .int (19 : Int32))] [] (WW' := [w_Mo G a0 q5]) (lv' := [some (.ref (a0 0)), some (.int x1)]) (pc' := 201) (st' := [.int (19 : Int32), .ref (a0 0)]) (by decide +kernel) rfl rfl ⟨trivial, trivial⟩ ?_
                refine zr_goto (off := 5) (tgt := 206) (by decide +kernel) (by decide) ?_
                refine zr_run [] [1] (WW' := [w_Mo G a0 q5]) (lv' := [some (.ref (a0 0)), none]) (pc' := 206) (st' := [.int (19 : Int32), .ref (a0 0)]) (by decide +kernel) rfl rfl trivial ?_
                exact t_X12_oath_b206 l G a0 W0 r q5 (19 : Int32) hf
              · have hf := ziff hf hc
                refine zr_run [(.bipush 20, 0, 0, 0, .int (20 : Int32))] [1] (WW' := [w_Mo G a0 q5]) (lv' := [some (.ref (a0 0)), none]) (pc' := 206) (st' := [.int (20 : Int32), .ref (a0 0)]) (by decide +kernel) rfl rfl ⟨trivial, trivial⟩ ?_
                exact t_X12_oath_b206 l G a0 W0 r q5 (20 : Int32) hf
  exact zj_entry [some (.ref (a0 0)), some (.int x1)] (by decide +kernel) rfl (by decide) (Nat.le_of_ble_eq_true rfl) rfl rfl (key _)
def M_X12_byteAt : zj_M := (RX12, cX12_byteAt, 2, (some .int), { frames := 1, cells := 0, slots := 0, locals := 22 }, false)
theorem nm_X12_byteAt : zj_nm yX12_byteAt 1 := ⟨by decide +kernel, by decide +kernel, by decide +kernel⟩
def f_X12_byteAt  (s0 : MoT) (x1 : Int32) : Option (Int32 × MoT) := (zlet (Mo_s_thrown s0 (0 : Int32)) fun y1 => ((f_X12_isIn x1 (0 : Int32) ((Mo_texts y1) - (1 : Int32))).bind fun q2 => (if q2 = 0 then some ((-1 : Int32), y1) else (if zb_in x1 64 = true then some (((Mo_text y1) x1.toNatClampNeg), y1) else none))))
set_option maxRecDepth 100000 in
set_option maxHeartbeats 4000000 in
theorem c_X12_byteAt (l : Launch) (G : zj_G) (a0 : Nat → Nat) (s0 : MoT) (x1 : Int32) (r : Int32 × MoT) (hf : f_X12_byteAt s0 x1 = some r) : zj_C l G M_X12_byteAt yX12_byteAt [w_Mo G a0 s0] [.ref (a0 0), .int x1] (some (.int r.1)) (fun _ => [w_Mo G a0 r.2]) := by
  have key : ∀ W0 : List va_W, zj_J l G M_X12_byteAt W0 (zj_ret G M_X12_byteAt W0 (some (.int r.1)) (fun _ => [w_Mo G a0 r.2])) 0 0 [w_Mo G a0 s0] [some (.ref (a0 0)), some (.int x1)] 0 [] := by
    intro W0
    unfold f_X12_byteAt at hf
    obtain ⟨y1, e1, hf⟩ := zlet_of hf
    refine zr_run [(.aload_n 0, 0, 0, 0, .null), (.iconst 0, 0, 0, 0, .int (0 : Int32)), (.putfield 91, 0, 0, 0, .null)] [] (WW' := [w_Mo G a0 (Mo_s_thrown s0 (0 : Int32))]) (lv' := [some (.ref (a0 0)), some (.int x1)]) (pc' := 5) (st' := []) (by decide +kernel) rfl rfl ⟨trivial, trivial, ⟨rfl, rfl, rfl, trivial, rfl, rfl, zw_6_29⟩, trivial⟩ ?_
    refine zr_eq (WW2 := [w_Mo G a0 y1]) (lv2 := [some (.ref (a0 0)), some (.int x1)]) (st2 := []) (by rw [e1]) rfl rfl ?_
    obtain ⟨q2, e2, hf⟩ := zbi_of hf
    refine zr_run [(.iload_n 1, 0, 0, 0, .null), (.iconst 0, 0, 0, 0, .int (0 : Int32)), (.aload_n 0, 0, 0, 0, .null), (.getfield 381, 0, 0, 44, .null), (.iconst 1, 0, 0, 0, .int (1 : Int32)), (.isub, 0, 0, 0, .null)] [] (WW' := [w_Mo G a0 y1]) (lv' := [some (.ref (a0 0)), some (.int x1)]) (pc' := 13) (st' := [.int ((Mo_texts y1) - (1 : Int32)), .int (0 : Int32), .int x1]) (by decide +kernel) rfl rfl ⟨trivial, trivial, trivial, ⟨rfl, rfl, zw_6_73⟩, trivial, trivial, trivial⟩ ?_
    refine zr_callS (c_X12_isIn l G x1 (0 : Int32) ((Mo_texts y1) - (1 : Int32)) q2 e2) (WW' := fun _ => [w_Mo G a0 y1]) (st := []) (st' := [.int q2]) [] rfl rfl (fun _ => Nat.le_of_ble_eq_true rfl) (fun _ => rfl) rfl rfl nm_X12_isIn zw_7_38 zw_7_39 zw_1_18 zw_7_40 rfl (Nat.le_of_ble_eq_true rfl) ⟨Nat.le_of_ble_eq_true rfl, Nat.le_of_ble_eq_true rfl⟩ (by decide +kernel) (fun _ => ?_)
    refine zr_if_eq (off := 12) (tgt := 28) (by decide +kernel) (by decide) (fun hc => ?_) (fun hc => ?_)
    · have hf := zift hf hc
      refine zr_run [(.iconst (-1), 0, 0, 0, .int (-1 : Int32))] [] (WW' := [w_Mo G a0 y1]) (lv' := [some (.ref (a0 0)), some (.int x1)]) (pc' := 29) (st' := [.int (-1 : Int32)]) (by decide +kernel) rfl rfl ⟨trivial, trivial⟩ ?_
      obtain rfl := Option.some.inj hf
      exact zr_iret (b0 := fun _ => 0) (by decide +kernel) rfl rfl rfl rfl rfl
    · have hf := ziff hf hc
      obtain ⟨h3, hf⟩ := zck_of hf
      refine zr_run [(.aload_n 0, 0, 0, 0, .null), (.getfield 79, 0, 0, 43, .null), (.iload_n 1, 0, 0, 0, .null), (.iaload, 0, 20, 0, .null)] [] (WW' := [w_Mo G a0 y1]) (lv' := [some (.ref (a0 0)), some (.int x1)]) (pc' := 25) (st' := [.int ((Mo_text y1) x1.toNatClampNeg)]) (by decide +kernel) rfl rfl ⟨trivial, ⟨rfl, rfl, zw_6_72⟩, trivial, ⟨rfl, rfl, h3⟩, trivial⟩ ?_
      refine zr_goto (off := 4) (tgt := 29) (by decide +kernel) (by decide) ?_
      obtain rfl := Option.some.inj hf
      exact zr_iret (b0 := fun _ => 0) (by decide +kernel) rfl rfl rfl rfl rfl
  exact zj_entry [some (.ref (a0 0)), some (.int x1)] (by decide +kernel) rfl (by decide) (Nat.le_of_ble_eq_true rfl) rfl rfl (key _)
def M_X12_layAside : zj_M := (RX12, cX12_layAside, 2, none, { frames := 0, cells := 0, slots := 0, locals := 0 }, false)
theorem nm_X12_layAside : zj_nm yX12_layAside 0 := ⟨by decide +kernel, by decide +kernel, by decide +kernel⟩
def f_X12_layAside_H2  (s0 : MoT) (k2 : MoT → Int32 → Option (MoT)) (x1 : Int32) : Option (MoT) := (if x1 < (73 : Int32) then (if zb_in ((443 : Int32) + x1) 758 = true then (if zb_in x1 73 = true then (zlet (Mo_s_aside s0 ((upd (Mo_aside s0) x1.toNatClampNeg ((Mo_now s0) ((443 : Int32) + x1).toNatClampNeg)))) fun y3 => k2 y3 (x1 + (1 : Int32))) else none) else none) else some s0)
def f_X12_layAside_L2    : Nat → MoT → Int32 → Option (MoT)
  | 0 => fun _ _ => none
  | n + 1 => fun s0 x1 => f_X12_layAside_H2 s0 (f_X12_layAside_L2  n) x1
def f_X12_layAside  (s0 : MoT)  : Option (MoT) := f_X12_layAside_L2 zFU s0 (0 : Int32)
set_option maxRecDepth 100000 in
set_option maxHeartbeats 4000000 in
theorem t_X12_layAside_H2 (l : Launch) (G : zj_G) (a0 : Nat → Nat) (W0 : List va_W) (r : MoT) (s0 : MoT) (k2 : MoT → Int32 → Option (MoT)) (hk2 : ∀ (s0 : MoT) (x1 : Int32), k2 s0 x1 = some r → zj_J l G M_X12_layAside W0 (zj_ret G M_X12_layAside W0 (none) (fun _ => [w_Mo G a0 r])) 0 0 [w_Mo G a0 s0] [some (.ref (a0 0)), some (.int x1)] 2 []) (x1 : Int32) (hf : f_X12_layAside_H2 s0 k2 x1 = some r) : zj_J l G M_X12_layAside W0 (zj_ret G M_X12_layAside W0 (none) (fun _ => [w_Mo G a0 r])) 0 0 [w_Mo G a0 s0] [some (.ref (a0 0)), some (.int x1)] 2 [] := by
  unfold f_X12_layAside_H2 at hf
  refine zr_run [(.iload_n 1, 0, 0, 0, .null), (.bipush 73, 0, 0, 0, .int (73 : Int32))] [] (WW' := [w_Mo G a0 s0]) (lv' := [some (.ref (a0 0)), some (.int x1)]) (pc' := 5) (st' := [.int (73 : Int32), .int x1]) (by decide +kernel) rfl rfl ⟨trivial, trivial, trivial⟩ ?_
  refine zr_icmp_ge (off := 25) (tgt := 30) (by decide +kernel) (by decide) (fun hc => ?_) (fun hc => ?_)
  · have hf := zift hf hc
    obtain ⟨h1, hf⟩ := zck_of hf
    obtain ⟨h2, hf⟩ := zck_of hf
    obtain ⟨y3, e3, hf⟩ := zlet_of hf
    refine zr_run [(.aload_n 0, 0, 0, 0, .null), (.getfield 25, 0, 0, 18, .null), (.iload_n 1, 0, 0, 0, .null), (.aload_n 0, 0, 0, 0, .null), (.getfield 13, 0, 0, 14, .null), (.sipush 443, 0, 0, 0, .int (443 : Int32)), (.iload_n 1, 0, 0, 0, .null), (.iadd, 0, 0, 0, .null), (.iaload, 0, 2, 0, .null), (.iastore, 0, 6, 0, .null)] [] (WW' := [w_Mo G a0 (Mo_s_aside s0 ((upd (Mo_aside s0) x1.toNatClampNeg ((Mo_now s0) ((443 : Int32) + x1).toNatClampNeg))))]) (lv' := [some (.ref (a0 0)), some (.int x1)]) (pc' := 24) (st' := []) (by decide +kernel) rfl rfl ⟨trivial, ⟨rfl, rfl, zw_6_47⟩, trivial, trivial, ⟨rfl, rfl, zw_6_43⟩, trivial, trivial, trivial, ⟨rfl, rfl, h1⟩, ⟨rfl, rfl, h2⟩, trivial⟩ ?_
    refine zr_eq (WW2 := [w_Mo G a0 y3]) (lv2 := [some (.ref (a0 0)), some (.int x1)]) (st2 := []) (by rw [e3]) rfl rfl ?_
    refine zr_run [(.iinc 1 1, 0, 0, 0, .int (1 : Int32))] [] (WW' := [w_Mo G a0 y3]) (lv' := [some (.ref (a0 0)), some (.int (x1 + (1 : Int32)))]) (pc' := 27) (st' := []) (by decide +kernel) rfl rfl ⟨trivial, trivial⟩ ?_
    refine zr_goto (off := -25) (tgt := 2) (by decide +kernel) (by decide) ?_
    exact hk2 y3 (x1 + (1 : Int32)) hf
  · have hf := ziff hf hc
    obtain rfl := Option.some.inj hf
    exact zr_vret (b0 := fun _ => 0) (by decide +kernel) rfl rfl rfl rfl rfl
theorem t_X12_layAside_L2 (l : Launch) (G : zj_G) (a0 : Nat → Nat) (W0 : List va_W) (r : MoT)    : ∀ (n : Nat) (s0 : MoT) (x1 : Int32), f_X12_layAside_L2 n s0 x1 = some r → zj_J l G M_X12_layAside W0 (zj_ret G M_X12_layAside W0 (none) (fun _ => [w_Mo G a0 r])) 0 0 [w_Mo G a0 s0] [some (.ref (a0 0)), some (.int x1)] 2 [] := by
  intro n
  induction n with
  | zero => intro s0 x1 hf; exact nomatch (show none = some r from hf)
  | succ n ih => intro s0 x1 hf; exact t_X12_layAside_H2 l G a0 W0 r s0  (f_X12_layAside_L2 n)  ih x1  hf
set_option maxRecDepth 100000 in
set_option maxHeartbeats 4000000 in
theorem c_X12_layAside (l : Launch) (G : zj_G) (a0 : Nat → Nat) (s0 : MoT)  (r : MoT) (hf : f_X12_layAside s0 = some r) : zj_C l G M_X12_layAside yX12_layAside [w_Mo G a0 s0] [.ref (a0 0)] (none) (fun _ => [w_Mo G a0 r]) := by
  have key : ∀ W0 : List va_W, zj_J l G M_X12_layAside W0 (zj_ret G M_X12_layAside W0 (none) (fun _ => [w_Mo G a0 r])) 0 0 [w_Mo G a0 s0] [some (.ref (a0 0)), none] 0 [] := by
    intro W0
    unfold f_X12_layAside at hf
    refine zr_run [(.iconst 0, 0, 0, 0, .int (0 : Int32)), (.istore_n 1, 0, 0, 0, .null)] [] (WW' := [w_Mo G a0 s0]) (lv' := [some (.ref (a0 0)), some (.int (0 : Int32))]) (pc' := 2) (st' := []) (by decide +kernel) rfl rfl ⟨trivial, trivial, trivial⟩ ?_
    exact t_X12_layAside_L2 l G a0 W0 r zFU s0 (0 : Int32) hf
  exact zj_entry [some (.ref (a0 0)), none] (by decide +kernel) rfl (by decide) (Nat.le_of_ble_eq_true rfl) rfl rfl (key _)
def M_X12_takeBack : zj_M := (RX12, cX12_takeBack, 2, none, { frames := 0, cells := 0, slots := 0, locals := 0 }, false)
theorem nm_X12_takeBack : zj_nm yX12_takeBack 0 := ⟨by decide +kernel, by decide +kernel, by decide +kernel⟩
def f_X12_takeBack_H2  (s0 : MoT) (k2 : MoT → Int32 → Option (MoT)) (x1 : Int32) : Option (MoT) := (if x1 < (73 : Int32) then (if zb_in x1 73 = true then (if zb_in ((443 : Int32) + x1) 758 = true then (zlet (Mo_s_now s0 ((upd (Mo_now s0) ((443 : Int32) + x1).toNatClampNeg ((Mo_aside s0) x1.toNatClampNeg)))) fun y3 => k2 y3 (x1 + (1 : Int32))) else none) else none) else some s0)
def f_X12_takeBack_L2    : Nat → MoT → Int32 → Option (MoT)
  | 0 => fun _ _ => none
  | n + 1 => fun s0 x1 => f_X12_takeBack_H2 s0 (f_X12_takeBack_L2  n) x1
def f_X12_takeBack  (s0 : MoT)  : Option (MoT) := f_X12_takeBack_L2 zFU s0 (0 : Int32)
set_option maxRecDepth 100000 in
set_option maxHeartbeats 4000000 in
theorem t_X12_takeBack_H2 (l : Launch) (G : zj_G) (a0 : Nat → Nat) (W0 : List va_W) (r : MoT) (s0 : MoT) (k2 : MoT → Int32 → Option (MoT)) (hk2 : ∀ (s0 : MoT) (x1 : Int32), k2 s0 x1 = some r → zj_J l G M_X12_takeBack W0 (zj_ret G M_X12_takeBack W0 (none) (fun _ => [w_Mo G a0 r])) 0 0 [w_Mo G a0 s0] [some (.ref (a0 0)), some (.int x1)] 2 []) (x1 : Int32) (hf : f_X12_takeBack_H2 s0 k2 x1 = some r) : zj_J l G M_X12_takeBack W0 (zj_ret G M_X12_takeBack W0 (none) (fun _ => [w_Mo G a0 r])) 0 0 [w_Mo G a0 s0] [some (.ref (a0 0)), some (.int x1)] 2 [] := by
  unfold f_X12_takeBack_H2 at hf
  refine zr_run [(.iload_n 1, 0, 0, 0, .null), (.bipush 73, 0, 0, 0, .int (73 : Int32))] [] (WW' := [w_Mo G a0 s0]) (lv' := [some (.ref (a0 0)), some (.int x1)]) (pc' := 5) (st' := [.int (73 : Int32), .int x1]) (by decide +kernel) rfl rfl ⟨trivial, trivial, trivial⟩ ?_
  refine zr_icmp_ge (off := 25) (tgt := 30) (by decide +kernel) (by decide) (fun hc => ?_) (fun hc => ?_)
  · have hf := zift hf hc
    obtain ⟨h1, hf⟩ := zck_of hf
    obtain ⟨h2, hf⟩ := zck_of hf
    obtain ⟨y3, e3, hf⟩ := zlet_of hf
    refine zr_run [(.aload_n 0, 0, 0, 0, .null), (.getfield 13, 0, 0, 14, .null), (.sipush 443, 0, 0, 0, .int (443 : Int32)), (.iload_n 1, 0, 0, 0, .null), (.iadd, 0, 0, 0, .null), (.aload_n 0, 0, 0, 0, .null), (.getfield 25, 0, 0, 18, .null), (.iload_n 1, 0, 0, 0, .null), (.iaload, 0, 6, 0, .null), (.iastore, 0, 2, 0, .null)] [] (WW' := [w_Mo G a0 (Mo_s_now s0 ((upd (Mo_now s0) ((443 : Int32) + x1).toNatClampNeg ((Mo_aside s0) x1.toNatClampNeg))))]) (lv' := [some (.ref (a0 0)), some (.int x1)]) (pc' := 24) (st' := []) (by decide +kernel) rfl rfl ⟨trivial, ⟨rfl, rfl, zw_6_43⟩, trivial, trivial, trivial, trivial, ⟨rfl, rfl, zw_6_47⟩, trivial, ⟨rfl, rfl, h1⟩, ⟨rfl, rfl, h2⟩, trivial⟩ ?_
    refine zr_eq (WW2 := [w_Mo G a0 y3]) (lv2 := [some (.ref (a0 0)), some (.int x1)]) (st2 := []) (by rw [e3]) rfl rfl ?_
    refine zr_run [(.iinc 1 1, 0, 0, 0, .int (1 : Int32))] [] (WW' := [w_Mo G a0 y3]) (lv' := [some (.ref (a0 0)), some (.int (x1 + (1 : Int32)))]) (pc' := 27) (st' := []) (by decide +kernel) rfl rfl ⟨trivial, trivial⟩ ?_
    refine zr_goto (off := -25) (tgt := 2) (by decide +kernel) (by decide) ?_
    exact hk2 y3 (x1 + (1 : Int32)) hf
  · have hf := ziff hf hc
    obtain rfl := Option.some.inj hf
    exact zr_vret (b0 := fun _ => 0) (by decide +kernel) rfl rfl rfl rfl rfl
theorem t_X12_takeBack_L2 (l : Launch) (G : zj_G) (a0 : Nat → Nat) (W0 : List va_W) (r : MoT)    : ∀ (n : Nat) (s0 : MoT) (x1 : Int32), f_X12_takeBack_L2 n s0 x1 = some r → zj_J l G M_X12_takeBack W0 (zj_ret G M_X12_takeBack W0 (none) (fun _ => [w_Mo G a0 r])) 0 0 [w_Mo G a0 s0] [some (.ref (a0 0)), some (.int x1)] 2 [] := by
  intro n
  induction n with
  | zero => intro s0 x1 hf; exact nomatch (show none = some r from hf)
  | succ n ih => intro s0 x1 hf; exact t_X12_takeBack_H2 l G a0 W0 r s0  (f_X12_takeBack_L2 n)  ih x1  hf
set_option maxRecDepth 100000 in
set_option maxHeartbeats 4000000 in
theorem c_X12_takeBack (l : Launch) (G : zj_G) (a0 : Nat → Nat) (s0 : MoT)  (r : MoT) (hf : f_X12_takeBack s0 = some r) : zj_C l G M_X12_takeBack yX12_takeBack [w_Mo G a0 s0] [.ref (a0 0)] (none) (fun _ => [w_Mo G a0 r]) := by
  have key : ∀ W0 : List va_W, zj_J l G M_X12_takeBack W0 (zj_ret G M_X12_takeBack W0 (none) (fun _ => [w_Mo G a0 r])) 0 0 [w_Mo G a0 s0] [some (.ref (a0 0)), none] 0 [] := by
    intro W0
    unfold f_X12_takeBack at hf
    refine zr_run [(.iconst 0, 0, 0, 0, .int (0 : Int32)), (.istore_n 1, 0, 0, 0, .null)] [] (WW' := [w_Mo G a0 s0]) (lv' := [some (.ref (a0 0)), some (.int (0 : Int32))]) (pc' := 2) (st' := []) (by decide +kernel) rfl rfl ⟨trivial, trivial, trivial⟩ ?_
    exact t_X12_takeBack_L2 l G a0 W0 r zFU s0 (0 : Int32) hf
  exact zj_entry [some (.ref (a0 0)), none] (by decide +kernel) rfl (by decide) (Nat.le_of_ble_eq_true rfl) rfl rfl (key _)
def M_X12_odds : zj_M := (RX12, cX12_odds, 6, (some .int), { frames := 7, cells := 0, slots := 0, locals := 162 }, false)
theorem nm_X12_odds : zj_nm yX12_odds 3 := ⟨by decide +kernel, by decide +kernel, by decide +kernel⟩
def f_X12_odds_b69  (s0 : MoT) (k35 : MoT → Int32 → Int32 → Int32 → Int32 → Int32 → Option (Int32 × MoT)) (x1 : Int32) (x2 : Int32) (x3 : Int32) (x4 : Int32) (x5 : Int32) : Option (Int32 × MoT) := ((f_X12_takeBack s0).bind fun q7 => k35 q7 x1 x2 x3 x4 (x5 + (1 : Int32)))
def f_X12_odds_H35  (s0 : MoT) (k35 : MoT → Int32 → Int32 → Int32 → Int32 → Int32 → Option (Int32 × MoT)) (x1 : Int32) (x2 : Int32) (x3 : Int32) (x4 : Int32) (x5 : Int32) : Option (Int32 × MoT) := (if x5 < x2 then ((f_X12_passDays s0 (30 : Int32) (x3 + x5)).bind fun q5 => (if zb_in ((444 : Int32) + x1) 758 = true then (if ((Mo_now q5.2) ((444 : Int32) + x1).toNatClampNeg) = (3 : Int32) then f_X12_odds_b69 q5.2 k35 x1 x2 x3 (x4 + (1 : Int32)) x5 else f_X12_odds_b69 q5.2 k35 x1 x2 x3 x4 x5) else none)) else some (x4, s0))
def f_X12_odds_L35    : Nat → MoT → Int32 → Int32 → Int32 → Int32 → Int32 → Option (Int32 × MoT)
  | 0 => fun _ _ _ _ _ _ => none
  | n + 1 => fun s0 x1 x2 x3 x4 x5 => f_X12_odds_H35 s0 (f_X12_odds_L35  n) x1 x2 x3 x4 x5
def f_X12_odds  (s0 : MoT) (x1 : Int32) (x2 : Int32) (x3 : Int32) : Option (Int32 × MoT) := (zlet (Mo_s_thrown s0 (0 : Int32)) fun y1 => ((f_X12_isMan y1 x1).bind fun q2 => (if q2 = 0 then some ((-1 : Int32), y1) else ((f_X12_isIn x2 (1 : Int32) (30 : Int32)).bind fun q3 => (if q3 = 0 then some ((-1 : Int32), y1) else ((f_X12_layAside y1).bind fun q4 => f_X12_odds_L35 zFU q4 x1 x2 x3 (0 : Int32) (0 : Int32)))))))
set_option maxRecDepth 100000 in
set_option maxHeartbeats 4000000 in
theorem t_X12_odds_b69 (l : Launch) (G : zj_G) (a0 : Nat → Nat) (W0 : List va_W) (r : Int32 × MoT) (s0 : MoT) (k35 : MoT → Int32 → Int32 → Int32 → Int32 → Int32 → Option (Int32 × MoT)) (hk35 : ∀ (s0 : MoT) (x1 : Int32) (x2 : Int32) (x3 : Int32) (x4 : Int32) (x5 : Int32), k35 s0 x1 x2 x3 x4 x5 = some r → zj_J l G M_X12_odds W0 (zj_ret G M_X12_odds W0 (some (.int r.1)) (fun _ => [w_Mo G a0 r.2])) 0 0 [w_Mo G a0 s0] [some (.ref (a0 0)), some (.int x1), some (.int x2), some (.int x3), some (.int x4), some (.int x5)] 35 []) (x1 : Int32) (x2 : Int32) (x3 : Int32) (x4 : Int32) (x5 : Int32) (hf : f_X12_odds_b69 s0 k35 x1 x2 x3 x4 x5 = some r) : zj_J l G M_X12_odds W0 (zj_ret G M_X12_odds W0 (some (.int r.1)) (fun _ => [w_Mo G a0 r.2])) 0 0 [w_Mo G a0 s0] [some (.ref (a0 0)), some (.int x1), some (.int x2), some (.int x3), some (.int x4), some (.int x5)] 69 [] := by
  unfold f_X12_odds_b69 at hf
  obtain ⟨q7, e7, hf⟩ := zbi_of hf
  refine zr_run [(.aload_n 0, 0, 0, 0, .null)] [] (WW' := [w_Mo G a0 s0]) (lv' := [some (.ref (a0 0)), some (.int x1), some (.int x2), some (.int x3), some (.int x4), some (.int x5)]) (pc' := 70) (st' := [.ref (a0 0)]) (by decide +kernel) rfl rfl ⟨trivial, trivial⟩ ?_
  refine zr_callV (c_X12_takeBack l G a0 s0 q7 e7) (WW' := fun _ => [w_Mo G a0 q7]) (st := []) (st' := []) [0] rfl rfl (fun _ => Nat.le_of_ble_eq_true rfl) (fun _ => rfl) rfl rfl nm_X12_takeBack zw_8_127 zw_8_129 zw_0_107 zw_1_18 zw_8_130 rfl rfl rfl (Nat.le_of_ble_eq_true rfl) ⟨Nat.le_of_ble_eq_true rfl, Nat.le_of_ble_eq_true rfl⟩ (by decide +kernel) (fun _ => ?_)
  refine zr_run [(.iinc 5 1, 0, 0, 0, .int (1 : Int32))] [] (WW' := [w_Mo G a0 q7]) (lv' := [some (.ref (a0 0)), some (.int x1), some (.int x2), some (.int x3), some (.int x4), some (.int (x5 + (1 : Int32)))]) (pc' := 76) (st' := []) (by decide +kernel) rfl rfl ⟨trivial, trivial⟩ ?_
  refine zr_goto (off := -41) (tgt := 35) (by decide +kernel) (by decide) ?_
  exact hk35 q7 x1 x2 x3 x4 (x5 + (1 : Int32)) hf
set_option maxRecDepth 100000 in
set_option maxHeartbeats 4000000 in
theorem t_X12_odds_H35 (l : Launch) (G : zj_G) (a0 : Nat → Nat) (W0 : List va_W) (r : Int32 × MoT) (s0 : MoT) (k35 : MoT → Int32 → Int32 → Int32 → Int32 → Int32 → Option (Int32 × MoT)) (hk35 : ∀ (s0 : MoT) (x1 : Int32) (x2 : Int32) (x3 : Int32) (x4 : Int32) (x5 : Int32), k35 s0 x1 x2 x3 x4 x5 = some r → zj_J l G M_X12_odds W0 (zj_ret G M_X12_odds W0 (some (.int r.1)) (fun _ => [w_Mo G a0 r.2])) 0 0 [w_Mo G a0 s0] [some (.ref (a0 0)), some (.int x1), some (.int x2), some (.int x3), some (.int x4), some (.int x5)] 35 []) (x1 : Int32) (x2 : Int32) (x3 : Int32) (x4 : Int32) (x5 : Int32) (hf : f_X12_odds_H35 s0 k35 x1 x2 x3 x4 x5 = some r) : zj_J l G M_X12_odds W0 (zj_ret G M_X12_odds W0 (some (.int r.1)) (fun _ => [w_Mo G a0 r.2])) 0 0 [w_Mo G a0 s0] [some (.ref (a0 0)), some (.int x1), some (.int x2), some (.int x3), some (.int x4), some (.int x5)] 35 [] := by
  unfold f_X12_odds_H35 at hf
  refine zr_run [(.iload 5, 0, 0, 0, .null), (.iload_n 2, 0, 0, 0, .null)] [] (WW' := [w_Mo G a0 s0]) (lv' := [some (.ref (a0 0)), some (.int x1), some (.int x2), some (.int x3), some (.int x4), some (.int x5)]) (pc' := 38) (st' := [.int x2, .int x5]) (by decide +kernel) rfl rfl ⟨trivial, trivial, trivial⟩ ?_
  refine zr_icmp_ge (off := 41) (tgt := 79) (by decide +kernel) (by decide) (fun hc => ?_) (fun hc => ?_)
  · have hf := zift hf hc
    obtain ⟨q5, e5, hf⟩ := zbi_of hf
    refine zr_run [(.aload_n 0, 0, 0, 0, .null), (.bipush 30, 0, 0, 0, .int (30 : Int32)), (.iload_n 3, 0, 0, 0, .null), (.iload 5, 0, 0, 0, .null), (.iadd, 0, 0, 0, .null)] [] (WW' := [w_Mo G a0 s0]) (lv' := [some (.ref (a0 0)), some (.int x1), some (.int x2), some (.int x3), some (.int x4), some (.int x5)]) (pc' := 48) (st' := [.int (x3 + x5), .int (30 : Int32), .ref (a0 0)]) (by decide +kernel) rfl rfl ⟨trivial, trivial, trivial, trivial, trivial, trivial⟩ ?_
    refine zr_callV (c_X12_passDays l G a0 s0 (30 : Int32) (x3 + x5) q5 e5) (WW' := fun _ => [w_Mo G a0 q5.2]) (st := []) (st' := [.int q5.1]) [0] rfl rfl (fun _ => Nat.le_of_ble_eq_true rfl) (fun _ => rfl) rfl rfl nm_X12_passDays zw_7_212 zw_7_214 zw_0_89 zw_1_18 zw_7_215 rfl rfl rfl (Nat.le_of_ble_eq_true rfl) ⟨Nat.le_of_ble_eq_true rfl, Nat.le_of_ble_eq_true rfl⟩ (by decide +kernel) (fun _ => ?_)
    obtain ⟨h6, hf⟩ := zck_of hf
    refine zr_run [(.pop, 0, 0, 0, .null), (.aload_n 0, 0, 0, 0, .null), (.getfield 13, 0, 0, 14, .null), (.sipush 444, 0, 0, 0, .int (444 : Int32)), (.iload_n 1, 0, 0, 0, .null), (.iadd, 0, 0, 0, .null), (.iaload, 0, 2, 0, .null), (.iconst 3, 0, 0, 0, .int (3 : Int32))] [] (WW' := [w_Mo G a0 q5.2]) (lv' := [some (.ref (a0 0)), some (.int x1), some (.int x2), some (.int x3), some (.int x4), some (.int x5)]) (pc' := 63) (st' := [.int (3 : Int32), .int ((Mo_now q5.2) ((444 : Int32) + x1).toNatClampNeg)]) (by decide +kernel) rfl rfl ⟨trivial, trivial, ⟨rfl, rfl, zw_6_43⟩, trivial, trivial, trivial, ⟨rfl, rfl, h6⟩, trivial, trivial⟩ ?_
    refine zr_icmp_ne (off := 6) (tgt := 69) (by decide +kernel) (by decide) (fun hc => ?_) (fun hc => ?_)
    · have hf := zift hf hc
      refine zr_run [(.iinc 4 1, 0, 0, 0, .int (1 : Int32))] [] (WW' := [w_Mo G a0 q5.2]) (lv' := [some (.ref (a0 0)), some (.int x1), some (.int x2), some (.int x3), some (.int (x4 + (1 : Int32))), some (.int x5)]) (pc' := 69) (st' := []) (by decide +kernel) rfl rfl ⟨trivial, trivial⟩ ?_
      exact t_X12_odds_b69 l G a0 W0 r q5.2 k35 hk35 x1 x2 x3 (x4 + (1 : Int32)) x5 hf
    · have hf := ziff hf hc
      exact t_X12_odds_b69 l G a0 W0 r q5.2 k35 hk35 x1 x2 x3 x4 x5 hf
  · have hf := ziff hf hc
    refine zr_run [(.iload 4, 0, 0, 0, .null)] [] (WW' := [w_Mo G a0 s0]) (lv' := [some (.ref (a0 0)), some (.int x1), some (.int x2), some (.int x3), some (.int x4), some (.int x5)]) (pc' := 81) (st' := [.int x4]) (by decide +kernel) rfl rfl ⟨trivial, trivial⟩ ?_
    obtain rfl := Option.some.inj hf
    exact zr_iret (b0 := fun _ => 0) (by decide +kernel) rfl rfl rfl rfl rfl
theorem t_X12_odds_L35 (l : Launch) (G : zj_G) (a0 : Nat → Nat) (W0 : List va_W) (r : Int32 × MoT)    : ∀ (n : Nat) (s0 : MoT) (x1 : Int32) (x2 : Int32) (x3 : Int32) (x4 : Int32) (x5 : Int32), f_X12_odds_L35 n s0 x1 x2 x3 x4 x5 = some r → zj_J l G M_X12_odds W0 (zj_ret G M_X12_odds W0 (some (.int r.1)) (fun _ => [w_Mo G a0 r.2])) 0 0 [w_Mo G a0 s0] [some (.ref (a0 0)), some (.int x1), some (.int x2), some (.int x3), some (.int x4), some (.int x5)] 35 [] := by
  intro n
  induction n with
  | zero => intro s0 x1 x2 x3 x4 x5 hf; exact nomatch (show none = some r from hf)
  | succ n ih => intro s0 x1 x2 x3 x4 x5 hf; exact t_X12_odds_H35 l G a0 W0 r s0  (f_X12_odds_L35 n)  ih x1 x2 x3 x4 x5  hf
set_option maxRecDepth 100000 in
set_option maxHeartbeats 4000000 in
theorem c_X12_odds (l : Launch) (G : zj_G) (a0 : Nat → Nat) (s0 : MoT) (x1 : Int32) (x2 : Int32) (x3 : Int32) (r : Int32 × MoT) (hf : f_X12_odds s0 x1 x2 x3 = some r) : zj_C l G M_X12_odds yX12_odds [w_Mo G a0 s0] [.ref (a0 0), .int x1, .int x2, .int x3] (some (.int r.1)) (fun _ => [w_Mo G a0 r.2]) := by
  have key : ∀ W0 : List va_W, zj_J l G M_X12_odds W0 (zj_ret G M_X12_odds W0 (some (.int r.1)) (fun _ => [w_Mo G a0 r.2])) 0 0 [w_Mo G a0 s0] [some (.ref (a0 0)), some (.int x1), some (.int x2), some (.int x3), none, none] 0 [] := by
    intro W0
    unfold f_X12_odds at hf
    obtain ⟨y1, e1, hf⟩ := zlet_of hf
    refine zr_run [(.aload_n 0, 0, 0, 0, .null), (.iconst 0, 0, 0, 0, .int (0 : Int32)), (.putfield 91, 0, 0, 0, .null)] [] (WW' := [w_Mo G a0 (Mo_s_thrown s0 (0 : Int32))]) (lv' := [some (.ref (a0 0)), some (.int x1), some (.int x2), some (.int x3), none, none]) (pc' := 5) (st' := []) (by decide +kernel) rfl rfl ⟨trivial, trivial, ⟨rfl, rfl, rfl, trivial, rfl, rfl, zw_6_29⟩, trivial⟩ ?_
    refine zr_eq (WW2 := [w_Mo G a0 y1]) (lv2 := [some (.ref (a0 0)), some (.int x1), some (.int x2), some (.int x3), none, none]) (st2 := []) (by rw [e1]) rfl rfl ?_
    obtain ⟨q2, e2, hf⟩ := zbi_of hf
    refine zr_run [(.aload_n 0, 0, 0, 0, .null), (.iload_n 1, 0, 0, 0, .null)] [] (WW' := [w_Mo G a0 y1]) (lv' := [some (.ref (a0 0)), some (.int x1), some (.int x2), some (.int x3), none, none]) (pc' := 7) (st' := [.int x1, .ref (a0 0)]) (by decide +kernel) rfl rfl ⟨trivial, trivial, trivial⟩ ?_
    refine zr_callV (c_X12_isMan l G a0 y1 x1 q2 e2) (WW' := fun _ => [w_Mo G a0 y1]) (st := []) (st' := [.int q2]) [0] rfl rfl (fun _ => Nat.le_of_ble_eq_true rfl) (fun _ => rfl) rfl rfl nm_X12_isMan zw_7_128 zw_7_130 zw_0_76 zw_1_18 zw_7_131 rfl rfl rfl (Nat.le_of_ble_eq_true rfl) ⟨Nat.le_of_ble_eq_true rfl, Nat.le_of_ble_eq_true rfl⟩ (by decide +kernel) (fun _ => ?_)
    refine zr_if_eq (off := 13) (tgt := 23) (by decide +kernel) (by decide) (fun hc => ?_) (fun hc => ?_)
    · have hf := zift hf hc
      refine zr_run [(.iconst (-1), 0, 0, 0, .int (-1 : Int32))] [] (WW' := [w_Mo G a0 y1]) (lv' := [some (.ref (a0 0)), some (.int x1), some (.int x2), some (.int x3), none, none]) (pc' := 24) (st' := [.int (-1 : Int32)]) (by decide +kernel) rfl rfl ⟨trivial, trivial⟩ ?_
      obtain rfl := Option.some.inj hf
      exact zr_iret (b0 := fun _ => 0) (by decide +kernel) rfl rfl rfl rfl rfl
    · have hf := ziff hf hc
      obtain ⟨q3, e3, hf⟩ := zbi_of hf
      refine zr_run [(.iload_n 2, 0, 0, 0, .null), (.iconst 1, 0, 0, 0, .int (1 : Int32)), (.bipush 30, 0, 0, 0, .int (30 : Int32))] [] (WW' := [w_Mo G a0 y1]) (lv' := [some (.ref (a0 0)), some (.int x1), some (.int x2), some (.int x3), none, none]) (pc' := 17) (st' := [.int (30 : Int32), .int (1 : Int32), .int x2]) (by decide +kernel) rfl rfl ⟨trivial, trivial, trivial, trivial⟩ ?_
      refine zr_callS (c_X12_isIn l G x2 (1 : Int32) (30 : Int32) q3 e3) (WW' := fun _ => [w_Mo G a0 y1]) (st := []) (st' := [.int q3]) [] rfl rfl (fun _ => Nat.le_of_ble_eq_true rfl) (fun _ => rfl) rfl rfl nm_X12_isIn zw_7_38 zw_7_39 zw_1_18 zw_7_40 rfl (Nat.le_of_ble_eq_true rfl) ⟨Nat.le_of_ble_eq_true rfl, Nat.le_of_ble_eq_true rfl⟩ (by decide +kernel) (fun _ => ?_)
      refine zr_if_ne (off := 5) (tgt := 25) (by decide +kernel) (by decide) (fun hc => ?_) (fun hc => ?_)
      · have hf := zift hf hc
        refine zr_run [(.iconst (-1), 0, 0, 0, .int (-1 : Int32))] [] (WW' := [w_Mo G a0 y1]) (lv' := [some (.ref (a0 0)), some (.int x1), some (.int x2), some (.int x3), none, none]) (pc' := 24) (st' := [.int (-1 : Int32)]) (by decide +kernel) rfl rfl ⟨trivial, trivial⟩ ?_
        obtain rfl := Option.some.inj hf
        exact zr_iret (b0 := fun _ => 0) (by decide +kernel) rfl rfl rfl rfl rfl
      · have hf := ziff hf hc
        obtain ⟨q4, e4, hf⟩ := zbi_of hf
        refine zr_run [(.aload_n 0, 0, 0, 0, .null)] [] (WW' := [w_Mo G a0 y1]) (lv' := [some (.ref (a0 0)), some (.int x1), some (.int x2), some (.int x3), none, none]) (pc' := 26) (st' := [.ref (a0 0)]) (by decide +kernel) rfl rfl ⟨trivial, trivial⟩ ?_
        refine zr_callV (c_X12_layAside l G a0 y1 q4 e4) (WW' := fun _ => [w_Mo G a0 q4]) (st := []) (st' := []) [0] rfl rfl (fun _ => Nat.le_of_ble_eq_true rfl) (fun _ => rfl) rfl rfl nm_X12_layAside zw_8_123 zw_8_125 zw_0_106 zw_1_18 zw_8_126 rfl rfl rfl (Nat.le_of_ble_eq_true rfl) ⟨Nat.le_of_ble_eq_true rfl, Nat.le_of_ble_eq_true rfl⟩ (by decide +kernel) (fun _ => ?_)
        refine zr_run [(.iconst 0, 0, 0, 0, .int (0 : Int32)), (.istore 4, 0, 0, 0, .null), (.iconst 0, 0, 0, 0, .int (0 : Int32)), (.istore 5, 0, 0, 0, .null)] [] (WW' := [w_Mo G a0 q4]) (lv' := [some (.ref (a0 0)), some (.int x1), some (.int x2), some (.int x3), some (.int (0 : Int32)), some (.int (0 : Int32))]) (pc' := 35) (st' := []) (by decide +kernel) rfl rfl ⟨trivial, trivial, trivial, trivial, trivial⟩ ?_
        exact t_X12_odds_L35 l G a0 W0 r zFU q4 x1 x2 x3 (0 : Int32) (0 : Int32) hf
  exact zj_entry [some (.ref (a0 0)), some (.int x1), some (.int x2), some (.int x3), none, none] (by decide +kernel) rfl (by decide) (Nat.le_of_ble_eq_true rfl) rfl rfl (key _)
def M_X12_keep : zj_M := (RX12, cX12_keep, 3, (some .boolean), { frames := 0, cells := 0, slots := 0, locals := 0 }, false)
theorem nm_X12_keep : zj_nm yX12_keep 2 := ⟨by decide +kernel, by decide +kernel, by decide +kernel⟩
def f_X12_keep  (s0 : MoT) (x1 : Int32) (x2 : Int32) : Option (Int32 × MoT) := (if x2 = 0 then (if zb_bo x2 = true then some (x2, s0) else none) else (if zb_in x1 160 = true then (zlet (Mo_s_line s0 ((upd (Mo_line s0) x1.toNatClampNeg (Mo_told s0)))) fun y3 => (if zb_bo x2 = true then some (x2, y3) else none)) else none))
set_option maxRecDepth 100000 in
set_option maxHeartbeats 4000000 in
theorem c_X12_keep (l : Launch) (G : zj_G) (a0 : Nat → Nat) (s0 : MoT) (x1 : Int32) (x2 : Int32) (r : Int32 × MoT) (hf : f_X12_keep s0 x1 x2 = some r) : zj_C l G M_X12_keep yX12_keep [w_Mo G a0 s0] [.ref (a0 0), .int x1, .int x2] (some (.int r.1)) (fun _ => [w_Mo G a0 r.2]) := by
  have key : ∀ W0 : List va_W, zj_J l G M_X12_keep W0 (zj_ret G M_X12_keep W0 (some (.int r.1)) (fun _ => [w_Mo G a0 r.2])) 0 0 [w_Mo G a0 s0] [some (.ref (a0 0)), some (.int x1), some (.int x2)] 0 [] := by
    intro W0
    unfold f_X12_keep at hf
    refine zr_run [(.iload_n 2, 0, 0, 0, .null)] [] (WW' := [w_Mo G a0 s0]) (lv' := [some (.ref (a0 0)), some (.int x1), some (.int x2)]) (pc' := 1) (st' := [.int x2]) (by decide +kernel) rfl rfl ⟨trivial, trivial⟩ ?_
    refine zr_if_eq (off := 13) (tgt := 14) (by decide +kernel) (by decide) (fun hc => ?_) (fun hc => ?_)
    · have hf := zift hf hc
      obtain ⟨h1, hf⟩ := zck_of hf
      refine zr_run [(.iload_n 2, 0, 0, 0, .null)] [] (WW' := [w_Mo G a0 s0]) (lv' := [some (.ref (a0 0)), some (.int x1), some (.int x2)]) (pc' := 15) (st' := [.int x2]) (by decide +kernel) rfl rfl ⟨trivial, trivial⟩ ?_
      obtain rfl := Option.some.inj hf
      exact zr_zret h1 (b0 := fun _ => 0) (by decide +kernel) rfl rfl rfl rfl rfl
    · have hf := ziff hf hc
      obtain ⟨h2, hf⟩ := zck_of hf
      obtain ⟨y3, e3, hf⟩ := zlet_of hf
      refine zr_run [(.aload_n 0, 0, 0, 0, .null), (.getfield 82, 0, 0, 45, .null), (.iload_n 1, 0, 0, 0, .null), (.aload_n 0, 0, 0, 0, .null), (.getfield 162, 0, 0, 13, .null), (.iastore, 0, 21, 0, .null)] [] (WW' := [w_Mo G a0 (Mo_s_line s0 ((upd (Mo_line s0) x1.toNatClampNeg (Mo_told s0))))]) (lv' := [some (.ref (a0 0)), some (.int x1), some (.int x2)]) (pc' := 14) (st' := []) (by decide +kernel) rfl rfl ⟨trivial, ⟨rfl, rfl, zw_6_74⟩, trivial, trivial, ⟨rfl, rfl, zw_6_42⟩, ⟨rfl, rfl, h2⟩, trivial⟩ ?_
      refine zr_eq (WW2 := [w_Mo G a0 y3]) (lv2 := [some (.ref (a0 0)), some (.int x1), some (.int x2)]) (st2 := []) (by rw [e3]) rfl rfl ?_
      obtain ⟨h4, hf⟩ := zck_of hf
      refine zr_run [(.iload_n 2, 0, 0, 0, .null)] [] (WW' := [w_Mo G a0 y3]) (lv' := [some (.ref (a0 0)), some (.int x1), some (.int x2)]) (pc' := 15) (st' := [.int x2]) (by decide +kernel) rfl rfl ⟨trivial, trivial⟩ ?_
      obtain rfl := Option.some.inj hf
      exact zr_zret h4 (b0 := fun _ => 0) (by decide +kernel) rfl rfl rfl rfl rfl
  exact zj_entry [some (.ref (a0 0)), some (.int x1), some (.int x2)] (by decide +kernel) rfl (by decide) (Nat.le_of_ble_eq_true rfl) rfl rfl (key _)
def M_X12_readPort : zj_M := (RX12, cX12_readPort, 1, (some .boolean), { frames := 3, cells := 0, slots := 0, locals := 68 }, false)
theorem nm_X12_readPort : zj_nm yX12_readPort 0 := ⟨by decide +kernel, by decide +kernel, by decide +kernel⟩
def f_X12_readPort  (s0 : MoT)  : Option (Int32 × MoT) := ((f_X12_isName s0).bind fun q1 => (if q1 = 0 then ((f_X12_bad s0 (1 : Int32)).bind fun q2 => (if zb_bo q2.1 = true then some (q2.1, q2.2) else none)) else ((f_X12_findIn 16 (Mo_name s0) (0 : Int32) ((Mo_now s0) (0 : Int32).toNatClampNeg) (Mo_word s0)).bind fun q4 => (zlet (Mo_s_told s0 q4) fun y5 => (if (Mo_told y5) = (-1 : Int32) then ((f_X12_bad y5 (3 : Int32)).bind fun q6 => (if zb_bo q6.1 = true then some (q6.1, q6.2) else none)) else (if zb_in ((4 : Int32) + (Mo_told y5)) 758 = true then (if ((Mo_now y5) ((4 : Int32) + (Mo_told y5)).toNatClampNeg) = (2 : Int32) then ((f_X12_go y5).bind fun q9 => some ((1 : Int32), q9)) else ((f_X12_bad y5 (3 : Int32)).bind fun q10 => (if zb_bo q10.1 = true then some (q10.1, q10.2) else none))) else none))))))
set_option maxRecDepth 100000 in
set_option maxHeartbeats 4000000 in
theorem c_X12_readPort (l : Launch) (G : zj_G) (a0 : Nat → Nat) (s0 : MoT)  (r : Int32 × MoT) (hf : f_X12_readPort s0 = some r) : zj_C l G M_X12_readPort yX12_readPort [w_Mo G a0 s0] [.ref (a0 0)] (some (.int r.1)) (fun _ => [w_Mo G a0 r.2]) := by
  have key : ∀ W0 : List va_W, zj_J l G M_X12_readPort W0 (zj_ret G M_X12_readPort W0 (some (.int r.1)) (fun _ => [w_Mo G a0 r.2])) 0 0 [w_Mo G a0 s0] [some (.ref (a0 0))] 0 [] := by
    intro W0
    unfold f_X12_readPort at hf
    obtain ⟨q1, e1, hf⟩ := zbi_of hf
    refine zr_run [(.aload_n 0, 0, 0, 0, .null)] [] (WW' := [w_Mo G a0 s0]) (lv' := [some (.ref (a0 0))]) (pc' := 1) (st' := [.ref (a0 0)]) (by decide +kernel) rfl rfl ⟨trivial, trivial⟩ ?_
    refine zr_callV (c_X12_isName l G a0 s0 q1 e1) (WW' := fun _ => [w_Mo G a0 s0]) (st := []) (st' := [.int q1]) [0] rfl rfl (fun _ => Nat.le_of_ble_eq_true rfl) (fun _ => rfl) rfl rfl nm_X12_isName zw_7_27 zw_7_29 zw_0_58 zw_1_18 zw_7_30 rfl rfl rfl (Nat.le_of_ble_eq_true rfl) ⟨Nat.le_of_ble_eq_true rfl, Nat.le_of_ble_eq_true rfl⟩ (by decide +kernel) (fun _ => ?_)
    refine zr_if_ne (off := 9) (tgt := 13) (by decide +kernel) (by decide) (fun hc => ?_) (fun hc => ?_)
    · have hf := zift hf hc
      obtain ⟨q2, e2, hf⟩ := zbi_of hf
      refine zr_run [(.aload_n 0, 0, 0, 0, .null), (.iconst 1, 0, 0, 0, .int (1 : Int32))] [] (WW' := [w_Mo G a0 s0]) (lv' := [some (.ref (a0 0))]) (pc' := 9) (st' := [.int (1 : Int32), .ref (a0 0)]) (by decide +kernel) rfl rfl ⟨trivial, trivial, trivial⟩ ?_
      refine zr_callV (c_X12_bad l G a0 s0 (1 : Int32) q2 e2) (WW' := fun _ => [w_Mo G a0 q2.2]) (st := []) (st' := [.int q2.1]) [0] rfl rfl (fun _ => Nat.le_of_ble_eq_true rfl) (fun _ => rfl) rfl rfl nm_X12_bad zw_7_19 zw_7_21 zw_0_56 zw_1_18 zw_7_22 rfl rfl rfl (Nat.le_of_ble_eq_true rfl) ⟨Nat.le_of_ble_eq_true rfl, Nat.le_of_ble_eq_true rfl⟩ (by decide +kernel) (fun _ => ?_)
      obtain ⟨h3, hf⟩ := zck_of hf
      obtain rfl := Option.some.inj hf
      exact zr_zret h3 (b0 := fun _ => 0) (by decide +kernel) rfl rfl rfl rfl rfl
    · have hf := ziff hf hc
      obtain ⟨q4, e4, hf⟩ := zbi_of hf
      refine zr_run [(.aload_n 0, 0, 0, 0, .null), (.aload_n 0, 0, 0, 0, .null), (.getfield 28, 0, 0, 19, .null), (.iconst 0, 0, 0, 0, .int (0 : Int32)), (.aload_n 0, 0, 0, 0, .null), (.getfield 13, 0, 0, 14, .null), (.iconst 0, 0, 0, 0, .int (0 : Int32)), (.iaload, 0, 2, 0, .null), (.aload_n 0, 0, 0, 0, .null), (.getfield 126, 0, 0, 12, .null)] [] (WW' := [w_Mo G a0 s0]) (lv' := [some (.ref (a0 0))]) (pc' := 29) (st' := [.long (Mo_word s0), .int ((Mo_now s0) (0 : Int32).toNatClampNeg), .int (0 : Int32), .ref (a0 7), .ref (a0 0)]) (by decide +kernel) rfl rfl ⟨trivial, trivial, ⟨rfl, rfl, zw_6_48⟩, trivial, trivial, ⟨rfl, rfl, zw_6_43⟩, trivial, ⟨rfl, rfl, (by decide)⟩, trivial, ⟨rfl, rfl, zw_6_41⟩, trivial⟩ ?_
      refine zr_cellS (b := 0) (c' := 7) (c_X12_findIn l G (fun _ => (a0 7)) 16 (Mo_name s0) (0 : Int32) ((Mo_now s0) (0 : Int32).toNatClampNeg) (Mo_word s0) q4 e4) rfl (st := [.ref (a0 0)]) (st' := [.int q4, .ref (a0 0)]) rfl rfl nm_X12_findIn zw_7_31 zw_7_32 zw_1_18 zw_7_33 rfl (Nat.le_of_ble_eq_true rfl) ⟨Nat.le_of_ble_eq_true rfl, Nat.le_of_ble_eq_true rfl⟩ (by decide +kernel) ?_
      refine zr_eq (WW2 := [w_Mo G a0 s0]) rfl rfl rfl ?_
      obtain ⟨y5, e5, hf⟩ := zlet_of hf
      refine zr_run [(.putfield 162, 0, 0, 13, .null)] [] (WW' := [w_Mo G a0 (Mo_s_told s0 q4)]) (lv' := [some (.ref (a0 0))]) (pc' := 35) (st' := []) (by decide +kernel) rfl rfl ⟨⟨rfl, rfl, rfl, trivial, rfl, rfl, zw_6_42⟩, trivial⟩ ?_
      refine zr_eq (WW2 := [w_Mo G a0 y5]) (lv2 := [some (.ref (a0 0))]) (st2 := []) (by rw [e5]) rfl rfl ?_
      refine zr_run [(.aload_n 0, 0, 0, 0, .null), (.getfield 162, 0, 0, 13, .null), (.iconst (-1), 0, 0, 0, .int (-1 : Int32))] [] (WW' := [w_Mo G a0 y5]) (lv' := [some (.ref (a0 0))]) (pc' := 40) (st' := [.int (-1 : Int32), .int (Mo_told y5)]) (by decide +kernel) rfl rfl ⟨trivial, ⟨rfl, rfl, zw_6_42⟩, trivial, trivial⟩ ?_
      refine zr_icmp_eq (off := 18) (tgt := 58) (by decide +kernel) (by decide) (fun hc => ?_) (fun hc => ?_)
      · have hf := zift hf hc
        obtain ⟨q6, e6, hf⟩ := zbi_of hf
        refine zr_run [(.aload_n 0, 0, 0, 0, .null), (.iconst 3, 0, 0, 0, .int (3 : Int32))] [] (WW' := [w_Mo G a0 y5]) (lv' := [some (.ref (a0 0))]) (pc' := 60) (st' := [.int (3 : Int32), .ref (a0 0)]) (by decide +kernel) rfl rfl ⟨trivial, trivial, trivial⟩ ?_
        refine zr_callV (c_X12_bad l G a0 y5 (3 : Int32) q6 e6) (WW' := fun _ => [w_Mo G a0 q6.2]) (st := []) (st' := [.int q6.1]) [0] rfl rfl (fun _ => Nat.le_of_ble_eq_true rfl) (fun _ => rfl) rfl rfl nm_X12_bad zw_7_19 zw_7_21 zw_0_56 zw_1_18 zw_7_22 rfl rfl rfl (Nat.le_of_ble_eq_true rfl) ⟨Nat.le_of_ble_eq_true rfl, Nat.le_of_ble_eq_true rfl⟩ (by decide +kernel) (fun _ => ?_)
        obtain ⟨h7, hf⟩ := zck_of hf
        obtain rfl := Option.some.inj hf
        exact zr_zret h7 (b0 := fun _ => 0) (by decide +kernel) rfl rfl rfl rfl rfl
      · have hf := ziff hf hc
        obtain ⟨h8, hf⟩ := zck_of hf
        refine zr_run [(.aload_n 0, 0, 0, 0, .null), (.getfield 13, 0, 0, 14, .null), (.iconst 4, 0, 0, 0, .int (4 : Int32)), (.aload_n 0, 0, 0, 0, .null), (.getfield 162, 0, 0, 13, .null), (.iadd, 0, 0, 0, .null), (.iaload, 0, 2, 0, .null), (.iconst 2, 0, 0, 0, .int (2 : Int32))] [] (WW' := [w_Mo G a0 y5]) (lv' := [some (.ref (a0 0))]) (pc' := 55) (st' := [.int (2 : Int32), .int ((Mo_now y5) ((4 : Int32) + (Mo_told y5)).toNatClampNeg)]) (by decide +kernel) rfl rfl ⟨trivial, ⟨rfl, rfl, zw_6_43⟩, trivial, trivial, ⟨rfl, rfl, zw_6_42⟩, trivial, ⟨rfl, rfl, h8⟩, trivial, trivial⟩ ?_
        refine zr_icmp_eq (off := 9) (tgt := 64) (by decide +kernel) (by decide) (fun hc => ?_) (fun hc => ?_)
        · have hf := zift hf hc
          obtain ⟨q9, e9, hf⟩ := zbi_of hf
          refine zr_run [(.aload_n 0, 0, 0, 0, .null)] [] (WW' := [w_Mo G a0 y5]) (lv' := [some (.ref (a0 0))]) (pc' := 65) (st' := [.ref (a0 0)]) (by decide +kernel) rfl rfl ⟨trivial, trivial⟩ ?_
          refine zr_callV (c_X12_go l G a0 y5 q9 e9) (WW' := fun _ => [w_Mo G a0 q9]) (st := []) (st' := []) [0] rfl rfl (fun _ => Nat.le_of_ble_eq_true rfl) (fun _ => rfl) rfl rfl nm_X12_go zw_6_221 zw_6_223 zw_0_50 zw_1_18 zw_6_224 rfl rfl rfl (Nat.le_of_ble_eq_true rfl) ⟨Nat.le_of_ble_eq_true rfl, Nat.le_of_ble_eq_true rfl⟩ (by decide +kernel) (fun _ => ?_)
          refine zr_run [(.iconst 1, 0, 0, 0, .int (1 : Int32))] [] (WW' := [w_Mo G a0 q9]) (lv' := [some (.ref (a0 0))]) (pc' := 69) (st' := [.int (1 : Int32)]) (by decide +kernel) rfl rfl ⟨trivial, trivial⟩ ?_
          obtain rfl := Option.some.inj hf
          exact zr_zret (by decide) (b0 := fun _ => 0) (by decide +kernel) rfl rfl rfl rfl rfl
        · have hf := ziff hf hc
          obtain ⟨q10, e10, hf⟩ := zbi_of hf
          refine zr_run [(.aload_n 0, 0, 0, 0, .null), (.iconst 3, 0, 0, 0, .int (3 : Int32))] [] (WW' := [w_Mo G a0 y5]) (lv' := [some (.ref (a0 0))]) (pc' := 60) (st' := [.int (3 : Int32), .ref (a0 0)]) (by decide +kernel) rfl rfl ⟨trivial, trivial, trivial⟩ ?_
          refine zr_callV (c_X12_bad l G a0 y5 (3 : Int32) q10 e10) (WW' := fun _ => [w_Mo G a0 q10.2]) (st := []) (st' := [.int q10.1]) [0] rfl rfl (fun _ => Nat.le_of_ble_eq_true rfl) (fun _ => rfl) rfl rfl nm_X12_bad zw_7_19 zw_7_21 zw_0_56 zw_1_18 zw_7_22 rfl rfl rfl (Nat.le_of_ble_eq_true rfl) ⟨Nat.le_of_ble_eq_true rfl, Nat.le_of_ble_eq_true rfl⟩ (by decide +kernel) (fun _ => ?_)
          obtain ⟨h11, hf⟩ := zck_of hf
          obtain rfl := Option.some.inj hf
          exact zr_zret h11 (b0 := fun _ => 0) (by decide +kernel) rfl rfl rfl rfl rfl
  exact zj_entry [some (.ref (a0 0))] (by decide +kernel) rfl (by decide) (Nat.le_of_ble_eq_true rfl) rfl rfl (key _)
def M_X12_readManDoes : zj_M := (RX12, cX12_readManDoes, 3, (some .boolean), { frames := 4, cells := 0, slots := 0, locals := 88 }, false)
theorem nm_X12_readManDoes : zj_nm yX12_readManDoes 1 := ⟨by decide +kernel, by decide +kernel, by decide +kernel⟩
def f_X12_readManDoes_b123  (s0 : MoT)   : Option (Int32 × MoT) := some ((0 : Int32), s0)
def f_X12_readManDoes_b23  (s0 : MoT)  (x1 : Int32) (x2 : Int32) : Option (Int32 × MoT) := (if (10 : Int32) < x2 then ((f_X12_bad s0 (1 : Int32)).bind fun q1 => (if zb_bo q1.1 = true then some (q1.1, q1.2) else none)) else (if zb_in x1 160 = true then (zlet (Mo_s_line s0 ((upd (Mo_line s0) x1.toNatClampNeg (x2 - (6 : Int32))))) fun y4 => ((f_X12_go y4).bind fun q5 => (if zb_in x1 160 = true then (if ((Mo_line q5) x1.toNatClampNeg) = (0 : Int32) then ((f_X12_readPort q5).bind fun q7 => ((f_X12_keep q7.2 (x1 + (2 : Int32)) q7.1).bind fun q8 => (if q8.1 = 0 then f_X12_readManDoes_b123 q8.2 else ((f_X12_readNumber q8.2 (1 : Int32) (40 : Int32)).bind fun q9 => ((f_X12_keep q9.2 (x1 + (3 : Int32)) q9.1).bind fun q10 => (if q10.1 = 0 then f_X12_readManDoes_b123 q10.2 else some ((1 : Int32), q10.2))))))) else (if ((Mo_line q5) x1.toNatClampNeg) = (1 : Int32) then ((f_X12_readNumber q5 (0 : Int32) (20 : Int32)).bind fun q11 => ((f_X12_keep q11.2 (x1 + (2 : Int32)) q11.1).bind fun q12 => (if zb_bo q12.1 = true then some (q12.1, q12.2) else none))) else (if ((Mo_line q5) x1.toNatClampNeg) = (2 : Int32) then some ((1 : Int32), q5) else (if ((Mo_line q5) x1.toNatClampNeg) = (3 : Int32) then some ((1 : Int32), q5) else (if ((Mo_line q5) x1.toNatClampNeg) = (4 : Int32) then ((f_X12_readNumber q5 (1 : Int32) (99 : Int32)).bind fun q14 => ((f_X12_keep q14.2 (x1 + (2 : Int32)) q14.1).bind fun q15 => (if zb_bo q15.1 = true then some (q15.1, q15.2) else none))) else some ((1 : Int32), q5)))))) else none))) else none))
def f_X12_readManDoes_H3  (s0 : MoT) (k3 : MoT → Int32 → Int32 → Option (Int32 × MoT)) (x1 : Int32) (x2 : Int32) : Option (Int32 × MoT) := (if (10 : Int32) < x2 then f_X12_readManDoes_b23 s0 x1 x2 else ((f_X12_isWord s0 x2).bind fun q17 => (if q17 = 0 then k3 s0 x1 (x2 + (1 : Int32)) else f_X12_readManDoes_b23 s0 x1 x2)))
def f_X12_readManDoes_L3    : Nat → MoT → Int32 → Int32 → Option (Int32 × MoT)
  | 0 => fun _ _ _ => none
  | n + 1 => fun s0 x1 x2 => f_X12_readManDoes_H3 s0 (f_X12_readManDoes_L3  n) x1 x2
def f_X12_readManDoes  (s0 : MoT) (x1 : Int32) : Option (Int32 × MoT) := f_X12_readManDoes_L3 zFU s0 x1 (6 : Int32)
set_option maxRecDepth 100000 in
set_option maxHeartbeats 4000000 in
theorem t_X12_readManDoes_b123 (l : Launch) (G : zj_G) (a0 : Nat → Nat) (W0 : List va_W) (r : Int32 × MoT) (s0 : MoT)    (hf : f_X12_readManDoes_b123 s0 = some r) : zj_J l G M_X12_readManDoes W0 (zj_ret G M_X12_readManDoes W0 (some (.int r.1)) (fun _ => [w_Mo G a0 r.2])) 0 0 [w_Mo G a0 s0] [none, none, none] 123 [] := by
  unfold f_X12_readManDoes_b123 at hf
  refine zr_run [(.iconst 0, 0, 0, 0, .int (0 : Int32))] [] (WW' := [w_Mo G a0 s0]) (lv' := [none, none, none]) (pc' := 124) (st' := [.int (0 : Int32)]) (by decide +kernel) rfl rfl ⟨trivial, trivial⟩ ?_
  obtain rfl := Option.some.inj hf
  exact zr_zret (by decide) (b0 := fun _ => 0) (by decide +kernel) rfl rfl rfl rfl rfl
set_option maxRecDepth 100000 in
set_option maxHeartbeats 4000000 in
theorem t_X12_readManDoes_b23 (l : Launch) (G : zj_G) (a0 : Nat → Nat) (W0 : List va_W) (r : Int32 × MoT) (s0 : MoT)   (x1 : Int32) (x2 : Int32) (hf : f_X12_readManDoes_b23 s0 x1 x2 = some r) : zj_J l G M_X12_readManDoes W0 (zj_ret G M_X12_readManDoes W0 (some (.int r.1)) (fun _ => [w_Mo G a0 r.2])) 0 0 [w_Mo G a0 s0] [some (.ref (a0 0)), some (.int x1), some (.int x2)] 23 [] := by
  unfold f_X12_readManDoes_b23 at hf
  refine zr_run [(.iload_n 2, 0, 0, 0, .null), (.bipush 10, 0, 0, 0, .int (10 : Int32))] [] (WW' := [w_Mo G a0 s0]) (lv' := [some (.ref (a0 0)), some (.int x1), some (.int x2)]) (pc' := 26) (st' := [.int (10 : Int32), .int x2]) (by decide +kernel) rfl rfl ⟨trivial, trivial, trivial⟩ ?_
  refine zr_icmp_le (off := 9) (tgt := 35) (by decide +kernel) (by decide) (fun hc => ?_) (fun hc => ?_)
  · have hf := zift hf hc
    obtain ⟨q1, e1, hf⟩ := zbi_of hf
    refine zr_run [(.aload_n 0, 0, 0, 0, .null), (.iconst 1, 0, 0, 0, .int (1 : Int32))] [] (WW' := [w_Mo G a0 s0]) (lv' := [some (.ref (a0 0)), some (.int x1), some (.int x2)]) (pc' := 31) (st' := [.int (1 : Int32), .ref (a0 0)]) (by decide +kernel) rfl rfl ⟨trivial, trivial, trivial⟩ ?_
    refine zr_callV (c_X12_bad l G a0 s0 (1 : Int32) q1 e1) (WW' := fun _ => [w_Mo G a0 q1.2]) (st := []) (st' := [.int q1.1]) [0] rfl rfl (fun _ => Nat.le_of_ble_eq_true rfl) (fun _ => rfl) rfl rfl nm_X12_bad zw_7_19 zw_7_21 zw_0_56 zw_1_18 zw_7_22 rfl rfl rfl (Nat.le_of_ble_eq_true rfl) ⟨Nat.le_of_ble_eq_true rfl, Nat.le_of_ble_eq_true rfl⟩ (by decide +kernel) (fun _ => ?_)
    obtain ⟨h2, hf⟩ := zck_of hf
    obtain rfl := Option.some.inj hf
    exact zr_zret h2 (b0 := fun _ => 0) (by decide +kernel) rfl rfl rfl rfl rfl
  · have hf := ziff hf hc
    obtain ⟨h3, hf⟩ := zck_of hf
    obtain ⟨y4, e4, hf⟩ := zlet_of hf
    refine zr_run [(.aload_n 0, 0, 0, 0, .null), (.getfield 82, 0, 0, 45, .null), (.iload_n 1, 0, 0, 0, .null), (.iload_n 2, 0, 0, 0, .null), (.bipush 6, 0, 0, 0, .int (6 : Int32)), (.isub, 0, 0, 0, .null), (.iastore, 0, 21, 0, .null)] [] (WW' := [w_Mo G a0 (Mo_s_line s0 ((upd (Mo_line s0) x1.toNatClampNeg (x2 - (6 : Int32)))))]) (lv' := [some (.ref (a0 0)), some (.int x1), some (.int x2)]) (pc' := 45) (st' := []) (by decide +kernel) rfl rfl ⟨trivial, ⟨rfl, rfl, zw_6_74⟩, trivial, trivial, trivial, trivial, ⟨rfl, rfl, h3⟩, trivial⟩ ?_
    refine zr_eq (WW2 := [w_Mo G a0 y4]) (lv2 := [some (.ref (a0 0)), some (.int x1), some (.int x2)]) (st2 := []) (by rw [e4]) rfl rfl ?_
    obtain ⟨q5, e5, hf⟩ := zbi_of hf
    refine zr_run [(.aload_n 0, 0, 0, 0, .null)] [] (WW' := [w_Mo G a0 y4]) (lv' := [some (.ref (a0 0)), some (.int x1), some (.int x2)]) (pc' := 46) (st' := [.ref (a0 0)]) (by decide +kernel) rfl rfl ⟨trivial, trivial⟩ ?_
    refine zr_callV (c_X12_go l G a0 y4 q5 e5) (WW' := fun _ => [w_Mo G a0 q5]) (st := []) (st' := []) [0] rfl rfl (fun _ => Nat.le_of_ble_eq_true rfl) (fun _ => rfl) rfl rfl nm_X12_go zw_6_221 zw_6_223 zw_0_50 zw_1_18 zw_6_224 rfl rfl rfl (Nat.le_of_ble_eq_true rfl) ⟨Nat.le_of_ble_eq_true rfl, Nat.le_of_ble_eq_true rfl⟩ (by decide +kernel) (fun _ => ?_)
    obtain ⟨h6, hf⟩ := zck_of hf
    refine zr_run [(.aload_n 0, 0, 0, 0, .null), (.getfield 82, 0, 0, 45, .null), (.iload_n 1, 0, 0, 0, .null), (.iaload, 0, 21, 0, .null)] [] (WW' := [w_Mo G a0 q5]) (lv' := [some (.ref (a0 0)), some (.int x1), some (.int x2)]) (pc' := 55) (st' := [.int ((Mo_line q5) x1.toNatClampNeg)]) (by decide +kernel) rfl rfl ⟨trivial, ⟨rfl, rfl, zw_6_74⟩, trivial, ⟨rfl, rfl, h6⟩, trivial⟩ ?_
    by_cases hc0 : ((Mo_line q5) x1.toNatClampNeg) = (0 : Int32)
    · have hf := zift hf hc0
      refine zr_tabIn (v := (0 : Int32)) (tgt := 88) (dflt := 100) (lo := 0) (hi := 4) (offs := #[33, 70, 100, 100, 85]) (len := 33) (off := 33) hc0 (by decide +kernel) (by decide) (by decide) (by decide) ?_
      obtain ⟨q7, e7, hf⟩ := zbi_of hf
      refine zr_run [(.aload_n 0, 0, 0, 0, .null), (.iload_n 1, 0, 0, 0, .null), (.iconst 2, 0, 0, 0, .int (2 : Int32)), (.iadd, 0, 0, 0, .null), (.aload_n 0, 0, 0, 0, .null)] [] (WW' := [w_Mo G a0 q5]) (lv' := [some (.ref (a0 0)), some (.int x1), some (.int x2)]) (pc' := 93) (st' := [.ref (a0 0), .int (x1 + (2 : Int32)), .ref (a0 0)]) (by decide +kernel) rfl rfl ⟨trivial, trivial, trivial, trivial, trivial, trivial⟩ ?_
      refine zr_callV (c_X12_readPort l G a0 q5 q7 e7) (WW' := fun _ => [w_Mo G a0 q7.2]) (st := [.int (x1 + (2 : Int32)), .ref (a0 0)]) (st' := [.int q7.1, .int (x1 + (2 : Int32)), .ref (a0 0)]) [0] rfl rfl (fun _ => Nat.le_of_ble_eq_true rfl) (fun _ => rfl) rfl rfl nm_X12_readPort zw_8_147 zw_8_149 zw_0_111 zw_1_18 zw_8_150 rfl rfl rfl (Nat.le_of_ble_eq_true rfl) ⟨Nat.le_of_ble_eq_true rfl, Nat.le_of_ble_eq_true rfl⟩ (by decide +kernel) (fun _ => ?_)
      obtain ⟨q8, e8, hf⟩ := zbi_of hf
      refine zr_callV (c_X12_keep l G a0 q7.2 (x1 + (2 : Int32)) q7.1 q8 e8) (WW' := fun _ => [w_Mo G a0 q8.2]) (st := []) (st' := [.int q8.1]) [0] rfl rfl (fun _ => Nat.le_of_ble_eq_true rfl) (fun _ => rfl) rfl rfl nm_X12_keep zw_8_139 zw_8_141 zw_0_109 zw_1_18 zw_8_142 rfl rfl rfl (Nat.le_of_ble_eq_true rfl) ⟨Nat.le_of_ble_eq_true rfl, Nat.le_of_ble_eq_true rfl⟩ (by decide +kernel) (fun _ => ?_)
      refine zr_if_eq (off := 24) (tgt := 123) (by decide +kernel) (by decide) (fun hc => ?_) (fun hc => ?_)
      · have hf := zift hf hc
        refine zr_run [] [0, 1, 2] (WW' := [w_Mo G a0 q8.2]) (lv' := [none, none, none]) (pc' := 123) (st' := []) (by decide +kernel) rfl rfl trivial ?_
        exact t_X12_readManDoes_b123 l G a0 W0 r q8.2 hf
      · have hf := ziff hf hc
        obtain ⟨q9, e9, hf⟩ := zbi_of hf
        refine zr_run [(.aload_n 0, 0, 0, 0, .null), (.iload_n 1, 0, 0, 0, .null), (.iconst 3, 0, 0, 0, .int (3 : Int32)), (.iadd, 0, 0, 0, .null), (.aload_n 0, 0, 0, 0, .null), (.iconst 1, 0, 0, 0, .int (1 : Int32)), (.bipush 40, 0, 0, 0, .int (40 : Int32))] [] (WW' := [w_Mo G a0 q8.2]) (lv' := [some (.ref (a0 0)), some (.int x1), some (.int x2)]) (pc' := 110) (st' := [.int (40 : Int32), .int (1 : Int32), .ref (a0 0), .int (x1 + (3 : Int32)), .ref (a0 0)]) (by decide +kernel) rfl rfl ⟨trivial, trivial, trivial, trivial, trivial, trivial, trivial, trivial⟩ ?_
        refine zr_callV (c_X12_readNumber l G a0 q8.2 (1 : Int32) (40 : Int32) q9 e9) (WW' := fun _ => [w_Mo G a0 q9.2]) (st := [.int (x1 + (3 : Int32)), .ref (a0 0)]) (st' := [.int q9.1, .int (x1 + (3 : Int32)), .ref (a0 0)]) [0] rfl rfl (fun _ => Nat.le_of_ble_eq_true rfl) (fun _ => rfl) rfl rfl nm_X12_readNumber zw_7_34 zw_7_36 zw_0_59 zw_1_18 zw_7_37 rfl rfl rfl (Nat.le_of_ble_eq_true rfl) ⟨Nat.le_of_ble_eq_true rfl, Nat.le_of_ble_eq_true rfl⟩ (by decide +kernel) (fun _ => ?_)
        obtain ⟨q10, e10, hf⟩ := zbi_of hf
        refine zr_callV (c_X12_keep l G a0 q9.2 (x1 + (3 : Int32)) q9.1 q10 e10) (WW' := fun _ => [w_Mo G a0 q10.2]) (st := []) (st' := [.int q10.1]) [0] rfl rfl (fun _ => Nat.le_of_ble_eq_true rfl) (fun _ => rfl) rfl rfl nm_X12_keep zw_8_139 zw_8_141 zw_0_109 zw_1_18 zw_8_142 rfl rfl rfl (Nat.le_of_ble_eq_true rfl) ⟨Nat.le_of_ble_eq_true rfl, Nat.le_of_ble_eq_true rfl⟩ (by decide +kernel) (fun _ => ?_)
        refine zr_if_eq (off := 7) (tgt := 123) (by decide +kernel) (by decide) (fun hc => ?_) (fun hc => ?_)
        · have hf := zift hf hc
          refine zr_run [] [0, 1, 2] (WW' := [w_Mo G a0 q10.2]) (lv' := [none, none, none]) (pc' := 123) (st' := []) (by decide +kernel) rfl rfl trivial ?_
          exact t_X12_readManDoes_b123 l G a0 W0 r q10.2 hf
        · have hf := ziff hf hc
          refine zr_run [(.iconst 1, 0, 0, 0, .int (1 : Int32))] [] (WW' := [w_Mo G a0 q10.2]) (lv' := [some (.ref (a0 0)), some (.int x1), some (.int x2)]) (pc' := 120) (st' := [.int (1 : Int32)]) (by decide +kernel) rfl rfl ⟨trivial, trivial⟩ ?_
          refine zr_goto (off := 4) (tgt := 124) (by decide +kernel) (by decide) ?_
          obtain rfl := Option.some.inj hf
          exact zr_zret (by decide) (b0 := fun _ => 0) (by decide +kernel) rfl rfl rfl rfl rfl
    · have hf := ziff hf hc0
      by_cases hc1 : ((Mo_line q5) x1.toNatClampNeg) = (1 : Int32)
      · have hf := zift hf hc1
        refine zr_tabIn (v := (1 : Int32)) (tgt := 125) (dflt := 100) (lo := 0) (hi := 4) (offs := #[33, 70, 100, 100, 85]) (len := 33) (off := 70) hc1 (by decide +kernel) (by decide) (by decide) (by decide) ?_
        obtain ⟨q11, e11, hf⟩ := zbi_of hf
        refine zr_run [(.aload_n 0, 0, 0, 0, .null), (.iload_n 1, 0, 0, 0, .null), (.iconst 2, 0, 0, 0, .int (2 : Int32)), (.iadd, 0, 0, 0, .null), (.aload_n 0, 0, 0, 0, .null), (.iconst 0, 0, 0, 0, .int (0 : Int32)), (.bipush 20, 0, 0, 0, .int (20 : Int32))] [] (WW' := [w_Mo G a0 q5]) (lv' := [some (.ref (a0 0)), some (.int x1), some (.int x2)]) (pc' := 133) (st' := [.int (20 : Int32), .int (0 : Int32), .ref (a0 0), .int (x1 + (2 : Int32)), .ref (a0 0)]) (by decide +kernel) rfl rfl ⟨trivial, trivial, trivial, trivial, trivial, trivial, trivial, trivial⟩ ?_
        refine zr_callV (c_X12_readNumber l G a0 q5 (0 : Int32) (20 : Int32) q11 e11) (WW' := fun _ => [w_Mo G a0 q11.2]) (st := [.int (x1 + (2 : Int32)), .ref (a0 0)]) (st' := [.int q11.1, .int (x1 + (2 : Int32)), .ref (a0 0)]) [0] rfl rfl (fun _ => Nat.le_of_ble_eq_true rfl) (fun _ => rfl) rfl rfl nm_X12_readNumber zw_7_34 zw_7_36 zw_0_59 zw_1_18 zw_7_37 rfl rfl rfl (Nat.le_of_ble_eq_true rfl) ⟨Nat.le_of_ble_eq_true rfl, Nat.le_of_ble_eq_true rfl⟩ (by decide +kernel) (fun _ => ?_)
        obtain ⟨q12, e12, hf⟩ := zbi_of hf
        refine zr_callV (c_X12_keep l G a0 q11.2 (x1 + (2 : Int32)) q11.1 q12 e12) (WW' := fun _ => [w_Mo G a0 q12.2]) (st := []) (st' := [.int q12.1]) [0] rfl rfl (fun _ => Nat.le_of_ble_eq_true rfl) (fun _ => rfl) rfl rfl nm_X12_keep zw_8_139 zw_8_141 zw_0_109 zw_1_18 zw_8_142 rfl rfl rfl (Nat.le_of_ble_eq_true rfl) ⟨Nat.le_of_ble_eq_true rfl, Nat.le_of_ble_eq_true rfl⟩ (by decide +kernel) (fun _ => ?_)
        obtain ⟨h13, hf⟩ := zck_of hf
        obtain rfl := Option.some.inj hf
        exact zr_zret h13 (b0 := fun _ => 0) (by decide +kernel) rfl rfl rfl rfl rfl
      · have hf := ziff hf hc1
        by_cases hc2 : ((Mo_line q5) x1.toNatClampNeg) = (2 : Int32)
        · have hf := zift hf hc2
          refine zr_tabIn (v := (2 : Int32)) (tgt := 155) (dflt := 100) (lo := 0) (hi := 4) (offs := #[33, 70, 100, 100, 85]) (len := 33) (off := 100) hc2 (by decide +kernel) (by decide) (by decide) (by decide) ?_
          refine zr_run [(.iconst 1, 0, 0, 0, .int (1 : Int32))] [] (WW' := [w_Mo G a0 q5]) (lv' := [some (.ref (a0 0)), some (.int x1), some (.int x2)]) (pc' := 156) (st' := [.int (1 : Int32)]) (by decide +kernel) rfl rfl ⟨trivial, trivial⟩ ?_
          obtain rfl := Option.some.inj hf
          exact zr_zret (by decide) (b0 := fun _ => 0) (by decide +kernel) rfl rfl rfl rfl rfl
        · have hf := ziff hf hc2
          by_cases hc3 : ((Mo_line q5) x1.toNatClampNeg) = (3 : Int32)
          · have hf := zift hf hc3
            refine zr_tabIn (v := (3 : Int32)) (tgt := 155) (dflt := 100) (lo := 0) (hi := 4) (offs := #[33, 70, 100, 100, 85]) (len := 33) (off := 100) hc3 (by decide +kernel) (by decide) (by decide) (by decide) ?_
            refine zr_run [(.iconst 1, 0, 0, 0, .int (1 : Int32))] [] (WW' := [w_Mo G a0 q5]) (lv' := [some (.ref (a0 0)), some (.int x1), some (.int x2)]) (pc' := 156) (st' := [.int (1 : Int32)]) (by decide +kernel) rfl rfl ⟨trivial, trivial⟩ ?_
            obtain rfl := Option.some.inj hf
            exact zr_zret (by decide) (b0 := fun _ => 0) (by decide +kernel) rfl rfl rfl rfl rfl
          · have hf := ziff hf hc3
            by_cases hc4 : ((Mo_line q5) x1.toNatClampNeg) = (4 : Int32)
            · have hf := zift hf hc4
              refine zr_tabIn (v := (4 : Int32)) (tgt := 140) (dflt := 100) (lo := 0) (hi := 4) (offs := #[33, 70, 100, 100, 85]) (len := 33) (off := 85) hc4 (by decide +kernel) (by decide) (by decide) (by decide) ?_
              obtain ⟨q14, e14, hf⟩ := zbi_of hf
              refine zr_run [(.aload_n 0, 0, 0, 0, .null), (.iload_n 1, 0, 0, 0, .null), (.iconst 2, 0, 0, 0, .int (2 : Int32)), (.iadd, 0, 0, 0, .null), (.aload_n 0, 0, 0, 0, .null), (.iconst 1, 0, 0, 0, .int (1 : Int32)), (.bipush 99, 0, 0, 0, .int (99 : Int32))] [] (WW' := [w_Mo G a0 q5]) (lv' := [some (.ref (a0 0)), some (.int x1), some (.int x2)]) (pc' := 148) (st' := [.int (99 : Int32), .int (1 : Int32), .ref (a0 0), .int (x1 + (2 : Int32)), .ref (a0 0)]) (by decide +kernel) rfl rfl ⟨trivial, trivial, trivial, trivial, trivial, trivial, trivial, trivial⟩ ?_
              refine zr_callV (c_X12_readNumber l G a0 q5 (1 : Int32) (99 : Int32) q14 e14) (WW' := fun _ => [w_Mo G a0 q14.2]) (st := [.int (x1 + (2 : Int32)), .ref (a0 0)]) (st' := [.int q14.1, .int (x1 + (2 : Int32)), .ref (a0 0)]) [0] rfl rfl (fun _ => Nat.le_of_ble_eq_true rfl) (fun _ => rfl) rfl rfl nm_X12_readNumber zw_7_34 zw_7_36 zw_0_59 zw_1_18 zw_7_37 rfl rfl rfl (Nat.le_of_ble_eq_true rfl) ⟨Nat.le_of_ble_eq_true rfl, Nat.le_of_ble_eq_true rfl⟩ (by decide +kernel) (fun _ => ?_)
              obtain ⟨q15, e15, hf⟩ := zbi_of hf
              refine zr_callV (c_X12_keep l G a0 q14.2 (x1 + (2 : Int32)) q14.1 q15 e15) (WW' := fun _ => [w_Mo G a0 q15.2]) (st := []) (st' := [.int q15.1]) [0] rfl rfl (fun _ => Nat.le_of_ble_eq_true rfl) (fun _ => rfl) rfl rfl nm_X12_keep zw_8_139 zw_8_141 zw_0_109 zw_1_18 zw_8_142 rfl rfl rfl (Nat.le_of_ble_eq_true rfl) ⟨Nat.le_of_ble_eq_true rfl, Nat.le_of_ble_eq_true rfl⟩ (by decide +kernel) (fun _ => ?_)
              obtain ⟨h16, hf⟩ := zck_of hf
              obtain rfl := Option.some.inj hf
              exact zr_zret h16 (b0 := fun _ => 0) (by decide +kernel) rfl rfl rfl rfl rfl
            · have hf := ziff hf hc4
              refine zr_tabOut (tgt := 155) (dflt := 100) (lo := 0) (hi := 4) (offs := #[33, 70, 100, 100, 85]) (len := 33) (by decide +kernel) (by have q0 := lv_neT hc0 (a := 0) (by decide); have q1 := lv_neT hc1 (a := 1) (by decide); have q2 := lv_neT hc2 (a := 2) (by decide); have q3 := lv_neT hc3 (a := 3) (by decide); have q4 := lv_neT hc4 (a := 4) (by decide); omega) (by decide) ?_
              refine zr_run [(.iconst 1, 0, 0, 0, .int (1 : Int32))] [] (WW' := [w_Mo G a0 q5]) (lv' := [some (.ref (a0 0)), some (.int x1), some (.int x2)]) (pc' := 156) (st' := [.int (1 : Int32)]) (by decide +kernel) rfl rfl ⟨trivial, trivial⟩ ?_
              obtain rfl := Option.some.inj hf
              exact zr_zret (by decide) (b0 := fun _ => 0) (by decide +kernel) rfl rfl rfl rfl rfl
set_option maxRecDepth 100000 in
set_option maxHeartbeats 4000000 in
theorem t_X12_readManDoes_H3 (l : Launch) (G : zj_G) (a0 : Nat → Nat) (W0 : List va_W) (r : Int32 × MoT) (s0 : MoT) (k3 : MoT → Int32 → Int32 → Option (Int32 × MoT)) (hk3 : ∀ (s0 : MoT) (x1 : Int32) (x2 : Int32), k3 s0 x1 x2 = some r → zj_J l G M_X12_readManDoes W0 (zj_ret G M_X12_readManDoes W0 (some (.int r.1)) (fun _ => [w_Mo G a0 r.2])) 0 0 [w_Mo G a0 s0] [some (.ref (a0 0)), some (.int x1), some (.int x2)] 3 []) (x1 : Int32) (x2 : Int32) (hf : f_X12_readManDoes_H3 s0 k3 x1 x2 = some r) : zj_J l G M_X12_readManDoes W0 (zj_ret G M_X12_readManDoes W0 (some (.int r.1)) (fun _ => [w_Mo G a0 r.2])) 0 0 [w_Mo G a0 s0] [some (.ref (a0 0)), some (.int x1), some (.int x2)] 3 [] := by
  unfold f_X12_readManDoes_H3 at hf
  refine zr_run [(.iload_n 2, 0, 0, 0, .null), (.bipush 10, 0, 0, 0, .int (10 : Int32))] [] (WW' := [w_Mo G a0 s0]) (lv' := [some (.ref (a0 0)), some (.int x1), some (.int x2)]) (pc' := 6) (st' := [.int (10 : Int32), .int x2]) (by decide +kernel) rfl rfl ⟨trivial, trivial, trivial⟩ ?_
  refine zr_icmp_gt (off := 17) (tgt := 23) (by decide +kernel) (by decide) (fun hc => ?_) (fun hc => ?_)
  · have hf := zift hf hc
    exact t_X12_readManDoes_b23 l G a0 W0 r s0 x1 x2 hf
  · have hf := ziff hf hc
    obtain ⟨q17, e17, hf⟩ := zbi_of hf
    refine zr_run [(.aload_n 0, 0, 0, 0, .null), (.iload_n 2, 0, 0, 0, .null)] [] (WW' := [w_Mo G a0 s0]) (lv' := [some (.ref (a0 0)), some (.int x1), some (.int x2)]) (pc' := 11) (st' := [.int x2, .ref (a0 0)]) (by decide +kernel) rfl rfl ⟨trivial, trivial, trivial⟩ ?_
    refine zr_callV (c_X12_isWord l G a0 s0 x2 q17 e17) (WW' := fun _ => [w_Mo G a0 s0]) (st := []) (st' := [.int q17]) [0] rfl rfl (fun _ => Nat.le_of_ble_eq_true rfl) (fun _ => rfl) rfl rfl nm_X12_isWord zw_7_1 zw_7_3 zw_0_53 zw_1_18 zw_7_4 rfl rfl rfl (Nat.le_of_ble_eq_true rfl) ⟨Nat.le_of_ble_eq_true rfl, Nat.le_of_ble_eq_true rfl⟩ (by decide +kernel) (fun _ => ?_)
    refine zr_if_ne (off := 9) (tgt := 23) (by decide +kernel) (by decide) (fun hc => ?_) (fun hc => ?_)
    · have hf := zift hf hc
      refine zr_run [(.iinc 2 1, 0, 0, 0, .int (1 : Int32))] [] (WW' := [w_Mo G a0 s0]) (lv' := [some (.ref (a0 0)), some (.int x1), some (.int (x2 + (1 : Int32)))]) (pc' := 20) (st' := []) (by decide +kernel) rfl rfl ⟨trivial, trivial⟩ ?_
      refine zr_goto (off := -17) (tgt := 3) (by decide +kernel) (by decide) ?_
      exact hk3 s0 x1 (x2 + (1 : Int32)) hf
    · have hf := ziff hf hc
      exact t_X12_readManDoes_b23 l G a0 W0 r s0 x1 x2 hf
theorem t_X12_readManDoes_L3 (l : Launch) (G : zj_G) (a0 : Nat → Nat) (W0 : List va_W) (r : Int32 × MoT)    : ∀ (n : Nat) (s0 : MoT) (x1 : Int32) (x2 : Int32), f_X12_readManDoes_L3 n s0 x1 x2 = some r → zj_J l G M_X12_readManDoes W0 (zj_ret G M_X12_readManDoes W0 (some (.int r.1)) (fun _ => [w_Mo G a0 r.2])) 0 0 [w_Mo G a0 s0] [some (.ref (a0 0)), some (.int x1), some (.int x2)] 3 [] := by
  intro n
  induction n with
  | zero => intro s0 x1 x2 hf; exact nomatch (show none = some r from hf)
  | succ n ih => intro s0 x1 x2 hf; exact t_X12_readManDoes_H3 l G a0 W0 r s0  (f_X12_readManDoes_L3 n)  ih x1 x2  hf
set_option maxRecDepth 100000 in
set_option maxHeartbeats 4000000 in
theorem c_X12_readManDoes (l : Launch) (G : zj_G) (a0 : Nat → Nat) (s0 : MoT) (x1 : Int32) (r : Int32 × MoT) (hf : f_X12_readManDoes s0 x1 = some r) : zj_C l G M_X12_readManDoes yX12_readManDoes [w_Mo G a0 s0] [.ref (a0 0), .int x1] (some (.int r.1)) (fun _ => [w_Mo G a0 r.2]) := by
  have key : ∀ W0 : List va_W, zj_J l G M_X12_readManDoes W0 (zj_ret G M_X12_readManDoes W0 (some (.int r.1)) (fun _ => [w_Mo G a0 r.2])) 0 0 [w_Mo G a0 s0] [some (.ref (a0 0)), some (.int x1), none] 0 [] := by
    intro W0
    unfold f_X12_readManDoes at hf
    refine zr_run [(.bipush 6, 0, 0, 0, .int (6 : Int32)), (.istore_n 2, 0, 0, 0, .null)] [] (WW' := [w_Mo G a0 s0]) (lv' := [some (.ref (a0 0)), some (.int x1), some (.int (6 : Int32))]) (pc' := 3) (st' := []) (by decide +kernel) rfl rfl ⟨trivial, trivial, trivial⟩ ?_
    exact t_X12_readManDoes_L3 l G a0 W0 r zFU s0 x1 (6 : Int32) hf
  exact zj_entry [some (.ref (a0 0)), some (.int x1), none] (by decide +kernel) rfl (by decide) (Nat.le_of_ble_eq_true rfl) rfl rfl (key _)
def M_X12_readBookLine : zj_M := (RX12, cX12_readBookLine, 3, (some .boolean), { frames := 5, cells := 0, slots := 0, locals := 110 }, false)
theorem nm_X12_readBookLine : zj_nm yX12_readBookLine 0 := ⟨by decide +kernel, by decide +kernel, by decide +kernel⟩
def f_X12_readBookLine_b173  (s0 : MoT)   : Option (Int32 × MoT) := some ((0 : Int32), s0)
def f_X12_readBookLine_b162  (s0 : MoT)   : Option (Int32 × MoT) := ((f_X12_readEnd s0).bind fun q19 => (if q19.1 = 0 then f_X12_readBookLine_b173 q19.2 else some ((1 : Int32), q19.2)))
def f_X12_readBookLine_b116  (s0 : MoT)  (x1 : Int32) (x2 : Int32) (z0 : Int32) (z1 : Int32) : Option (Int32 × MoT) := (if zb_in z1 160 = true then (zlet (Mo_s_line s0 ((upd (Mo_line s0) z1.toNatClampNeg z0))) fun y14 => (if zb_in (x2 + (2 : Int32)) 160 = true then (zlet (Mo_s_line y14 ((upd (Mo_line y14) (x2 + (2 : Int32)).toNatClampNeg (0 : Int32)))) fun y16 => ((f_X12_go y16).bind fun q17 => (if x1 = 0 then ((f_X12_readManDoes q17 x2).bind fun q18 => (if q18.1 = 0 then f_X12_readBookLine_b173 q18.2 else f_X12_readBookLine_b162 q18.2)) else ((f_X12_readNumber q17 (1 : Int32) (30 : Int32)).bind fun q20 => ((f_X12_keep q20.2 (x2 + (2 : Int32)) q20.1).bind fun q21 => (if q21.1 = 0 then f_X12_readBookLine_b173 q21.2 else f_X12_readBookLine_b162 q21.2)))))) else none)) else none)
def f_X12_readBookLine_b53  (s0 : MoT)  (x1 : Int32) : Option (Int32 × MoT) := (if (Mo_lineMany s0) = (40 : Int32) then ((f_X12_bad s0 (4 : Int32)).bind fun q8 => (if zb_bo q8.1 = true then some (q8.1, q8.2) else none)) else (if zb_in ((4 : Int32) * (Mo_lineMany s0)) 160 = true then (zlet (Mo_s_line s0 ((upd (Mo_line s0) ((4 : Int32) * (Mo_lineMany s0)).toNatClampNeg (5 : Int32)))) fun y11 => (if x1 = 0 then ((f_X12_findIn 16 (Mo_name y11) (10 : Int32) ((Mo_now y11) (2 : Int32).toNatClampNeg) (Mo_word y11)).bind fun q12 => f_X12_readBookLine_b116 y11 x1 ((4 : Int32) * (Mo_lineMany s0)) q12 (((4 : Int32) * (Mo_lineMany s0)) + (1 : Int32))) else f_X12_readBookLine_b116 y11 x1 ((4 : Int32) * (Mo_lineMany s0)) (0 : Int32) (((4 : Int32) * (Mo_lineMany s0)) + (1 : Int32)))) else none))
def f_X12_readBookLine  (s0 : MoT)  : Option (Int32 × MoT) := ((f_X12_isWord s0 (11 : Int32)).bind fun q1 => (if q1 = 0 then ((f_X12_isName s0).bind fun q2 => (if q2 = 0 then ((f_X12_bad s0 (1 : Int32)).bind fun q3 => (if zb_bo q3.1 = true then some (q3.1, q3.2) else none)) else ((f_X12_findIn 16 (Mo_name s0) (10 : Int32) ((Mo_now s0) (2 : Int32).toNatClampNeg) (Mo_word s0)).bind fun q5 => (if q5 = (-1 : Int32) then ((f_X12_bad s0 (3 : Int32)).bind fun q6 => (if zb_bo q6.1 = true then some (q6.1, q6.2) else none)) else f_X12_readBookLine_b53 s0 q1)))) else f_X12_readBookLine_b53 s0 q1))
set_option maxRecDepth 100000 in
set_option maxHeartbeats 4000000 in
theorem t_X12_readBookLine_b173 (l : Launch) (G : zj_G) (a0 : Nat → Nat) (W0 : List va_W) (r : Int32 × MoT) (s0 : MoT)    (hf : f_X12_readBookLine_b173 s0 = some r) : zj_J l G M_X12_readBookLine W0 (zj_ret G M_X12_readBookLine W0 (some (.int r.1)) (fun _ => [w_Mo G a0 r.2])) 0 0 [w_Mo G a0 s0] [none, none, none] 173 [] := by
  unfold f_X12_readBookLine_b173 at hf
  refine zr_run [(.iconst 0, 0, 0, 0, .int (0 : Int32))] [] (WW' := [w_Mo G a0 s0]) (lv' := [none, none, none]) (pc' := 174) (st' := [.int (0 : Int32)]) (by decide +kernel) rfl rfl ⟨trivial, trivial⟩ ?_
  obtain rfl := Option.some.inj hf
  exact zr_zret (by decide) (b0 := fun _ => 0) (by decide +kernel) rfl rfl rfl rfl rfl
set_option maxRecDepth 100000 in
set_option maxHeartbeats 4000000 in
theorem t_X12_readBookLine_b162 (l : Launch) (G : zj_G) (a0 : Nat → Nat) (W0 : List va_W) (r : Int32 × MoT) (s0 : MoT)    (hf : f_X12_readBookLine_b162 s0 = some r) : zj_J l G M_X12_readBookLine W0 (zj_ret G M_X12_readBookLine W0 (some (.int r.1)) (fun _ => [w_Mo G a0 r.2])) 0 0 [w_Mo G a0 s0] [some (.ref (a0 0)), none, none] 162 [] := by
  unfold f_X12_readBookLine_b162 at hf
  obtain ⟨q19, e19, hf⟩ := zbi_of hf
  refine zr_run [(.aload_n 0, 0, 0, 0, .null)] [] (WW' := [w_Mo G a0 s0]) (lv' := [some (.ref (a0 0)), none, none]) (pc' := 163) (st' := [.ref (a0 0)]) (by decide +kernel) rfl rfl ⟨trivial, trivial⟩ ?_
  refine zr_callV (c_X12_readEnd l G a0 s0 q19 e19) (WW' := fun _ => [w_Mo G a0 q19.2]) (st := []) (st' := [.int q19.1]) [0] rfl rfl (fun _ => Nat.le_of_ble_eq_true rfl) (fun _ => rfl) rfl rfl nm_X12_readEnd zw_7_64 zw_7_66 zw_0_65 zw_1_18 zw_7_67 rfl rfl rfl (Nat.le_of_ble_eq_true rfl) ⟨Nat.le_of_ble_eq_true rfl, Nat.le_of_ble_eq_true rfl⟩ (by decide +kernel) (fun _ => ?_)
  refine zr_if_eq (off := 7) (tgt := 173) (by decide +kernel) (by decide) (fun hc => ?_) (fun hc => ?_)
  · have hf := zift hf hc
    refine zr_run [] [0] (WW' := [w_Mo G a0 q19.2]) (lv' := [none, none, none]) (pc' := 173) (st' := []) (by decide +kernel) rfl rfl trivial ?_
    exact t_X12_readBookLine_b173 l G a0 W0 r q19.2 hf
  · have hf := ziff hf hc
    refine zr_run [(.iconst 1, 0, 0, 0, .int (1 : Int32))] [] (WW' := [w_Mo G a0 q19.2]) (lv' := [some (.ref (a0 0)), none, none]) (pc' := 170) (st' := [.int (1 : Int32)]) (by decide +kernel) rfl rfl ⟨trivial, trivial⟩ ?_
    refine zr_goto (off := 4) (tgt := 174) (by decide +kernel) (by decide) ?_
    obtain rfl := Option.some.inj hf
    exact zr_zret (by decide) (b0 := fun _ => 0) (by decide +kernel) rfl rfl rfl rfl rfl
set_option maxRecDepth 100000 in
set_option maxHeartbeats 4000000 in
theorem t_X12_readBookLine_b116 (l : Launch) (G : zj_G) (a0 : Nat → Nat) (W0 : List va_W) (r : Int32 × MoT) (s0 : MoT)   (x1 : Int32) (x2 : Int32) (z0 : Int32) (z1 : Int32) (hf : f_X12_readBookLine_b116 s0 x1 x2 z0 z1 = some r) : zj_J l G M_X12_readBookLine W0 (zj_ret G M_X12_readBookLine W0 (some (.int r.1)) (fun _ => [w_Mo G a0 r.2])) 0 0 [w_Mo G a0 s0] [some (.ref (a0 0)), some (.int x1), some (.int x2)] 116 [.int z0, .int z1, .ref (a0 21)] := by
  unfold f_X12_readBookLine_b116 at hf
  obtain ⟨h13, hf⟩ := zck_of hf
  obtain ⟨y14, e14, hf⟩ := zlet_of hf
  refine zr_run [(.iastore, 0, 21, 0, .null)] [] (WW' := [w_Mo G a0 (Mo_s_line s0 ((upd (Mo_line s0) z1.toNatClampNeg z0)))]) (lv' := [some (.ref (a0 0)), some (.int x1), some (.int x2)]) (pc' := 117) (st' := []) (by decide +kernel) rfl rfl ⟨⟨rfl, rfl, h13⟩, trivial⟩ ?_
  refine zr_eq (WW2 := [w_Mo G a0 y14]) (lv2 := [some (.ref (a0 0)), some (.int x1), some (.int x2)]) (st2 := []) (by rw [e14]) rfl rfl ?_
  obtain ⟨h15, hf⟩ := zck_of hf
  obtain ⟨y16, e16, hf⟩ := zlet_of hf
  refine zr_run [(.aload_n 0, 0, 0, 0, .null), (.getfield 82, 0, 0, 45, .null), (.iload_n 2, 0, 0, 0, .null), (.iconst 2, 0, 0, 0, .int (2 : Int32)), (.iadd, 0, 0, 0, .null), (.iconst 0, 0, 0, 0, .int (0 : Int32)), (.iastore, 0, 21, 0, .null)] [] (WW' := [w_Mo G a0 (Mo_s_line y14 ((upd (Mo_line y14) (x2 + (2 : Int32)).toNatClampNeg (0 : Int32))))]) (lv' := [some (.ref (a0 0)), some (.int x1), some (.int x2)]) (pc' := 126) (st' := []) (by decide +kernel) rfl rfl ⟨trivial, ⟨rfl, rfl, zw_6_74⟩, trivial, trivial, trivial, trivial, ⟨rfl, rfl, h15⟩, trivial⟩ ?_
  refine zr_eq (WW2 := [w_Mo G a0 y16]) (lv2 := [some (.ref (a0 0)), some (.int x1), some (.int x2)]) (st2 := []) (by rw [e16]) rfl rfl ?_
  obtain ⟨q17, e17, hf⟩ := zbi_of hf
  refine zr_run [(.aload_n 0, 0, 0, 0, .null)] [] (WW' := [w_Mo G a0 y16]) (lv' := [some (.ref (a0 0)), some (.int x1), some (.int x2)]) (pc' := 127) (st' := [.ref (a0 0)]) (by decide +kernel) rfl rfl ⟨trivial, trivial⟩ ?_
  refine zr_callV (c_X12_go l G a0 y16 q17 e17) (WW' := fun _ => [w_Mo G a0 q17]) (st := []) (st' := []) [0] rfl rfl (fun _ => Nat.le_of_ble_eq_true rfl) (fun _ => rfl) rfl rfl nm_X12_go zw_6_221 zw_6_223 zw_0_50 zw_1_18 zw_6_224 rfl rfl rfl (Nat.le_of_ble_eq_true rfl) ⟨Nat.le_of_ble_eq_true rfl, Nat.le_of_ble_eq_true rfl⟩ (by decide +kernel) (fun _ => ?_)
  refine zr_run [(.iload_n 1, 0, 0, 0, .null)] [] (WW' := [w_Mo G a0 q17]) (lv' := [some (.ref (a0 0)), some (.int x1), some (.int x2)]) (pc' := 131) (st' := [.int x1]) (by decide +kernel) rfl rfl ⟨trivial, trivial⟩ ?_
  refine zr_if_eq (off := 23) (tgt := 154) (by decide +kernel) (by decide) (fun hc => ?_) (fun hc => ?_)
  · have hf := zift hf hc
    obtain ⟨q18, e18, hf⟩ := zbi_of hf
    refine zr_run [(.aload_n 0, 0, 0, 0, .null), (.iload_n 2, 0, 0, 0, .null)] [] (WW' := [w_Mo G a0 q17]) (lv' := [some (.ref (a0 0)), some (.int x1), some (.int x2)]) (pc' := 156) (st' := [.int x2, .ref (a0 0)]) (by decide +kernel) rfl rfl ⟨trivial, trivial, trivial⟩ ?_
    refine zr_callV (c_X12_readManDoes l G a0 q17 x2 q18 e18) (WW' := fun _ => [w_Mo G a0 q18.2]) (st := []) (st' := [.int q18.1]) [0] rfl rfl (fun _ => Nat.le_of_ble_eq_true rfl) (fun _ => rfl) rfl rfl nm_X12_readManDoes zw_8_143 zw_8_145 zw_0_110 zw_1_18 zw_8_146 rfl rfl rfl (Nat.le_of_ble_eq_true rfl) ⟨Nat.le_of_ble_eq_true rfl, Nat.le_of_ble_eq_true rfl⟩ (by decide +kernel) (fun _ => ?_)
    refine zr_if_eq (off := 14) (tgt := 173) (by decide +kernel) (by decide) (fun hc => ?_) (fun hc => ?_)
    · have hf := zift hf hc
      refine zr_run [] [0, 1, 2] (WW' := [w_Mo G a0 q18.2]) (lv' := [none, none, none]) (pc' := 173) (st' := []) (by decide +kernel) rfl rfl trivial ?_
      exact t_X12_readBookLine_b173 l G a0 W0 r q18.2 hf
    · have hf := ziff hf hc
      refine zr_run [] [1, 2] (WW' := [w_Mo G a0 q18.2]) (lv' := [some (.ref (a0 0)), none, none]) (pc' := 162) (st' := []) (by decide +kernel) rfl rfl trivial ?_
      exact t_X12_readBookLine_b162 l G a0 W0 r q18.2 hf
  · have hf := ziff hf hc
    obtain ⟨q20, e20, hf⟩ := zbi_of hf
    refine zr_run [(.aload_n 0, 0, 0, 0, .null), (.iload_n 2, 0, 0, 0, .null), (.iconst 2, 0, 0, 0, .int (2 : Int32)), (.iadd, 0, 0, 0, .null), (.aload_n 0, 0, 0, 0, .null), (.iconst 1, 0, 0, 0, .int (1 : Int32)), (.bipush 30, 0, 0, 0, .int (30 : Int32))] [] (WW' := [w_Mo G a0 q17]) (lv' := [some (.ref (a0 0)), some (.int x1), some (.int x2)]) (pc' := 142) (st' := [.int (30 : Int32), .int (1 : Int32), .ref (a0 0), .int (x2 + (2 : Int32)), .ref (a0 0)]) (by decide +kernel) rfl rfl ⟨trivial, trivial, trivial, trivial, trivial, trivial, trivial, trivial⟩ ?_
    refine zr_callV (c_X12_readNumber l G a0 q17 (1 : Int32) (30 : Int32) q20 e20) (WW' := fun _ => [w_Mo G a0 q20.2]) (st := [.int (x2 + (2 : Int32)), .ref (a0 0)]) (st' := [.int q20.1, .int (x2 + (2 : Int32)), .ref (a0 0)]) [0] rfl rfl (fun _ => Nat.le_of_ble_eq_true rfl) (fun _ => rfl) rfl rfl nm_X12_readNumber zw_7_34 zw_7_36 zw_0_59 zw_1_18 zw_7_37 rfl rfl rfl (Nat.le_of_ble_eq_true rfl) ⟨Nat.le_of_ble_eq_true rfl, Nat.le_of_ble_eq_true rfl⟩ (by decide +kernel) (fun _ => ?_)
    obtain ⟨q21, e21, hf⟩ := zbi_of hf
    refine zr_callV (c_X12_keep l G a0 q20.2 (x2 + (2 : Int32)) q20.1 q21 e21) (WW' := fun _ => [w_Mo G a0 q21.2]) (st := []) (st' := [.int q21.1]) [0] rfl rfl (fun _ => Nat.le_of_ble_eq_true rfl) (fun _ => rfl) rfl rfl nm_X12_keep zw_8_139 zw_8_141 zw_0_109 zw_1_18 zw_8_142 rfl rfl rfl (Nat.le_of_ble_eq_true rfl) ⟨Nat.le_of_ble_eq_true rfl, Nat.le_of_ble_eq_true rfl⟩ (by decide +kernel) (fun _ => ?_)
    refine zr_if_eq (off := 25) (tgt := 173) (by decide +kernel) (by decide) (fun hc => ?_) (fun hc => ?_)
    · have hf := zift hf hc
      refine zr_run [] [0, 1, 2] (WW' := [w_Mo G a0 q21.2]) (lv' := [none, none, none]) (pc' := 173) (st' := []) (by decide +kernel) rfl rfl trivial ?_
      exact t_X12_readBookLine_b173 l G a0 W0 r q21.2 hf
    · have hf := ziff hf hc
      refine zr_goto (off := 11) (tgt := 162) (by decide +kernel) (by decide) ?_
      refine zr_run [] [1, 2] (WW' := [w_Mo G a0 q21.2]) (lv' := [some (.ref (a0 0)), none, none]) (pc' := 162) (st' := []) (by decide +kernel) rfl rfl trivial ?_
      exact t_X12_readBookLine_b162 l G a0 W0 r q21.2 hf
set_option maxRecDepth 100000 in
set_option maxHeartbeats 4000000 in
theorem t_X12_readBookLine_b53 (l : Launch) (G : zj_G) (a0 : Nat → Nat) (W0 : List va_W) (r : Int32 × MoT) (s0 : MoT)   (x1 : Int32) (hf : f_X12_readBookLine_b53 s0 x1 = some r) : zj_J l G M_X12_readBookLine W0 (zj_ret G M_X12_readBookLine W0 (some (.int r.1)) (fun _ => [w_Mo G a0 r.2])) 0 0 [w_Mo G a0 s0] [some (.ref (a0 0)), some (.int x1), none] 53 [] := by
  unfold f_X12_readBookLine_b53 at hf
  refine zr_run [(.aload_n 0, 0, 0, 0, .null), (.getfield 409, 0, 0, 47, .null), (.bipush 40, 0, 0, 0, .int (40 : Int32))] [] (WW' := [w_Mo G a0 s0]) (lv' := [some (.ref (a0 0)), some (.int x1), none]) (pc' := 59) (st' := [.int (40 : Int32), .int (Mo_lineMany s0)]) (by decide +kernel) rfl rfl ⟨trivial, ⟨rfl, rfl, zw_6_76⟩, trivial, trivial⟩ ?_
  refine zr_icmp_ne (off := 9) (tgt := 68) (by decide +kernel) (by decide) (fun hc => ?_) (fun hc => ?_)
  · have hf := zift hf hc
    obtain ⟨q8, e8, hf⟩ := zbi_of hf
    refine zr_run [(.aload_n 0, 0, 0, 0, .null), (.iconst 4, 0, 0, 0, .int (4 : Int32))] [] (WW' := [w_Mo G a0 s0]) (lv' := [some (.ref (a0 0)), some (.int x1), none]) (pc' := 64) (st' := [.int (4 : Int32), .ref (a0 0)]) (by decide +kernel) rfl rfl ⟨trivial, trivial, trivial⟩ ?_
    refine zr_callV (c_X12_bad l G a0 s0 (4 : Int32) q8 e8) (WW' := fun _ => [w_Mo G a0 q8.2]) (st := []) (st' := [.int q8.1]) [0] rfl rfl (fun _ => Nat.le_of_ble_eq_true rfl) (fun _ => rfl) rfl rfl nm_X12_bad zw_7_19 zw_7_21 zw_0_56 zw_1_18 zw_7_22 rfl rfl rfl (Nat.le_of_ble_eq_true rfl) ⟨Nat.le_of_ble_eq_true rfl, Nat.le_of_ble_eq_true rfl⟩ (by decide +kernel) (fun _ => ?_)
    obtain ⟨h9, hf⟩ := zck_of hf
    obtain rfl := Option.some.inj hf
    exact zr_zret h9 (b0 := fun _ => 0) (by decide +kernel) rfl rfl rfl rfl rfl
  · have hf := ziff hf hc
    obtain ⟨h10, hf⟩ := zck_of hf
    obtain ⟨y11, e11, hf⟩ := zlet_of hf
    refine zr_run [(.iconst 4, 0, 0, 0, .int (4 : Int32)), (.aload_n 0, 0, 0, 0, .null), (.getfield 409, 0, 0, 47, .null), (.imul, 0, 0, 0, .null), (.istore_n 2, 0, 0, 0, .null), (.aload_n 0, 0, 0, 0, .null), (.getfield 82, 0, 0, 45, .null), (.iload_n 2, 0, 0, 0, .null), (.iconst 5, 0, 0, 0, .int (5 : Int32)), (.iastore, 0, 21, 0, .null)] [] (WW' := [w_Mo G a0 (Mo_s_line s0 ((upd (Mo_line s0) ((4 : Int32) * (Mo_lineMany s0)).toNatClampNeg (5 : Int32))))]) (lv' := [some (.ref (a0 0)), some (.int x1), some (.int ((4 : Int32) * (Mo_lineMany s0)))]) (pc' := 82) (st' := []) (by decide +kernel) rfl rfl ⟨trivial, trivial, ⟨rfl, rfl, zw_6_76⟩, trivial, trivial, trivial, ⟨rfl, rfl, zw_6_74⟩, trivial, trivial, ⟨rfl, rfl, h10⟩, trivial⟩ ?_
    refine zr_eq (WW2 := [w_Mo G a0 y11]) (lv2 := [some (.ref (a0 0)), some (.int x1), some (.int ((4 : Int32) * (Mo_lineMany s0)))]) (st2 := []) (by rw [e11]) rfl rfl ?_
    refine zr_run [(.aload_n 0, 0, 0, 0, .null), (.getfield 82, 0, 0, 45, .null), (.iload_n 2, 0, 0, 0, .null), (.iconst 1, 0, 0, 0, .int (1 : Int32)), (.iadd, 0, 0, 0, .null), (.iload_n 1, 0, 0, 0, .null)] [] (WW' := [w_Mo G a0 y11]) (lv' := [some (.ref (a0 0)), some (.int x1), some (.int ((4 : Int32) * (Mo_lineMany s0)))]) (pc' := 90) (st' := [.int x1, .int (((4 : Int32) * (Mo_lineMany s0)) + (1 : Int32)), .ref (a0 21)]) (by decide +kernel) rfl rfl ⟨trivial, ⟨rfl, rfl, zw_6_74⟩, trivial, trivial, trivial, trivial, trivial⟩ ?_
    refine zr_if_eq (off := 7) (tgt := 97) (by decide +kernel) (by decide) (fun hc => ?_) (fun hc => ?_)
    · have hf := zift hf hc
      obtain ⟨q12, e12, hf⟩ := zbi_of hf
      refine zr_run [(.aload_n 0, 0, 0, 0, .null), (.getfield 28, 0, 0, 19, .null), (.bipush 10, 0, 0, 0, .int (10 : Int32)), (.aload_n 0, 0, 0, 0, .null), (.getfield 13, 0, 0, 14, .null), (.iconst 2, 0, 0, 0, .int (2 : Int32)), (.iaload, 0, 2, 0, .null), (.aload_n 0, 0, 0, 0, .null), (.getfield 126, 0, 0, 12, .null)] [] (WW' := [w_Mo G a0 y11]) (lv' := [some (.ref (a0 0)), some (.int x1), some (.int ((4 : Int32) * (Mo_lineMany s0)))]) (pc' := 113) (st' := [.long (Mo_word y11), .int ((Mo_now y11) (2 : Int32).toNatClampNeg), .int (10 : Int32), .ref (a0 7), .int (((4 : Int32) * (Mo_lineMany s0)) + (1 : Int32)), .ref (a0 21)]) (by decide +kernel) rfl rfl ⟨trivial, ⟨rfl, rfl, zw_6_48⟩, trivial, trivial, ⟨rfl, rfl, zw_6_43⟩, trivial, ⟨rfl, rfl, (by decide)⟩, trivial, ⟨rfl, rfl, zw_6_41⟩, trivial⟩ ?_
      refine zr_cellS (b := 0) (c' := 7) (c_X12_findIn l G (fun _ => (a0 7)) 16 (Mo_name y11) (10 : Int32) ((Mo_now y11) (2 : Int32).toNatClampNeg) (Mo_word y11) q12 e12) rfl (st := [.int (((4 : Int32) * (Mo_lineMany s0)) + (1 : Int32)), .ref (a0 21)]) (st' := [.int q12, .int (((4 : Int32) * (Mo_lineMany s0)) + (1 : Int32)), .ref (a0 21)]) rfl rfl nm_X12_findIn zw_7_31 zw_7_32 zw_1_18 zw_7_33 rfl (Nat.le_of_ble_eq_true rfl) ⟨Nat.le_of_ble_eq_true rfl, Nat.le_of_ble_eq_true rfl⟩ (by decide +kernel) ?_
      refine zr_eq (WW2 := [w_Mo G a0 y11]) rfl rfl rfl ?_
      exact t_X12_readBookLine_b116 l G a0 W0 r y11 x1 ((4 : Int32) * (Mo_lineMany s0)) q12 (((4 : Int32) * (Mo_lineMany s0)) + (1 : Int32)) hf
    · have hf := ziff hf hc
      refine zr_run [(.iconst 0, 0, 0, 0, .int (0 : Int32))] [] (WW' := [w_Mo G a0 y11]) (lv' := [some (.ref (a0 0)), some (.int x1), some (.int ((4 : Int32) * (Mo_lineMany s0)))]) (pc' := 94) (st' := [.int (0 : Int32), .int (((4 : Int32) * (Mo_lineMany s0)) + (1 : Int32)), .ref (a0 21)]) (by decide +kernel) rfl rfl ⟨trivial, trivial⟩ ?_
      refine zr_goto (off := 22) (tgt := 116) (by decide +kernel) (by decide) ?_
      exact t_X12_readBookLine_b116 l G a0 W0 r y11 x1 ((4 : Int32) * (Mo_lineMany s0)) (0 : Int32) (((4 : Int32) * (Mo_lineMany s0)) + (1 : Int32)) hf
set_option maxRecDepth 100000 in
set_option maxHeartbeats 4000000 in
theorem c_X12_readBookLine (l : Launch) (G : zj_G) (a0 : Nat → Nat) (s0 : MoT)  (r : Int32 × MoT) (hf : f_X12_readBookLine s0 = some r) : zj_C l G M_X12_readBookLine yX12_readBookLine [w_Mo G a0 s0] [.ref (a0 0)] (some (.int r.1)) (fun _ => [w_Mo G a0 r.2]) := by
  have key : ∀ W0 : List va_W, zj_J l G M_X12_readBookLine W0 (zj_ret G M_X12_readBookLine W0 (some (.int r.1)) (fun _ => [w_Mo G a0 r.2])) 0 0 [w_Mo G a0 s0] [some (.ref (a0 0)), none, none] 0 [] := by
    intro W0
    unfold f_X12_readBookLine at hf
    obtain ⟨q1, e1, hf⟩ := zbi_of hf
    refine zr_run [(.aload_n 0, 0, 0, 0, .null), (.bipush 11, 0, 0, 0, .int (11 : Int32))] [] (WW' := [w_Mo G a0 s0]) (lv' := [some (.ref (a0 0)), none, none]) (pc' := 3) (st' := [.int (11 : Int32), .ref (a0 0)]) (by decide +kernel) rfl rfl ⟨trivial, trivial, trivial⟩ ?_
    refine zr_callV (c_X12_isWord l G a0 s0 (11 : Int32) q1 e1) (WW' := fun _ => [w_Mo G a0 s0]) (st := []) (st' := [.int q1]) [0] rfl rfl (fun _ => Nat.le_of_ble_eq_true rfl) (fun _ => rfl) rfl rfl nm_X12_isWord zw_7_1 zw_7_3 zw_0_53 zw_1_18 zw_7_4 rfl rfl rfl (Nat.le_of_ble_eq_true rfl) ⟨Nat.le_of_ble_eq_true rfl, Nat.le_of_ble_eq_true rfl⟩ (by decide +kernel) (fun _ => ?_)
    refine zr_run [(.istore_n 1, 0, 0, 0, .null), (.iload_n 1, 0, 0, 0, .null)] [] (WW' := [w_Mo G a0 s0]) (lv' := [some (.ref (a0 0)), some (.int q1), none]) (pc' := 8) (st' := [.int q1]) (by decide +kernel) rfl rfl ⟨trivial, trivial, trivial⟩ ?_
    refine zr_if_ne (off := 45) (tgt := 53) (by decide +kernel) (by decide) (fun hc => ?_) (fun hc => ?_)
    · have hf := zift hf hc
      obtain ⟨q2, e2, hf⟩ := zbi_of hf
      refine zr_run [(.aload_n 0, 0, 0, 0, .null)] [] (WW' := [w_Mo G a0 s0]) (lv' := [some (.ref (a0 0)), some (.int q1), none]) (pc' := 12) (st' := [.ref (a0 0)]) (by decide +kernel) rfl rfl ⟨trivial, trivial⟩ ?_
      refine zr_callV (c_X12_isName l G a0 s0 q2 e2) (WW' := fun _ => [w_Mo G a0 s0]) (st := []) (st' := [.int q2]) [0] rfl rfl (fun _ => Nat.le_of_ble_eq_true rfl) (fun _ => rfl) rfl rfl nm_X12_isName zw_7_27 zw_7_29 zw_0_58 zw_1_18 zw_7_30 rfl rfl rfl (Nat.le_of_ble_eq_true rfl) ⟨Nat.le_of_ble_eq_true rfl, Nat.le_of_ble_eq_true rfl⟩ (by decide +kernel) (fun _ => ?_)
      refine zr_if_ne (off := 9) (tgt := 24) (by decide +kernel) (by decide) (fun hc => ?_) (fun hc => ?_)
      · have hf := zift hf hc
        obtain ⟨q3, e3, hf⟩ := zbi_of hf
        refine zr_run [(.aload_n 0, 0, 0, 0, .null), (.iconst 1, 0, 0, 0, .int (1 : Int32))] [] (WW' := [w_Mo G a0 s0]) (lv' := [some (.ref (a0 0)), some (.int q1), none]) (pc' := 20) (st' := [.int (1 : Int32), .ref (a0 0)]) (by decide +kernel) rfl rfl ⟨trivial, trivial, trivial⟩ ?_
        refine zr_callV (c_X12_bad l G a0 s0 (1 : Int32) q3 e3) (WW' := fun _ => [w_Mo G a0 q3.2]) (st := []) (st' := [.int q3.1]) [0] rfl rfl (fun _ => Nat.le_of_ble_eq_true rfl) (fun _ => rfl) rfl rfl nm_X12_bad zw_7_19 zw_7_21 zw_0_56 zw_1_18 zw_7_22 rfl rfl rfl (Nat.le_of_ble_eq_true rfl) ⟨Nat.le_of_ble_eq_true rfl, Nat.le_of_ble_eq_true rfl⟩ (by decide +kernel) (fun _ => ?_)
        obtain ⟨h4, hf⟩ := zck_of hf
        obtain rfl := Option.some.inj hf
        exact zr_zret h4 (b0 := fun _ => 0) (by decide +kernel) rfl rfl rfl rfl rfl
      · have hf := ziff hf hc
        obtain ⟨q5, e5, hf⟩ := zbi_of hf
        refine zr_run [(.aload_n 0, 0, 0, 0, .null), (.getfield 28, 0, 0, 19, .null), (.bipush 10, 0, 0, 0, .int (10 : Int32)), (.aload_n 0, 0, 0, 0, .null), (.getfield 13, 0, 0, 14, .null), (.iconst 2, 0, 0, 0, .int (2 : Int32)), (.iaload, 0, 2, 0, .null), (.aload_n 0, 0, 0, 0, .null), (.getfield 126, 0, 0, 12, .null)] [] (WW' := [w_Mo G a0 s0]) (lv' := [some (.ref (a0 0)), some (.int q1), none]) (pc' := 40) (st' := [.long (Mo_word s0), .int ((Mo_now s0) (2 : Int32).toNatClampNeg), .int (10 : Int32), .ref (a0 7)]) (by decide +kernel) rfl rfl ⟨trivial, ⟨rfl, rfl, zw_6_48⟩, trivial, trivial, ⟨rfl, rfl, zw_6_43⟩, trivial, ⟨rfl, rfl, (by decide)⟩, trivial, ⟨rfl, rfl, zw_6_41⟩, trivial⟩ ?_
        refine zr_cellS (b := 0) (c' := 7) (c_X12_findIn l G (fun _ => (a0 7)) 16 (Mo_name s0) (10 : Int32) ((Mo_now s0) (2 : Int32).toNatClampNeg) (Mo_word s0) q5 e5) rfl (st := []) (st' := [.int q5]) rfl rfl nm_X12_findIn zw_7_31 zw_7_32 zw_1_18 zw_7_33 rfl (Nat.le_of_ble_eq_true rfl) ⟨Nat.le_of_ble_eq_true rfl, Nat.le_of_ble_eq_true rfl⟩ (by decide +kernel) ?_
        refine zr_eq (WW2 := [w_Mo G a0 s0]) rfl rfl rfl ?_
        refine zr_run [(.iconst (-1), 0, 0, 0, .int (-1 : Int32))] [] (WW' := [w_Mo G a0 s0]) (lv' := [some (.ref (a0 0)), some (.int q1), none]) (pc' := 44) (st' := [.int (-1 : Int32), .int q5]) (by decide +kernel) rfl rfl ⟨trivial, trivial⟩ ?_
        refine zr_icmp_ne (off := 9) (tgt := 53) (by decide +kernel) (by decide) (fun hc => ?_) (fun hc => ?_)
        · have hf := zift hf hc
          obtain ⟨q6, e6, hf⟩ := zbi_of hf
          refine zr_run [(.aload_n 0, 0, 0, 0, .null), (.iconst 3, 0, 0, 0, .int (3 : Int32))] [] (WW' := [w_Mo G a0 s0]) (lv' := [some (.ref (a0 0)), some (.int q1), none]) (pc' := 49) (st' := [.int (3 : Int32), .ref (a0 0)]) (by decide +kernel) rfl rfl ⟨trivial, trivial, trivial⟩ ?_
          refine zr_callV (c_X12_bad l G a0 s0 (3 : Int32) q6 e6) (WW' := fun _ => [w_Mo G a0 q6.2]) (st := []) (st' := [.int q6.1]) [0] rfl rfl (fun _ => Nat.le_of_ble_eq_true rfl) (fun _ => rfl) rfl rfl nm_X12_bad zw_7_19 zw_7_21 zw_0_56 zw_1_18 zw_7_22 rfl rfl rfl (Nat.le_of_ble_eq_true rfl) ⟨Nat.le_of_ble_eq_true rfl, Nat.le_of_ble_eq_true rfl⟩ (by decide +kernel) (fun _ => ?_)
          obtain ⟨h7, hf⟩ := zck_of hf
          obtain rfl := Option.some.inj hf
          exact zr_zret h7 (b0 := fun _ => 0) (by decide +kernel) rfl rfl rfl rfl rfl
        · have hf := ziff hf hc
          exact t_X12_readBookLine_b53 l G a0 W0 r s0 q1 hf
    · have hf := ziff hf hc
      exact t_X12_readBookLine_b53 l G a0 W0 r s0 q1 hf
  exact zj_entry [some (.ref (a0 0)), none, none] (by decide +kernel) rfl (by decide) (Nat.le_of_ble_eq_true rfl) rfl rfl (key _)
def M_X12_goBy : zj_M := (RX12, cX12_goBy, 4, (some .int), { frames := 7, cells := 0, slots := 0, locals := 162 }, false)
theorem nm_X12_goBy : zj_nm yX12_goBy 1 := ⟨by decide +kernel, by decide +kernel, by decide +kernel⟩
def f_X12_goBy  (s0 : MoT) (x1 : Int32) : Option (Int32 × MoT) := (if zb_in (x1 + (2 : Int32)) 160 = true then (if zb_in x1 160 = true then (if ((Mo_line s0) x1.toNatClampNeg) = (5 : Int32) then (if (400 : Int32) < (((Mo_now s0) (443 : Int32).toNatClampNeg) + ((Mo_line s0) (x1 + (2 : Int32)).toNatClampNeg)) then some ((51 : Int32), s0) else ((f_X12_passDays s0 ((Mo_line s0) (x1 + (2 : Int32)).toNatClampNeg) ((Mo_line s0) (x1 + (2 : Int32)).toNatClampNeg)).bind fun q3 => some ((0 : Int32), q3.2))) else (if zb_in x1 160 = true then (if zb_in (x1 + (1 : Int32)) 160 = true then ((f_X12_why s0 ((Mo_line s0) x1.toNatClampNeg) ((Mo_line s0) (x1 + (1 : Int32)).toNatClampNeg) ((Mo_line s0) (x1 + (2 : Int32)).toNatClampNeg)).bind fun q6 => (if q6.1 = 0 then (if zb_in x1 160 = true then (if zb_in (x1 + (1 : Int32)) 160 = true then (if zb_in (x1 + (3 : Int32)) 160 = true then ((f_X12_live q6.2 ((Mo_line q6.2) x1.toNatClampNeg) ((Mo_line q6.2) (x1 + (1 : Int32)).toNatClampNeg) ((Mo_line s0) (x1 + (2 : Int32)).toNatClampNeg) ((Mo_line q6.2) (x1 + (3 : Int32)).toNatClampNeg)).bind fun q10 => some ((0 : Int32), q10)) else none) else none) else none) else (if zb_in x1 160 = true then some ((((10 : Int32) * ((Mo_line q6.2) x1.toNatClampNeg)) + q6.1), q6.2) else none))) else none) else none)) else none) else none)
set_option maxRecDepth 100000 in
set_option maxHeartbeats 4000000 in
theorem c_X12_goBy (l : Launch) (G : zj_G) (a0 : Nat → Nat) (s0 : MoT) (x1 : Int32) (r : Int32 × MoT) (hf : f_X12_goBy s0 x1 = some r) : zj_C l G M_X12_goBy yX12_goBy [w_Mo G a0 s0] [.ref (a0 0), .int x1] (some (.int r.1)) (fun _ => [w_Mo G a0 r.2]) := by
  have key : ∀ W0 : List va_W, zj_J l G M_X12_goBy W0 (zj_ret G M_X12_goBy W0 (some (.int r.1)) (fun _ => [w_Mo G a0 r.2])) 0 0 [w_Mo G a0 s0] [some (.ref (a0 0)), some (.int x1), none, none] 0 [] := by
    intro W0
    unfold f_X12_goBy at hf
    obtain ⟨h1, hf⟩ := zck_of hf
    obtain ⟨h2, hf⟩ := zck_of hf
    refine zr_run [(.aload_n 0, 0, 0, 0, .null), (.getfield 82, 0, 0, 45, .null), (.iload_n 1, 0, 0, 0, .null), (.iconst 2, 0, 0, 0, .int (2 : Int32)), (.iadd, 0, 0, 0, .null), (.iaload, 0, 21, 0, .null), (.istore_n 2, 0, 0, 0, .null), (.aload_n 0, 0, 0, 0, .null), (.getfield 82, 0, 0, 45, .null), (.iload_n 1, 0, 0, 0, .null), (.iaload, 0, 21, 0, .null), (.iconst 5, 0, 0, 0, .int (5 : Int32))] [] (WW' := [w_Mo G a0 s0]) (lv' := [some (.ref (a0 0)), some (.int x1), some (.int ((Mo_line s0) (x1 + (2 : Int32)).toNatClampNeg)), none]) (pc' := 16) (st' := [.int (5 : Int32), .int ((Mo_line s0) x1.toNatClampNeg)]) (by decide +kernel) rfl rfl ⟨trivial, ⟨rfl, rfl, zw_6_74⟩, trivial, trivial, trivial, ⟨rfl, rfl, h1⟩, trivial, trivial, ⟨rfl, rfl, zw_6_74⟩, trivial, ⟨rfl, rfl, h2⟩, trivial, trivial⟩ ?_
    refine zr_icmp_ne (off := 31) (tgt := 47) (by decide +kernel) (by decide) (fun hc => ?_) (fun hc => ?_)
    · have hf := zift hf hc
      refine zr_run [(.aload_n 0, 0, 0, 0, .null), (.getfield 13, 0, 0, 14, .null), (.sipush 443, 0, 0, 0, .int (443 : Int32)), (.iaload, 0, 2, 0, .null), (.iload_n 2, 0, 0, 0, .null), (.iadd, 0, 0, 0, .null), (.sipush 400, 0, 0, 0, .int (400 : Int32))] [] (WW' := [w_Mo G a0 s0]) (lv' := [some (.ref (a0 0)), some (.int x1), some (.int ((Mo_line s0) (x1 + (2 : Int32)).toNatClampNeg)), none]) (pc' := 32) (st' := [.int (400 : Int32), .int (((Mo_now s0) (443 : Int32).toNatClampNeg) + ((Mo_line s0) (x1 + (2 : Int32)).toNatClampNeg))]) (by decide +kernel) rfl rfl ⟨trivial, ⟨rfl, rfl, zw_6_43⟩, trivial, ⟨rfl, rfl, (by decide)⟩, trivial, trivial, trivial, trivial⟩ ?_
      refine zr_icmp_le (off := 6) (tgt := 38) (by decide +kernel) (by decide) (fun hc => ?_) (fun hc => ?_)
      · have hf := zift hf hc
        refine zr_run [(.bipush 51, 0, 0, 0, .int (51 : Int32))] [] (WW' := [w_Mo G a0 s0]) (lv' := [some (.ref (a0 0)), some (.int x1), some (.int ((Mo_line s0) (x1 + (2 : Int32)).toNatClampNeg)), none]) (pc' := 37) (st' := [.int (51 : Int32)]) (by decide +kernel) rfl rfl ⟨trivial, trivial⟩ ?_
        obtain rfl := Option.some.inj hf
        exact zr_iret (b0 := fun _ => 0) (by decide +kernel) rfl rfl rfl rfl rfl
      · have hf := ziff hf hc
        obtain ⟨q3, e3, hf⟩ := zbi_of hf
        refine zr_run [(.aload_n 0, 0, 0, 0, .null), (.iload_n 2, 0, 0, 0, .null), (.iload_n 2, 0, 0, 0, .null)] [] (WW' := [w_Mo G a0 s0]) (lv' := [some (.ref (a0 0)), some (.int x1), some (.int ((Mo_line s0) (x1 + (2 : Int32)).toNatClampNeg)), none]) (pc' := 41) (st' := [.int ((Mo_line s0) (x1 + (2 : Int32)).toNatClampNeg), .int ((Mo_line s0) (x1 + (2 : Int32)).toNatClampNeg), .ref (a0 0)]) (by decide +kernel) rfl rfl ⟨trivial, trivial, trivial, trivial⟩ ?_
        refine zr_callV (c_X12_passDays l G a0 s0 ((Mo_line s0) (x1 + (2 : Int32)).toNatClampNeg) ((Mo_line s0) (x1 + (2 : Int32)).toNatClampNeg) q3 e3) (WW' := fun _ => [w_Mo G a0 q3.2]) (st := []) (st' := [.int q3.1]) [0] rfl rfl (fun _ => Nat.le_of_ble_eq_true rfl) (fun _ => rfl) rfl rfl nm_X12_passDays zw_7_212 zw_7_214 zw_0_89 zw_1_18 zw_7_215 rfl rfl rfl (Nat.le_of_ble_eq_true rfl) ⟨Nat.le_of_ble_eq_true rfl, Nat.le_of_ble_eq_true rfl⟩ (by decide +kernel) (fun _ => ?_)
        refine zr_run [(.pop, 0, 0, 0, .null), (.iconst 0, 0, 0, 0, .int (0 : Int32))] [] (WW' := [w_Mo G a0 q3.2]) (lv' := [some (.ref (a0 0)), some (.int x1), some (.int ((Mo_line s0) (x1 + (2 : Int32)).toNatClampNeg)), none]) (pc' := 46) (st' := [.int (0 : Int32)]) (by decide +kernel) rfl rfl ⟨trivial, trivial, trivial⟩ ?_
        obtain rfl := Option.some.inj hf
        exact zr_iret (b0 := fun _ => 0) (by decide +kernel) rfl rfl rfl rfl rfl
    · have hf := ziff hf hc
      obtain ⟨h4, hf⟩ := zck_of hf
      obtain ⟨h5, hf⟩ := zck_of hf
      obtain ⟨q6, e6, hf⟩ := zbi_of hf
      refine zr_run [(.aload_n 0, 0, 0, 0, .null), (.aload_n 0, 0, 0, 0, .null), (.getfield 82, 0, 0, 45, .null), (.iload_n 1, 0, 0, 0, .null), (.iaload, 0, 21, 0, .null), (.aload_n 0, 0, 0, 0, .null), (.getfield 82, 0, 0, 45, .null), (.iload_n 1, 0, 0, 0, .null), (.iconst 1, 0, 0, 0, .int (1 : Int32)), (.iadd, 0, 0, 0, .null), (.iaload, 0, 21, 0, .null), (.iload_n 2, 0, 0, 0, .null)] [] (WW' := [w_Mo G a0 s0]) (lv' := [some (.ref (a0 0)), some (.int x1), some (.int ((Mo_line s0) (x1 + (2 : Int32)).toNatClampNeg)), none]) (pc' := 63) (st' := [.int ((Mo_line s0) (x1 + (2 : Int32)).toNatClampNeg), .int ((Mo_line s0) (x1 + (1 : Int32)).toNatClampNeg), .int ((Mo_line s0) x1.toNatClampNeg), .ref (a0 0)]) (by decide +kernel) rfl rfl ⟨trivial, trivial, ⟨rfl, rfl, zw_6_74⟩, trivial, ⟨rfl, rfl, h4⟩, trivial, ⟨rfl, rfl, zw_6_74⟩, trivial, trivial, trivial, ⟨rfl, rfl, h5⟩, trivial, trivial⟩ ?_
      refine zr_callV (c_X12_why l G a0 s0 ((Mo_line s0) x1.toNatClampNeg) ((Mo_line s0) (x1 + (1 : Int32)).toNatClampNeg) ((Mo_line s0) (x1 + (2 : Int32)).toNatClampNeg) q6 e6) (WW' := fun _ => [w_Mo G a0 q6.2]) (st := []) (st' := [.int q6.1]) [0] rfl rfl (fun _ => Nat.le_of_ble_eq_true rfl) (fun _ => rfl) rfl rfl nm_X12_why zw_7_160 zw_7_162 zw_0_82 zw_1_18 zw_7_163 rfl rfl rfl (Nat.le_of_ble_eq_true rfl) ⟨Nat.le_of_ble_eq_true rfl, Nat.le_of_ble_eq_true rfl⟩ (by decide +kernel) (fun _ => ?_)
      refine zr_run [(.istore_n 3, 0, 0, 0, .null), (.iload_n 3, 0, 0, 0, .null)] [] (WW' := [w_Mo G a0 q6.2]) (lv' := [some (.ref (a0 0)), some (.int x1), some (.int ((Mo_line s0) (x1 + (2 : Int32)).toNatClampNeg)), some (.int q6.1)]) (pc' := 68) (st' := [.int q6.1]) (by decide +kernel) rfl rfl ⟨trivial, trivial, trivial⟩ ?_
      refine zr_if_eq (off := 15) (tgt := 83) (by decide +kernel) (by decide) (fun hc => ?_) (fun hc => ?_)
      · have hf := zift hf hc
        obtain ⟨h7, hf⟩ := zck_of hf
        obtain ⟨h8, hf⟩ := zck_of hf
        obtain ⟨h9, hf⟩ := zck_of hf
        obtain ⟨q10, e10, hf⟩ := zbi_of hf
        refine zr_run [(.aload_n 0, 0, 0, 0, .null), (.aload_n 0, 0, 0, 0, .null), (.getfield 82, 0, 0, 45, .null), (.iload_n 1, 0, 0, 0, .null), (.iaload, 0, 21, 0, .null), (.aload_n 0, 0, 0, 0, .null), (.getfield 82, 0, 0, 45, .null), (.iload_n 1, 0, 0, 0, .null), (.iconst 1, 0, 0, 0, .int (1 : Int32)), (.iadd, 0, 0, 0, .null), (.iaload, 0, 21, 0, .null), (.iload_n 2, 0, 0, 0, .null), (.aload_n 0, 0, 0, 0, .null), (.getfield 82, 0, 0, 45, .null), (.iload_n 1, 0, 0, 0, .null), (.iconst 3, 0, 0, 0, .int (3 : Int32)), (.iadd, 0, 0, 0, .null), (.iaload, 0, 21, 0, .null)] [] (WW' := [w_Mo G a0 q6.2]) (lv' := [some (.ref (a0 0)), some (.int x1), some (.int ((Mo_line s0) (x1 + (2 : Int32)).toNatClampNeg)), some (.int q6.1)]) (pc' := 107) (st' := [.int ((Mo_line q6.2) (x1 + (3 : Int32)).toNatClampNeg), .int ((Mo_line s0) (x1 + (2 : Int32)).toNatClampNeg), .int ((Mo_line q6.2) (x1 + (1 : Int32)).toNatClampNeg), .int ((Mo_line q6.2) x1.toNatClampNeg), .ref (a0 0)]) (by decide +kernel) rfl rfl ⟨trivial, trivial, ⟨rfl, rfl, zw_6_74⟩, trivial, ⟨rfl, rfl, h7⟩, trivial, ⟨rfl, rfl, zw_6_74⟩, trivial, trivial, trivial, ⟨rfl, rfl, h8⟩, trivial, trivial, ⟨rfl, rfl, zw_6_74⟩, trivial, trivial, trivial, ⟨rfl, rfl, h9⟩, trivial⟩ ?_
        refine zr_callV (c_X12_live l G a0 q6.2 ((Mo_line q6.2) x1.toNatClampNeg) ((Mo_line q6.2) (x1 + (1 : Int32)).toNatClampNeg) ((Mo_line s0) (x1 + (2 : Int32)).toNatClampNeg) ((Mo_line q6.2) (x1 + (3 : Int32)).toNatClampNeg) q10 e10) (WW' := fun _ => [w_Mo G a0 q10]) (st := []) (st' := []) [0] rfl rfl (fun _ => Nat.le_of_ble_eq_true rfl) (fun _ => rfl) rfl rfl nm_X12_live zw_7_176 zw_7_178 zw_0_86 zw_1_18 zw_7_179 rfl rfl rfl (Nat.le_of_ble_eq_true rfl) ⟨Nat.le_of_ble_eq_true rfl, Nat.le_of_ble_eq_true rfl⟩ (by decide +kernel) (fun _ => ?_)
        refine zr_run [(.iconst 0, 0, 0, 0, .int (0 : Int32))] [] (WW' := [w_Mo G a0 q10]) (lv' := [some (.ref (a0 0)), some (.int x1), some (.int ((Mo_line s0) (x1 + (2 : Int32)).toNatClampNeg)), some (.int q6.1)]) (pc' := 111) (st' := [.int (0 : Int32)]) (by decide +kernel) rfl rfl ⟨trivial, trivial⟩ ?_
        obtain rfl := Option.some.inj hf
        exact zr_iret (b0 := fun _ => 0) (by decide +kernel) rfl rfl rfl rfl rfl
      · have hf := ziff hf hc
        obtain ⟨h11, hf⟩ := zck_of hf
        refine zr_run [(.bipush 10, 0, 0, 0, .int (10 : Int32)), (.aload_n 0, 0, 0, 0, .null), (.getfield 82, 0, 0, 45, .null), (.iload_n 1, 0, 0, 0, .null), (.iaload, 0, 21, 0, .null), (.imul, 0, 0, 0, .null), (.iload_n 3, 0, 0, 0, .null), (.iadd, 0, 0, 0, .null)] [] (WW' := [w_Mo G a0 q6.2]) (lv' := [some (.ref (a0 0)), some (.int x1), some (.int ((Mo_line s0) (x1 + (2 : Int32)).toNatClampNeg)), some (.int q6.1)]) (pc' := 82) (st' := [.int (((10 : Int32) * ((Mo_line q6.2) x1.toNatClampNeg)) + q6.1)]) (by decide +kernel) rfl rfl ⟨trivial, trivial, ⟨rfl, rfl, zw_6_74⟩, trivial, ⟨rfl, rfl, h11⟩, trivial, trivial, trivial, trivial⟩ ?_
        obtain rfl := Option.some.inj hf
        exact zr_iret (b0 := fun _ => 0) (by decide +kernel) rfl rfl rfl rfl rfl
  exact zj_entry [some (.ref (a0 0)), some (.int x1), none, none] (by decide +kernel) rfl (by decide) (Nat.le_of_ble_eq_true rfl) rfl rfl (key _)
def M_X12_stay : zj_M := (RX12, cX12_stay, 4, none, { frames := 1, cells := 0, slots := 0, locals := 21 }, false)
theorem nm_X12_stay : zj_nm yX12_stay 1 := ⟨by decide +kernel, by decide +kernel, by decide +kernel⟩
def f_X12_stay_H2  (s0 : MoT) (k2 : MoT → Int32 → Int32 → Option (MoT)) (x1 : Int32) (x2 : Int32) : Option (MoT) := (if x2 < (73 : Int32) then (if zb_in ((443 : Int32) + x2) 758 = true then (if zb_in x2 73 = true then (if zb_in ((443 : Int32) + x2) 758 = true then (zlet (Mo_s_now s0 ((upd (Mo_now s0) ((443 : Int32) + x2).toNatClampNeg ((Mo_aside s0) x2.toNatClampNeg)))) fun y4 => (if zb_in x2 73 = true then (zlet (Mo_s_aside y4 ((upd (Mo_aside y4) x2.toNatClampNeg ((Mo_now s0) ((443 : Int32) + x2).toNatClampNeg)))) fun y6 => k2 y6 x1 (x2 + (1 : Int32))) else none)) else none) else none) else none) else (if x1 = 0 then some s0 else ((f_X12_snap s0).bind fun q7 => ((f_X12_takeBack q7).bind fun q8 => some q8))))
def f_X12_stay_L2    : Nat → MoT → Int32 → Int32 → Option (MoT)
  | 0 => fun _ _ _ => none
  | n + 1 => fun s0 x1 x2 => f_X12_stay_H2 s0 (f_X12_stay_L2  n) x1 x2
def f_X12_stay  (s0 : MoT) (x1 : Int32) : Option (MoT) := f_X12_stay_L2 zFU s0 x1 (0 : Int32)
set_option maxRecDepth 100000 in
set_option maxHeartbeats 4000000 in
theorem t_X12_stay_H2 (l : Launch) (G : zj_G) (a0 : Nat → Nat) (W0 : List va_W) (r : MoT) (s0 : MoT) (k2 : MoT → Int32 → Int32 → Option (MoT)) (hk2 : ∀ (s0 : MoT) (x1 : Int32) (x2 : Int32), k2 s0 x1 x2 = some r → zj_J l G M_X12_stay W0 (zj_ret G M_X12_stay W0 (none) (fun _ => [w_Mo G a0 r])) 0 0 [w_Mo G a0 s0] [some (.ref (a0 0)), some (.int x1), some (.int x2), none] 2 []) (x1 : Int32) (x2 : Int32) (hf : f_X12_stay_H2 s0 k2 x1 x2 = some r) : zj_J l G M_X12_stay W0 (zj_ret G M_X12_stay W0 (none) (fun _ => [w_Mo G a0 r])) 0 0 [w_Mo G a0 s0] [some (.ref (a0 0)), some (.int x1), some (.int x2), none] 2 [] := by
  unfold f_X12_stay_H2 at hf
  refine zr_run [(.iload_n 2, 0, 0, 0, .null), (.bipush 73, 0, 0, 0, .int (73 : Int32))] [] (WW' := [w_Mo G a0 s0]) (lv' := [some (.ref (a0 0)), some (.int x1), some (.int x2), none]) (pc' := 5) (st' := [.int (73 : Int32), .int x2]) (by decide +kernel) rfl rfl ⟨trivial, trivial, trivial⟩ ?_
  refine zr_icmp_ge (off := 43) (tgt := 48) (by decide +kernel) (by decide) (fun hc => ?_) (fun hc => ?_)
  · have hf := zift hf hc
    obtain ⟨h1, hf⟩ := zck_of hf
    obtain ⟨h2, hf⟩ := zck_of hf
    obtain ⟨h3, hf⟩ := zck_of hf
    obtain ⟨y4, e4, hf⟩ := zlet_of hf
    refine zr_run [(.aload_n 0, 0, 0, 0, .null), (.getfield 13, 0, 0, 14, .null), (.sipush 443, 0, 0, 0, .int (443 : Int32)), (.iload_n 2, 0, 0, 0, .null), (.iadd, 0, 0, 0, .null), (.iaload, 0, 2, 0, .null), (.istore_n 3, 0, 0, 0, .null), (.aload_n 0, 0, 0, 0, .null), (.getfield 13, 0, 0, 14, .null), (.sipush 443, 0, 0, 0, .int (443 : Int32)), (.iload_n 2, 0, 0, 0, .null), (.iadd, 0, 0, 0, .null), (.aload_n 0, 0, 0, 0, .null), (.getfield 25, 0, 0, 18, .null), (.iload_n 2, 0, 0, 0, .null), (.iaload, 0, 6, 0, .null), (.iastore, 0, 2, 0, .null)] [] (WW' := [w_Mo G a0 (Mo_s_now s0 ((upd (Mo_now s0) ((443 : Int32) + x2).toNatClampNeg ((Mo_aside s0) x2.toNatClampNeg))))]) (lv' := [some (.ref (a0 0)), some (.int x1), some (.int x2), some (.int ((Mo_now s0) ((443 : Int32) + x2).toNatClampNeg))]) (pc' := 35) (st' := []) (by decide +kernel) rfl rfl ⟨trivial, ⟨rfl, rfl, zw_6_43⟩, trivial, trivial, trivial, ⟨rfl, rfl, h1⟩, trivial, trivial, ⟨rfl, rfl, zw_6_43⟩, trivial, trivial, trivial, trivial, ⟨rfl, rfl, zw_6_47⟩, trivial, ⟨rfl, rfl, h2⟩, ⟨rfl, rfl, h3⟩, trivial⟩ ?_
    refine zr_eq (WW2 := [w_Mo G a0 y4]) (lv2 := [some (.ref (a0 0)), some (.int x1), some (.int x2), some (.int ((Mo_now s0) ((443 : Int32) + x2).toNatClampNeg))]) (st2 := []) (by rw [e4]) rfl rfl ?_
    obtain ⟨h5, hf⟩ := zck_of hf
    obtain ⟨y6, e6, hf⟩ := zlet_of hf
    refine zr_run [(.aload_n 0, 0, 0, 0, .null), (.getfield 25, 0, 0, 18, .null), (.iload_n 2, 0, 0, 0, .null), (.iload_n 3, 0, 0, 0, .null), (.iastore, 0, 6, 0, .null)] [] (WW' := [w_Mo G a0 (Mo_s_aside y4 ((upd (Mo_aside y4) x2.toNatClampNeg ((Mo_now s0) ((443 : Int32) + x2).toNatClampNeg))))]) (lv' := [some (.ref (a0 0)), some (.int x1), some (.int x2), some (.int ((Mo_now s0) ((443 : Int32) + x2).toNatClampNeg))]) (pc' := 42) (st' := []) (by decide +kernel) rfl rfl ⟨trivial, ⟨rfl, rfl, zw_6_47⟩, trivial, trivial, ⟨rfl, rfl, h5⟩, trivial⟩ ?_
    refine zr_eq (WW2 := [w_Mo G a0 y6]) (lv2 := [some (.ref (a0 0)), some (.int x1), some (.int x2), some (.int ((Mo_now s0) ((443 : Int32) + x2).toNatClampNeg))]) (st2 := []) (by rw [e6]) rfl rfl ?_
    refine zr_run [(.iinc 2 1, 0, 0, 0, .int (1 : Int32))] [] (WW' := [w_Mo G a0 y6]) (lv' := [some (.ref (a0 0)), some (.int x1), some (.int (x2 + (1 : Int32))), some (.int ((Mo_now s0) ((443 : Int32) + x2).toNatClampNeg))]) (pc' := 45) (st' := []) (by decide +kernel) rfl rfl ⟨trivial, trivial⟩ ?_
    refine zr_run [] [3] (WW' := [w_Mo G a0 y6]) (lv' := [some (.ref (a0 0)), some (.int x1), some (.int (x2 + (1 : Int32))), none]) (pc' := 45) (st' := []) (by decide +kernel) rfl rfl trivial ?_
    refine zr_goto (off := -43) (tgt := 2) (by decide +kernel) (by decide) ?_
    exact hk2 y6 x1 (x2 + (1 : Int32)) hf
  · have hf := ziff hf hc
    refine zr_run [(.iload_n 1, 0, 0, 0, .null)] [] (WW' := [w_Mo G a0 s0]) (lv' := [some (.ref (a0 0)), some (.int x1), some (.int x2), none]) (pc' := 49) (st' := [.int x1]) (by decide +kernel) rfl rfl ⟨trivial, trivial⟩ ?_
    refine zr_if_ne (off := 4) (tgt := 53) (by decide +kernel) (by decide) (fun hc => ?_) (fun hc => ?_)
    · have hf := zift hf hc
      obtain rfl := Option.some.inj hf
      exact zr_vret (b0 := fun _ => 0) (by decide +kernel) rfl rfl rfl rfl rfl
    · have hf := ziff hf hc
      obtain ⟨q7, e7, hf⟩ := zbi_of hf
      refine zr_run [(.aload_n 0, 0, 0, 0, .null)] [] (WW' := [w_Mo G a0 s0]) (lv' := [some (.ref (a0 0)), some (.int x1), some (.int x2), none]) (pc' := 54) (st' := [.ref (a0 0)]) (by decide +kernel) rfl rfl ⟨trivial, trivial⟩ ?_
      refine zr_callV (c_X12_snap l G a0 s0 q7 e7) (WW' := fun _ => [w_Mo G a0 q7]) (st := []) (st' := []) [0] rfl rfl (fun _ => Nat.le_of_ble_eq_true rfl) (fun _ => rfl) rfl rfl nm_X12_snap zw_7_172 zw_7_174 zw_0_85 zw_1_18 zw_7_175 rfl rfl rfl (Nat.le_of_ble_eq_true rfl) ⟨Nat.le_of_ble_eq_true rfl, Nat.le_of_ble_eq_true rfl⟩ (by decide +kernel) (fun _ => ?_)
      obtain ⟨q8, e8, hf⟩ := zbi_of hf
      refine zr_run [(.aload_n 0, 0, 0, 0, .null)] [] (WW' := [w_Mo G a0 q7]) (lv' := [some (.ref (a0 0)), some (.int x1), some (.int x2), none]) (pc' := 58) (st' := [.ref (a0 0)]) (by decide +kernel) rfl rfl ⟨trivial, trivial⟩ ?_
      refine zr_callV (c_X12_takeBack l G a0 q7 q8 e8) (WW' := fun _ => [w_Mo G a0 q8]) (st := []) (st' := []) [0] rfl rfl (fun _ => Nat.le_of_ble_eq_true rfl) (fun _ => rfl) rfl rfl nm_X12_takeBack zw_8_127 zw_8_129 zw_0_107 zw_1_18 zw_8_130 rfl rfl rfl (Nat.le_of_ble_eq_true rfl) ⟨Nat.le_of_ble_eq_true rfl, Nat.le_of_ble_eq_true rfl⟩ (by decide +kernel) (fun _ => ?_)
      obtain rfl := Option.some.inj hf
      exact zr_vret (b0 := fun _ => 0) (by decide +kernel) rfl rfl rfl rfl rfl
theorem t_X12_stay_L2 (l : Launch) (G : zj_G) (a0 : Nat → Nat) (W0 : List va_W) (r : MoT)    : ∀ (n : Nat) (s0 : MoT) (x1 : Int32) (x2 : Int32), f_X12_stay_L2 n s0 x1 x2 = some r → zj_J l G M_X12_stay W0 (zj_ret G M_X12_stay W0 (none) (fun _ => [w_Mo G a0 r])) 0 0 [w_Mo G a0 s0] [some (.ref (a0 0)), some (.int x1), some (.int x2), none] 2 [] := by
  intro n
  induction n with
  | zero => intro s0 x1 x2 hf; exact nomatch (show none = some r from hf)
  | succ n ih => intro s0 x1 x2 hf; exact t_X12_stay_H2 l G a0 W0 r s0  (f_X12_stay_L2 n)  ih x1 x2  hf
set_option maxRecDepth 100000 in
set_option maxHeartbeats 4000000 in
theorem c_X12_stay (l : Launch) (G : zj_G) (a0 : Nat → Nat) (s0 : MoT) (x1 : Int32) (r : MoT) (hf : f_X12_stay s0 x1 = some r) : zj_C l G M_X12_stay yX12_stay [w_Mo G a0 s0] [.ref (a0 0), .int x1] (none) (fun _ => [w_Mo G a0 r]) := by
  have key : ∀ W0 : List va_W, zj_J l G M_X12_stay W0 (zj_ret G M_X12_stay W0 (none) (fun _ => [w_Mo G a0 r])) 0 0 [w_Mo G a0 s0] [some (.ref (a0 0)), some (.int x1), none, none] 0 [] := by
    intro W0
    unfold f_X12_stay at hf
    refine zr_run [(.iconst 0, 0, 0, 0, .int (0 : Int32)), (.istore_n 2, 0, 0, 0, .null)] [] (WW' := [w_Mo G a0 s0]) (lv' := [some (.ref (a0 0)), some (.int x1), some (.int (0 : Int32)), none]) (pc' := 2) (st' := []) (by decide +kernel) rfl rfl ⟨trivial, trivial, trivial⟩ ?_
    exact t_X12_stay_L2 l G a0 W0 r zFU s0 x1 (0 : Int32) hf
  exact zj_entry [some (.ref (a0 0)), some (.int x1), none, none] (by decide +kernel) rfl (by decide) (Nat.le_of_ble_eq_true rfl) rfl rfl (key _)
def M_X12_book : zj_M := (RX12, cX12_book, 4, (some .int), { frames := 8, cells := 0, slots := 0, locals := 185 }, false)
theorem nm_X12_book : zj_nm yX12_book 1 := ⟨by decide +kernel, by decide +kernel, by decide +kernel⟩
def f_X12_book_b162  (s0 : MoT)  (x2 : Int32) (x3 : Int32) (z0 : Int32) : Option (Int32 × MoT) := ((f_X12_stay s0 z0).bind fun q13 => (if x3 = 0 then some ((-1 : Int32), q13) else some (x2, q13)))
def f_X12_book_b161  (s0 : MoT)  (x2 : Int32) (x3 : Int32) : Option (Int32 × MoT) := f_X12_book_b162 s0 x2 x3 (0 : Int32)
def f_X12_book_b103  (s0 : MoT)  (x1 : Int32) (x2 : Int32) (x3 : Int32) : Option (Int32 × MoT) := (zlet (Mo_s_written s0 ((upd (Mo_written s0) (0 : Int32).toNatClampNeg x3))) fun y7 => (zlet (Mo_s_written y7 ((upd (Mo_written y7) (1 : Int32).toNatClampNeg x2))) fun y8 => (zlet (Mo_s_written y8 ((upd (Mo_written y8) (2 : Int32).toNatClampNeg ((Mo_now y8) (443 : Int32).toNatClampNeg)))) fun y9 => ((f_X12_those y9 (3 : Int32)).bind fun q10 => (zlet (Mo_s_written y9 ((upd (Mo_written y9) (3 : Int32).toNatClampNeg q10))) fun y11 => (zlet (Mo_s_hasWritten y11 (1 : Int32)) fun y12 => (if x1 = (1 : Int32) then (if 0 < x2 then f_X12_book_b162 y12 x2 x3 (1 : Int32) else f_X12_book_b161 y12 x2 x3) else f_X12_book_b161 y12 x2 x3)))))))
def f_X12_book_H73  (s0 : MoT) (k73 : MoT → Int32 → Int32 → Int32 → Option (Int32 × MoT)) (x1 : Int32) (x2 : Int32) (x3 : Int32) : Option (Int32 × MoT) := (if x2 < (Mo_lineMany s0) then (if x3 = 0 then ((f_X12_goBy s0 ((4 : Int32) * x2)).bind fun q6 => (if q6.1 = 0 then k73 q6.2 x1 (x2 + (1 : Int32)) q6.1 else k73 q6.2 x1 x2 q6.1)) else f_X12_book_b103 s0 x1 x2 x3) else f_X12_book_b103 s0 x1 x2 x3)
def f_X12_book_L73    : Nat → MoT → Int32 → Int32 → Int32 → Option (Int32 × MoT)
  | 0 => fun _ _ _ _ => none
  | n + 1 => fun s0 x1 x2 x3 => f_X12_book_H73 s0 (f_X12_book_L73  n) x1 x2 x3
def f_X12_book_H30  (s0 : MoT) (k30 : MoT → Int32 → Option (Int32 × MoT)) (x1 : Int32) : Option (Int32 × MoT) := (if (Mo_kind s0) = 0 then ((f_X12_layAside s0).bind fun q5 => f_X12_book_L73 zFU q5 x1 (0 : Int32) (0 : Int32)) else ((f_X12_readBookLine s0).bind fun q14 => (if q14.1 = 0 then some (((-2 : Int32) - (Mo_place q14.2)), q14.2) else (zlet (Mo_s_lineMany q14.2 ((Mo_lineMany q14.2) + (1 : Int32))) fun y15 => k30 y15 x1))))
def f_X12_book_L30    : Nat → MoT → Int32 → Option (Int32 × MoT)
  | 0 => fun _ _ => none
  | n + 1 => fun s0 x1 => f_X12_book_H30 s0 (f_X12_book_L30  n) x1
def f_X12_book  (s0 : MoT) (x1 : Int32) : Option (Int32 × MoT) := (zlet (Mo_s_thrown s0 (0 : Int32)) fun y1 => ((f_X12_isIn x1 (0 : Int32) (1 : Int32)).bind fun q2 => (if q2 = 0 then some ((-1000 : Int32), y1) else ((f_X12_begin y1 (400 : Int32)).bind fun q3 => (zlet (Mo_s_lineMany q3 (0 : Int32)) fun y4 => f_X12_book_L30 zFU y4 x1)))))
set_option maxRecDepth 100000 in
set_option maxHeartbeats 4000000 in
theorem t_X12_book_b162 (l : Launch) (G : zj_G) (a0 : Nat → Nat) (W0 : List va_W) (r : Int32 × MoT) (s0 : MoT)   (x2 : Int32) (x3 : Int32) (z0 : Int32) (hf : f_X12_book_b162 s0 x2 x3 z0 = some r) : zj_J l G M_X12_book W0 (zj_ret G M_X12_book W0 (some (.int r.1)) (fun _ => [w_Mo G a0 r.2])) 0 0 [w_Mo G a0 s0] [none, none, some (.int x2), some (.int x3)] 162 [.int z0, .ref (a0 0)] := by
  unfold f_X12_book_b162 at hf
  obtain ⟨q13, e13, hf⟩ := zbi_of hf
  refine zr_callV (c_X12_stay l G a0 s0 z0 q13 e13) (WW' := fun _ => [w_Mo G a0 q13]) (st := []) (st' := []) [0] rfl rfl (fun _ => Nat.le_of_ble_eq_true rfl) (fun _ => rfl) rfl rfl nm_X12_stay zw_8_155 zw_8_157 zw_0_113 zw_1_18 zw_8_158 rfl rfl rfl (Nat.le_of_ble_eq_true rfl) ⟨Nat.le_of_ble_eq_true rfl, Nat.le_of_ble_eq_true rfl⟩ (by decide +kernel) (fun _ => ?_)
  refine zr_run [(.iload_n 3, 0, 0, 0, .null)] [] (WW' := [w_Mo G a0 q13]) (lv' := [none, none, some (.int x2), some (.int x3)]) (pc' := 166) (st' := [.int x3]) (by decide +kernel) rfl rfl ⟨trivial, trivial⟩ ?_
  refine zr_if_ne (off := 7) (tgt := 173) (by decide +kernel) (by decide) (fun hc => ?_) (fun hc => ?_)
  · have hf := zift hf hc
    refine zr_run [(.iconst (-1), 0, 0, 0, .int (-1 : Int32))] [] (WW' := [w_Mo G a0 q13]) (lv' := [none, none, some (.int x2), some (.int x3)]) (pc' := 170) (st' := [.int (-1 : Int32)]) (by decide +kernel) rfl rfl ⟨trivial, trivial⟩ ?_
    refine zr_goto (off := 4) (tgt := 174) (by decide +kernel) (by decide) ?_
    obtain rfl := Option.some.inj hf
    exact zr_iret (b0 := fun _ => 0) (by decide +kernel) rfl rfl rfl rfl rfl
  · have hf := ziff hf hc
    refine zr_run [(.iload_n 2, 0, 0, 0, .null)] [] (WW' := [w_Mo G a0 q13]) (lv' := [none, none, some (.int x2), some (.int x3)]) (pc' := 174) (st' := [.int x2]) (by decide +kernel) rfl rfl ⟨trivial, trivial⟩ ?_
    obtain rfl := Option.some.inj hf
    exact zr_iret (b0 := fun _ => 0) (by decide +kernel) rfl rfl rfl rfl rfl
set_option maxRecDepth 100000 in
set_option maxHeartbeats 4000000 in
theorem t_X12_book_b161 (l : Launch) (G : zj_G) (a0 : Nat → Nat) (W0 : List va_W) (r : Int32 × MoT) (s0 : MoT)   (x2 : Int32) (x3 : Int32) (hf : f_X12_book_b161 s0 x2 x3 = some r) : zj_J l G M_X12_book W0 (zj_ret G M_X12_book W0 (some (.int r.1)) (fun _ => [w_Mo G a0 r.2])) 0 0 [w_Mo G a0 s0] [none, none, some (.int x2), some (.int x3)] 161 [.ref (a0 0)] := by
  unfold f_X12_book_b161 at hf
  refine zr_run [(.iconst 0, 0, 0, 0, .int (0 : Int32))] [] (WW' := [w_Mo G a0 s0]) (lv' := [none, none, some (.int x2), some (.int x3)]) (pc' := 162) (st' := [.int (0 : Int32), .ref (a0 0)]) (by decide +kernel) rfl rfl ⟨trivial, trivial⟩ ?_
  exact t_X12_book_b162 l G a0 W0 r s0 x2 x3 (0 : Int32) hf
set_option maxRecDepth 100000 in
set_option maxHeartbeats 4000000 in
theorem t_X12_book_b103 (l : Launch) (G : zj_G) (a0 : Nat → Nat) (W0 : List va_W) (r : Int32 × MoT) (s0 : MoT)   (x1 : Int32) (x2 : Int32) (x3 : Int32) (hf : f_X12_book_b103 s0 x1 x2 x3 = some r) : zj_J l G M_X12_book W0 (zj_ret G M_X12_book W0 (some (.int r.1)) (fun _ => [w_Mo G a0 r.2])) 0 0 [w_Mo G a0 s0] [some (.ref (a0 0)), some (.int x1), some (.int x2), some (.int x3)] 103 [] := by
  unfold f_X12_book_b103 at hf
  obtain ⟨y7, e7, hf⟩ := zlet_of hf
  refine zr_run [(.aload_n 0, 0, 0, 0, .null), (.getfield 85, 0, 0, 46, .null), (.iconst 0, 0, 0, 0, .int (0 : Int32)), (.iload_n 3, 0, 0, 0, .null), (.iastore, 0, 22, 0, .null)] [] (WW' := [w_Mo G a0 (Mo_s_written s0 ((upd (Mo_written s0) (0 : Int32).toNatClampNeg x3)))]) (lv' := [some (.ref (a0 0)), some (.int x1), some (.int x2), some (.int x3)]) (pc' := 110) (st' := []) (by decide +kernel) rfl rfl ⟨trivial, ⟨rfl, rfl, zw_6_75⟩, trivial, trivial, ⟨rfl, rfl, (by decide)⟩, trivial⟩ ?_
  refine zr_eq (WW2 := [w_Mo G a0 y7]) (lv2 := [some (.ref (a0 0)), some (.int x1), some (.int x2), some (.int x3)]) (st2 := []) (by rw [e7]) rfl rfl ?_
  obtain ⟨y8, e8, hf⟩ := zlet_of hf
  refine zr_run [(.aload_n 0, 0, 0, 0, .null), (.getfield 85, 0, 0, 46, .null), (.iconst 1, 0, 0, 0, .int (1 : Int32)), (.iload_n 2, 0, 0, 0, .null), (.iastore, 0, 22, 0, .null)] [] (WW' := [w_Mo G a0 (Mo_s_written y7 ((upd (Mo_written y7) (1 : Int32).toNatClampNeg x2)))]) (lv' := [some (.ref (a0 0)), some (.int x1), some (.int x2), some (.int x3)]) (pc' := 117) (st' := []) (by decide +kernel) rfl rfl ⟨trivial, ⟨rfl, rfl, zw_6_75⟩, trivial, trivial, ⟨rfl, rfl, (by decide)⟩, trivial⟩ ?_
  refine zr_eq (WW2 := [w_Mo G a0 y8]) (lv2 := [some (.ref (a0 0)), some (.int x1), some (.int x2), some (.int x3)]) (st2 := []) (by rw [e8]) rfl rfl ?_
  obtain ⟨y9, e9, hf⟩ := zlet_of hf
  refine zr_run [(.aload_n 0, 0, 0, 0, .null), (.getfield 85, 0, 0, 46, .null), (.iconst 2, 0, 0, 0, .int (2 : Int32)), (.aload_n 0, 0, 0, 0, .null), (.getfield 13, 0, 0, 14, .null), (.sipush 443, 0, 0, 0, .int (443 : Int32)), (.iaload, 0, 2, 0, .null), (.iastore, 0, 22, 0, .null)] [] (WW' := [w_Mo G a0 (Mo_s_written y8 ((upd (Mo_written y8) (2 : Int32).toNatClampNeg ((Mo_now y8) (443 : Int32).toNatClampNeg))))]) (lv' := [some (.ref (a0 0)), some (.int x1), some (.int x2), some (.int x3)]) (pc' := 131) (st' := []) (by decide +kernel) rfl rfl ⟨trivial, ⟨rfl, rfl, zw_6_75⟩, trivial, trivial, ⟨rfl, rfl, zw_6_43⟩, trivial, ⟨rfl, rfl, (by decide)⟩, ⟨rfl, rfl, (by decide)⟩, trivial⟩ ?_
  refine zr_eq (WW2 := [w_Mo G a0 y9]) (lv2 := [some (.ref (a0 0)), some (.int x1), some (.int x2), some (.int x3)]) (st2 := []) (by rw [e9]) rfl rfl ?_
  obtain ⟨q10, e10, hf⟩ := zbi_of hf
  refine zr_run [(.aload_n 0, 0, 0, 0, .null), (.getfield 85, 0, 0, 46, .null), (.iconst 3, 0, 0, 0, .int (3 : Int32)), (.aload_n 0, 0, 0, 0, .null), (.iconst 3, 0, 0, 0, .int (3 : Int32))] [] (WW' := [w_Mo G a0 y9]) (lv' := [some (.ref (a0 0)), some (.int x1), some (.int x2), some (.int x3)]) (pc' := 138) (st' := [.int (3 : Int32), .ref (a0 0), .int (3 : Int32), .ref (a0 22)]) (by decide +kernel) rfl rfl ⟨trivial, ⟨rfl, rfl, zw_6_75⟩, trivial, trivial, trivial, trivial⟩ ?_
  refine zr_callV (c_X12_those l G a0 y9 (3 : Int32) q10 e10) (WW' := fun _ => [w_Mo G a0 y9]) (st := [.int (3 : Int32), .ref (a0 22)]) (st' := [.int q10, .int (3 : Int32), .ref (a0 22)]) [0] rfl rfl (fun _ => Nat.le_of_ble_eq_true rfl) (fun _ => rfl) rfl rfl nm_X12_those zw_7_144 zw_7_146 zw_0_79 zw_1_18 zw_7_147 rfl rfl rfl (Nat.le_of_ble_eq_true rfl) ⟨Nat.le_of_ble_eq_true rfl, Nat.le_of_ble_eq_true rfl⟩ (by decide +kernel) (fun _ => ?_)
  obtain ⟨y11, e11, hf⟩ := zlet_of hf
  refine zr_run [(.iastore, 0, 22, 0, .null)] [] (WW' := [w_Mo G a0 (Mo_s_written y9 ((upd (Mo_written y9) (3 : Int32).toNatClampNeg q10)))]) (lv' := [some (.ref (a0 0)), some (.int x1), some (.int x2), some (.int x3)]) (pc' := 142) (st' := []) (by decide +kernel) rfl rfl ⟨⟨rfl, rfl, (by decide)⟩, trivial⟩ ?_
  refine zr_eq (WW2 := [w_Mo G a0 y11]) (lv2 := [some (.ref (a0 0)), some (.int x1), some (.int x2), some (.int x3)]) (st2 := []) (by rw [e11]) rfl rfl ?_
  obtain ⟨y12, e12, hf⟩ := zlet_of hf
  refine zr_run [(.aload_n 0, 0, 0, 0, .null), (.iconst 1, 0, 0, 0, .int (1 : Int32)), (.putfield 421, 0, 0, 48, .null)] [] (WW' := [w_Mo G a0 (Mo_s_hasWritten y11 (1 : Int32))]) (lv' := [some (.ref (a0 0)), some (.int x1), some (.int x2), some (.int x3)]) (pc' := 147) (st' := []) (by decide +kernel) rfl rfl ⟨trivial, trivial, ⟨rfl, rfl, rfl, trivial, rfl, rfl, zw_6_77⟩, trivial⟩ ?_
  refine zr_eq (WW2 := [w_Mo G a0 y12]) (lv2 := [some (.ref (a0 0)), some (.int x1), some (.int x2), some (.int x3)]) (st2 := []) (by rw [e12]) rfl rfl ?_
  refine zr_run [(.aload_n 0, 0, 0, 0, .null), (.iload_n 1, 0, 0, 0, .null), (.iconst 1, 0, 0, 0, .int (1 : Int32))] [] (WW' := [w_Mo G a0 y12]) (lv' := [some (.ref (a0 0)), some (.int x1), some (.int x2), some (.int x3)]) (pc' := 150) (st' := [.int (1 : Int32), .int x1, .ref (a0 0)]) (by decide +kernel) rfl rfl ⟨trivial, trivial, trivial, trivial⟩ ?_
  refine zr_icmp_ne (off := 11) (tgt := 161) (by decide +kernel) (by decide) (fun hc => ?_) (fun hc => ?_)
  · have hf := zift hf hc
    refine zr_run [(.iload_n 2, 0, 0, 0, .null)] [] (WW' := [w_Mo G a0 y12]) (lv' := [some (.ref (a0 0)), some (.int x1), some (.int x2), some (.int x3)]) (pc' := 154) (st' := [.int x2, .ref (a0 0)]) (by decide +kernel) rfl rfl ⟨trivial, trivial⟩ ?_
    refine zr_if_le (off := 7) (tgt := 161) (by decide +kernel) (by decide) (fun hc => ?_) (fun hc => ?_)
    · have hf := zift hf hc
      refine zr_run [(.iconst 1, 0, 0, 0, .int (1 : Int32))] [] (WW' := [w_Mo G a0 y12]) (lv' := [some (.ref (a0 0)), some (.int x1), some (.int x2), some (.int x3)]) (pc' := 158) (st' := [.int (1 : Int32), .ref (a0 0)]) (by decide +kernel) rfl rfl ⟨trivial, trivial⟩ ?_
      refine zr_goto (off := 4) (tgt := 162) (by decide +kernel) (by decide) ?_
      refine zr_run [] [0, 1] (WW' := [w_Mo G a0 y12]) (lv' := [none, none, some (.int x2), some (.int x3)]) (pc' := 162) (st' := [.int (1 : Int32), .ref (a0 0)]) (by decide +kernel) rfl rfl trivial ?_
      exact t_X12_book_b162 l G a0 W0 r y12 x2 x3 (1 : Int32) hf
    · have hf := ziff hf hc
      refine zr_run [] [0, 1] (WW' := [w_Mo G a0 y12]) (lv' := [none, none, some (.int x2), some (.int x3)]) (pc' := 161) (st' := [.ref (a0 0)]) (by decide +kernel) rfl rfl trivial ?_
      exact t_X12_book_b161 l G a0 W0 r y12 x2 x3 hf
  · have hf := ziff hf hc
    refine zr_run [] [0, 1] (WW' := [w_Mo G a0 y12]) (lv' := [none, none, some (.int x2), some (.int x3)]) (pc' := 161) (st' := [.ref (a0 0)]) (by decide +kernel) rfl rfl trivial ?_
    exact t_X12_book_b161 l G a0 W0 r y12 x2 x3 hf
set_option maxRecDepth 100000 in
set_option maxHeartbeats 4000000 in
theorem t_X12_book_H73 (l : Launch) (G : zj_G) (a0 : Nat → Nat) (W0 : List va_W) (r : Int32 × MoT) (s0 : MoT) (k73 : MoT → Int32 → Int32 → Int32 → Option (Int32 × MoT)) (hk73 : ∀ (s0 : MoT) (x1 : Int32) (x2 : Int32) (x3 : Int32), k73 s0 x1 x2 x3 = some r → zj_J l G M_X12_book W0 (zj_ret G M_X12_book W0 (some (.int r.1)) (fun _ => [w_Mo G a0 r.2])) 0 0 [w_Mo G a0 s0] [some (.ref (a0 0)), some (.int x1), some (.int x2), some (.int x3)] 73 []) (x1 : Int32) (x2 : Int32) (x3 : Int32) (hf : f_X12_book_H73 s0 k73 x1 x2 x3 = some r) : zj_J l G M_X12_book W0 (zj_ret G M_X12_book W0 (some (.int r.1)) (fun _ => [w_Mo G a0 r.2])) 0 0 [w_Mo G a0 s0] [some (.ref (a0 0)), some (.int x1), some (.int x2), some (.int x3)] 73 [] := by
  unfold f_X12_book_H73 at hf
  refine zr_run [(.iload_n 2, 0, 0, 0, .null), (.aload_n 0, 0, 0, 0, .null), (.getfield 409, 0, 0, 47, .null)] [] (WW' := [w_Mo G a0 s0]) (lv' := [some (.ref (a0 0)), some (.int x1), some (.int x2), some (.int x3)]) (pc' := 78) (st' := [.int (Mo_lineMany s0), .int x2]) (by decide +kernel) rfl rfl ⟨trivial, trivial, ⟨rfl, rfl, zw_6_76⟩, trivial⟩ ?_
  refine zr_icmp_ge (off := 25) (tgt := 103) (by decide +kernel) (by decide) (fun hc => ?_) (fun hc => ?_)
  · have hf := zift hf hc
    refine zr_run [(.iload_n 3, 0, 0, 0, .null)] [] (WW' := [w_Mo G a0 s0]) (lv' := [some (.ref (a0 0)), some (.int x1), some (.int x2), some (.int x3)]) (pc' := 82) (st' := [.int x3]) (by decide +kernel) rfl rfl ⟨trivial, trivial⟩ ?_
    refine zr_if_ne (off := 21) (tgt := 103) (by decide +kernel) (by decide) (fun hc => ?_) (fun hc => ?_)
    · have hf := zift hf hc
      obtain ⟨q6, e6, hf⟩ := zbi_of hf
      refine zr_run [(.aload_n 0, 0, 0, 0, .null), (.iconst 4, 0, 0, 0, .int (4 : Int32)), (.iload_n 2, 0, 0, 0, .null), (.imul, 0, 0, 0, .null)] [] (WW' := [w_Mo G a0 s0]) (lv' := [some (.ref (a0 0)), some (.int x1), some (.int x2), some (.int x3)]) (pc' := 89) (st' := [.int ((4 : Int32) * x2), .ref (a0 0)]) (by decide +kernel) rfl rfl ⟨trivial, trivial, trivial, trivial, trivial⟩ ?_
      refine zr_callV (c_X12_goBy l G a0 s0 ((4 : Int32) * x2) q6 e6) (WW' := fun _ => [w_Mo G a0 q6.2]) (st := []) (st' := [.int q6.1]) [0] rfl rfl (fun _ => Nat.le_of_ble_eq_true rfl) (fun _ => rfl) rfl rfl nm_X12_goBy zw_8_151 zw_8_153 zw_0_112 zw_1_18 zw_8_154 rfl rfl rfl (Nat.le_of_ble_eq_true rfl) ⟨Nat.le_of_ble_eq_true rfl, Nat.le_of_ble_eq_true rfl⟩ (by decide +kernel) (fun _ => ?_)
      refine zr_run [(.istore_n 3, 0, 0, 0, .null), (.iload_n 3, 0, 0, 0, .null)] [] (WW' := [w_Mo G a0 q6.2]) (lv' := [some (.ref (a0 0)), some (.int x1), some (.int x2), some (.int q6.1)]) (pc' := 94) (st' := [.int q6.1]) (by decide +kernel) rfl rfl ⟨trivial, trivial, trivial⟩ ?_
      refine zr_if_ne (off := -21) (tgt := 73) (by decide +kernel) (by decide) (fun hc => ?_) (fun hc => ?_)
      · have hf := zift hf hc
        refine zr_run [(.iinc 2 1, 0, 0, 0, .int (1 : Int32))] [] (WW' := [w_Mo G a0 q6.2]) (lv' := [some (.ref (a0 0)), some (.int x1), some (.int (x2 + (1 : Int32))), some (.int q6.1)]) (pc' := 100) (st' := []) (by decide +kernel) rfl rfl ⟨trivial, trivial⟩ ?_
        refine zr_goto (off := -27) (tgt := 73) (by decide +kernel) (by decide) ?_
        exact hk73 q6.2 x1 (x2 + (1 : Int32)) q6.1 hf
      · have hf := ziff hf hc
        exact hk73 q6.2 x1 x2 q6.1 hf
    · have hf := ziff hf hc
      exact t_X12_book_b103 l G a0 W0 r s0 x1 x2 x3 hf
  · have hf := ziff hf hc
    exact t_X12_book_b103 l G a0 W0 r s0 x1 x2 x3 hf
theorem t_X12_book_L73 (l : Launch) (G : zj_G) (a0 : Nat → Nat) (W0 : List va_W) (r : Int32 × MoT)    : ∀ (n : Nat) (s0 : MoT) (x1 : Int32) (x2 : Int32) (x3 : Int32), f_X12_book_L73 n s0 x1 x2 x3 = some r → zj_J l G M_X12_book W0 (zj_ret G M_X12_book W0 (some (.int r.1)) (fun _ => [w_Mo G a0 r.2])) 0 0 [w_Mo G a0 s0] [some (.ref (a0 0)), some (.int x1), some (.int x2), some (.int x3)] 73 [] := by
  intro n
  induction n with
  | zero => intro s0 x1 x2 x3 hf; exact nomatch (show none = some r from hf)
  | succ n ih => intro s0 x1 x2 x3 hf; exact t_X12_book_H73 l G a0 W0 r s0  (f_X12_book_L73 n)  ih x1 x2 x3  hf
set_option maxRecDepth 100000 in
set_option maxHeartbeats 4000000 in
theorem t_X12_book_H30 (l : Launch) (G : zj_G) (a0 : Nat → Nat) (W0 : List va_W) (r : Int32 × MoT) (s0 : MoT) (k30 : MoT → Int32 → Option (Int32 × MoT)) (hk30 : ∀ (s0 : MoT) (x1 : Int32), k30 s0 x1 = some r → zj_J l G M_X12_book W0 (zj_ret G M_X12_book W0 (some (.int r.1)) (fun _ => [w_Mo G a0 r.2])) 0 0 [w_Mo G a0 s0] [some (.ref (a0 0)), some (.int x1), none, none] 30 []) (x1 : Int32) (hf : f_X12_book_H30 s0 k30 x1 = some r) : zj_J l G M_X12_book W0 (zj_ret G M_X12_book W0 (some (.int r.1)) (fun _ => [w_Mo G a0 r.2])) 0 0 [w_Mo G a0 s0] [some (.ref (a0 0)), some (.int x1), none, none] 30 [] := by
  unfold f_X12_book_H30 at hf
  refine zr_run [(.aload_n 0, 0, 0, 0, .null), (.getfield 113, 0, 0, 7, .null)] [] (WW' := [w_Mo G a0 s0]) (lv' := [some (.ref (a0 0)), some (.int x1), none, none]) (pc' := 34) (st' := [.int (Mo_kind s0)]) (by decide +kernel) rfl rfl ⟨trivial, ⟨rfl, rfl, zw_6_36⟩, trivial⟩ ?_
  refine zr_if_eq (off := 31) (tgt := 65) (by decide +kernel) (by decide) (fun hc => ?_) (fun hc => ?_)
  · have hf := zift hf hc
    obtain ⟨q5, e5, hf⟩ := zbi_of hf
    refine zr_run [(.aload_n 0, 0, 0, 0, .null)] [] (WW' := [w_Mo G a0 s0]) (lv' := [some (.ref (a0 0)), some (.int x1), none, none]) (pc' := 66) (st' := [.ref (a0 0)]) (by decide +kernel) rfl rfl ⟨trivial, trivial⟩ ?_
    refine zr_callV (c_X12_layAside l G a0 s0 q5 e5) (WW' := fun _ => [w_Mo G a0 q5]) (st := []) (st' := []) [0] rfl rfl (fun _ => Nat.le_of_ble_eq_true rfl) (fun _ => rfl) rfl rfl nm_X12_layAside zw_8_123 zw_8_125 zw_0_106 zw_1_18 zw_8_126 rfl rfl rfl (Nat.le_of_ble_eq_true rfl) ⟨Nat.le_of_ble_eq_true rfl, Nat.le_of_ble_eq_true rfl⟩ (by decide +kernel) (fun _ => ?_)
    refine zr_run [(.iconst 0, 0, 0, 0, .int (0 : Int32)), (.istore_n 2, 0, 0, 0, .null), (.iconst 0, 0, 0, 0, .int (0 : Int32)), (.istore_n 3, 0, 0, 0, .null)] [] (WW' := [w_Mo G a0 q5]) (lv' := [some (.ref (a0 0)), some (.int x1), some (.int (0 : Int32)), some (.int (0 : Int32))]) (pc' := 73) (st' := []) (by decide +kernel) rfl rfl ⟨trivial, trivial, trivial, trivial, trivial⟩ ?_
    exact t_X12_book_L73 l G a0 W0 r zFU q5 x1 (0 : Int32) (0 : Int32) hf
  · have hf := ziff hf hc
    obtain ⟨q14, e14, hf⟩ := zbi_of hf
    refine zr_run [(.aload_n 0, 0, 0, 0, .null)] [] (WW' := [w_Mo G a0 s0]) (lv' := [some (.ref (a0 0)), some (.int x1), none, none]) (pc' := 38) (st' := [.ref (a0 0)]) (by decide +kernel) rfl rfl ⟨trivial, trivial⟩ ?_
    refine zr_callV (c_X12_readBookLine l G a0 s0 q14 e14) (WW' := fun _ => [w_Mo G a0 q14.2]) (st := []) (st' := [.int q14.1]) [0] rfl rfl (fun _ => Nat.le_of_ble_eq_true rfl) (fun _ => rfl) rfl rfl nm_X12_readBookLine zw_8_135 zw_8_137 zw_0_108 zw_1_18 zw_8_138 rfl rfl rfl (Nat.le_of_ble_eq_true rfl) ⟨Nat.le_of_ble_eq_true rfl, Nat.le_of_ble_eq_true rfl⟩ (by decide +kernel) (fun _ => ?_)
    refine zr_if_ne (off := 11) (tgt := 52) (by decide +kernel) (by decide) (fun hc => ?_) (fun hc => ?_)
    · have hf := zift hf hc
      refine zr_run [(.bipush (-2), 0, 0, 0, .int (-2 : Int32)), (.aload_n 0, 0, 0, 0, .null), (.getfield 152, 0, 0, 11, .null), (.isub, 0, 0, 0, .null)] [] (WW' := [w_Mo G a0 q14.2]) (lv' := [some (.ref (a0 0)), some (.int x1), none, none]) (pc' := 51) (st' := [.int ((-2 : Int32) - (Mo_place q14.2))]) (by decide +kernel) rfl rfl ⟨trivial, trivial, ⟨rfl, rfl, zw_6_40⟩, trivial, trivial⟩ ?_
      obtain rfl := Option.some.inj hf
      exact zr_iret (b0 := fun _ => 0) (by decide +kernel) rfl rfl rfl rfl rfl
    · have hf := ziff hf hc
      obtain ⟨y15, e15, hf⟩ := zlet_of hf
      refine zr_run [(.aload_n 0, 0, 0, 0, .null), (.dup, 0, 0, 0, .null), (.getfield 409, 0, 0, 47, .null), (.iconst 1, 0, 0, 0, .int (1 : Int32)), (.iadd, 0, 0, 0, .null), (.putfield 409, 0, 0, 47, .null)] [] (WW' := [w_Mo G a0 (Mo_s_lineMany q14.2 ((Mo_lineMany q14.2) + (1 : Int32)))]) (lv' := [some (.ref (a0 0)), some (.int x1), none, none]) (pc' := 62) (st' := []) (by decide +kernel) rfl rfl ⟨trivial, trivial, ⟨rfl, rfl, zw_6_76⟩, trivial, trivial, ⟨rfl, rfl, rfl, trivial, rfl, rfl, zw_6_76⟩, trivial⟩ ?_
      refine zr_eq (WW2 := [w_Mo G a0 y15]) (lv2 := [some (.ref (a0 0)), some (.int x1), none, none]) (st2 := []) (by rw [e15]) rfl rfl ?_
      refine zr_goto (off := -32) (tgt := 30) (by decide +kernel) (by decide) ?_
      exact hk30 y15 x1 hf
theorem t_X12_book_L30 (l : Launch) (G : zj_G) (a0 : Nat → Nat) (W0 : List va_W) (r : Int32 × MoT)    : ∀ (n : Nat) (s0 : MoT) (x1 : Int32), f_X12_book_L30 n s0 x1 = some r → zj_J l G M_X12_book W0 (zj_ret G M_X12_book W0 (some (.int r.1)) (fun _ => [w_Mo G a0 r.2])) 0 0 [w_Mo G a0 s0] [some (.ref (a0 0)), some (.int x1), none, none] 30 [] := by
  intro n
  induction n with
  | zero => intro s0 x1 hf; exact nomatch (show none = some r from hf)
  | succ n ih => intro s0 x1 hf; exact t_X12_book_H30 l G a0 W0 r s0  (f_X12_book_L30 n)  ih x1  hf
set_option maxRecDepth 100000 in
set_option maxHeartbeats 4000000 in
theorem c_X12_book (l : Launch) (G : zj_G) (a0 : Nat → Nat) (s0 : MoT) (x1 : Int32) (r : Int32 × MoT) (hf : f_X12_book s0 x1 = some r) : zj_C l G M_X12_book yX12_book [w_Mo G a0 s0] [.ref (a0 0), .int x1] (some (.int r.1)) (fun _ => [w_Mo G a0 r.2]) := by
  have key : ∀ W0 : List va_W, zj_J l G M_X12_book W0 (zj_ret G M_X12_book W0 (some (.int r.1)) (fun _ => [w_Mo G a0 r.2])) 0 0 [w_Mo G a0 s0] [some (.ref (a0 0)), some (.int x1), none, none] 0 [] := by
    intro W0
    unfold f_X12_book at hf
    obtain ⟨y1, e1, hf⟩ := zlet_of hf
    refine zr_run [(.aload_n 0, 0, 0, 0, .null), (.iconst 0, 0, 0, 0, .int (0 : Int32)), (.putfield 91, 0, 0, 0, .null)] [] (WW' := [w_Mo G a0 (Mo_s_thrown s0 (0 : Int32))]) (lv' := [some (.ref (a0 0)), some (.int x1), none, none]) (pc' := 5) (st' := []) (by decide +kernel) rfl rfl ⟨trivial, trivial, ⟨rfl, rfl, rfl, trivial, rfl, rfl, zw_6_29⟩, trivial⟩ ?_
    refine zr_eq (WW2 := [w_Mo G a0 y1]) (lv2 := [some (.ref (a0 0)), some (.int x1), none, none]) (st2 := []) (by rw [e1]) rfl rfl ?_
    obtain ⟨q2, e2, hf⟩ := zbi_of hf
    refine zr_run [(.iload_n 1, 0, 0, 0, .null), (.iconst 0, 0, 0, 0, .int (0 : Int32)), (.iconst 1, 0, 0, 0, .int (1 : Int32))] [] (WW' := [w_Mo G a0 y1]) (lv' := [some (.ref (a0 0)), some (.int x1), none, none]) (pc' := 8) (st' := [.int (1 : Int32), .int (0 : Int32), .int x1]) (by decide +kernel) rfl rfl ⟨trivial, trivial, trivial, trivial⟩ ?_
    refine zr_callS (c_X12_isIn l G x1 (0 : Int32) (1 : Int32) q2 e2) (WW' := fun _ => [w_Mo G a0 y1]) (st := []) (st' := [.int q2]) [] rfl rfl (fun _ => Nat.le_of_ble_eq_true rfl) (fun _ => rfl) rfl rfl nm_X12_isIn zw_7_38 zw_7_39 zw_1_18 zw_7_40 rfl (Nat.le_of_ble_eq_true rfl) ⟨Nat.le_of_ble_eq_true rfl, Nat.le_of_ble_eq_true rfl⟩ (by decide +kernel) (fun _ => ?_)
    refine zr_if_ne (off := 7) (tgt := 18) (by decide +kernel) (by decide) (fun hc => ?_) (fun hc => ?_)
    · have hf := zift hf hc
      refine zr_run [(.sipush (-1000), 0, 0, 0, .int (-1000 : Int32))] [] (WW' := [w_Mo G a0 y1]) (lv' := [some (.ref (a0 0)), some (.int x1), none, none]) (pc' := 17) (st' := [.int (-1000 : Int32)]) (by decide +kernel) rfl rfl ⟨trivial, trivial⟩ ?_
      obtain rfl := Option.some.inj hf
      exact zr_iret (b0 := fun _ => 0) (by decide +kernel) rfl rfl rfl rfl rfl
    · have hf := ziff hf hc
      obtain ⟨q3, e3, hf⟩ := zbi_of hf
      refine zr_run [(.aload_n 0, 0, 0, 0, .null), (.sipush 400, 0, 0, 0, .int (400 : Int32))] [] (WW' := [w_Mo G a0 y1]) (lv' := [some (.ref (a0 0)), some (.int x1), none, none]) (pc' := 22) (st' := [.int (400 : Int32), .ref (a0 0)]) (by decide +kernel) rfl rfl ⟨trivial, trivial, trivial⟩ ?_
      refine zr_callV (c_X12_begin l G a0 y1 (400 : Int32) q3 e3) (WW' := fun _ => [w_Mo G a0 q3]) (st := []) (st' := []) [0] rfl rfl (fun _ => Nat.le_of_ble_eq_true rfl) (fun _ => rfl) rfl rfl nm_X12_begin zw_6_213 zw_6_215 zw_0_48 zw_1_18 zw_6_216 rfl rfl rfl (Nat.le_of_ble_eq_true rfl) ⟨Nat.le_of_ble_eq_true rfl, Nat.le_of_ble_eq_true rfl⟩ (by decide +kernel) (fun _ => ?_)
      obtain ⟨y4, e4, hf⟩ := zlet_of hf
      refine zr_run [(.aload_n 0, 0, 0, 0, .null), (.iconst 0, 0, 0, 0, .int (0 : Int32)), (.putfield 409, 0, 0, 47, .null)] [] (WW' := [w_Mo G a0 (Mo_s_lineMany q3 (0 : Int32))]) (lv' := [some (.ref (a0 0)), some (.int x1), none, none]) (pc' := 30) (st' := []) (by decide +kernel) rfl rfl ⟨trivial, trivial, ⟨rfl, rfl, rfl, trivial, rfl, rfl, zw_6_76⟩, trivial⟩ ?_
      refine zr_eq (WW2 := [w_Mo G a0 y4]) (lv2 := [some (.ref (a0 0)), some (.int x1), none, none]) (st2 := []) (by rw [e4]) rfl rfl ?_
      exact t_X12_book_L30 l G a0 W0 r zFU y4 x1 hf
  exact zj_entry [some (.ref (a0 0)), some (.int x1), none, none] (by decide +kernel) rfl (by decide) (Nat.le_of_ble_eq_true rfl) rfl rfl (key _)
def M_X12_told : zj_M := (RX12, cX12_told, 2, (some .int), { frames := 1, cells := 0, slots := 0, locals := 22 }, false)
theorem nm_X12_told : zj_nm yX12_told 1 := ⟨by decide +kernel, by decide +kernel, by decide +kernel⟩
def f_X12_told_b30  (s0 : MoT)   : Option (Int32 × MoT) := some ((-1 : Int32), s0)
def f_X12_told  (s0 : MoT) (x1 : Int32) : Option (Int32 × MoT) := (zlet (Mo_s_thrown s0 (0 : Int32)) fun y1 => (if (Mo_hasWritten y1) = 0 then f_X12_told_b30 y1 else ((f_X12_isIn x1 (0 : Int32) (3 : Int32)).bind fun q2 => (if q2 = 0 then f_X12_told_b30 y1 else (if zb_in x1 4 = true then some (((Mo_written y1) x1.toNatClampNeg), y1) else none)))))
set_option maxRecDepth 100000 in
set_option maxHeartbeats 4000000 in
theorem t_X12_told_b30 (l : Launch) (G : zj_G) (a0 : Nat → Nat) (W0 : List va_W) (r : Int32 × MoT) (s0 : MoT)    (hf : f_X12_told_b30 s0 = some r) : zj_J l G M_X12_told W0 (zj_ret G M_X12_told W0 (some (.int r.1)) (fun _ => [w_Mo G a0 r.2])) 0 0 [w_Mo G a0 s0] [none, none] 30 [] := by
  unfold f_X12_told_b30 at hf
  refine zr_run [(.iconst (-1), 0, 0, 0, .int (-1 : Int32))] [] (WW' := [w_Mo G a0 s0]) (lv' := [none, none]) (pc' := 31) (st' := [.int (-1 : Int32)]) (by decide +kernel) rfl rfl ⟨trivial, trivial⟩ ?_
  obtain rfl := Option.some.inj hf
  exact zr_iret (b0 := fun _ => 0) (by decide +kernel) rfl rfl rfl rfl rfl
set_option maxRecDepth 100000 in
set_option maxHeartbeats 4000000 in
theorem c_X12_told (l : Launch) (G : zj_G) (a0 : Nat → Nat) (s0 : MoT) (x1 : Int32) (r : Int32 × MoT) (hf : f_X12_told s0 x1 = some r) : zj_C l G M_X12_told yX12_told [w_Mo G a0 s0] [.ref (a0 0), .int x1] (some (.int r.1)) (fun _ => [w_Mo G a0 r.2]) := by
  have key : ∀ W0 : List va_W, zj_J l G M_X12_told W0 (zj_ret G M_X12_told W0 (some (.int r.1)) (fun _ => [w_Mo G a0 r.2])) 0 0 [w_Mo G a0 s0] [some (.ref (a0 0)), some (.int x1)] 0 [] := by
    intro W0
    unfold f_X12_told at hf
    obtain ⟨y1, e1, hf⟩ := zlet_of hf
    refine zr_run [(.aload_n 0, 0, 0, 0, .null), (.iconst 0, 0, 0, 0, .int (0 : Int32)), (.putfield 91, 0, 0, 0, .null)] [] (WW' := [w_Mo G a0 (Mo_s_thrown s0 (0 : Int32))]) (lv' := [some (.ref (a0 0)), some (.int x1)]) (pc' := 5) (st' := []) (by decide +kernel) rfl rfl ⟨trivial, trivial, ⟨rfl, rfl, rfl, trivial, rfl, rfl, zw_6_29⟩, trivial⟩ ?_
    refine zr_eq (WW2 := [w_Mo G a0 y1]) (lv2 := [some (.ref (a0 0)), some (.int x1)]) (st2 := []) (by rw [e1]) rfl rfl ?_
    refine zr_run [(.aload_n 0, 0, 0, 0, .null), (.getfield 421, 0, 0, 48, .null)] [] (WW' := [w_Mo G a0 y1]) (lv' := [some (.ref (a0 0)), some (.int x1)]) (pc' := 9) (st' := [.int (Mo_hasWritten y1)]) (by decide +kernel) rfl rfl ⟨trivial, ⟨rfl, rfl, zw_6_77⟩, trivial⟩ ?_
    refine zr_if_eq (off := 21) (tgt := 30) (by decide +kernel) (by decide) (fun hc => ?_) (fun hc => ?_)
    · have hf := zift hf hc
      refine zr_run [] [0, 1] (WW' := [w_Mo G a0 y1]) (lv' := [none, none]) (pc' := 30) (st' := []) (by decide +kernel) rfl rfl trivial ?_
      exact t_X12_told_b30 l G a0 W0 r y1 hf
    · have hf := ziff hf hc
      obtain ⟨q2, e2, hf⟩ := zbi_of hf
      refine zr_run [(.iload_n 1, 0, 0, 0, .null), (.iconst 0, 0, 0, 0, .int (0 : Int32)), (.iconst 3, 0, 0, 0, .int (3 : Int32))] [] (WW' := [w_Mo G a0 y1]) (lv' := [some (.ref (a0 0)), some (.int x1)]) (pc' := 15) (st' := [.int (3 : Int32), .int (0 : Int32), .int x1]) (by decide +kernel) rfl rfl ⟨trivial, trivial, trivial, trivial⟩ ?_
      refine zr_callS (c_X12_isIn l G x1 (0 : Int32) (3 : Int32) q2 e2) (WW' := fun _ => [w_Mo G a0 y1]) (st := []) (st' := [.int q2]) [] rfl rfl (fun _ => Nat.le_of_ble_eq_true rfl) (fun _ => rfl) rfl rfl nm_X12_isIn zw_7_38 zw_7_39 zw_1_18 zw_7_40 rfl (Nat.le_of_ble_eq_true rfl) ⟨Nat.le_of_ble_eq_true rfl, Nat.le_of_ble_eq_true rfl⟩ (by decide +kernel) (fun _ => ?_)
      refine zr_if_eq (off := 12) (tgt := 30) (by decide +kernel) (by decide) (fun hc => ?_) (fun hc => ?_)
      · have hf := zift hf hc
        refine zr_run [] [0, 1] (WW' := [w_Mo G a0 y1]) (lv' := [none, none]) (pc' := 30) (st' := []) (by decide +kernel) rfl rfl trivial ?_
        exact t_X12_told_b30 l G a0 W0 r y1 hf
      · have hf := ziff hf hc
        obtain ⟨h3, hf⟩ := zck_of hf
        refine zr_run [(.aload_n 0, 0, 0, 0, .null), (.getfield 85, 0, 0, 46, .null), (.iload_n 1, 0, 0, 0, .null), (.iaload, 0, 22, 0, .null)] [] (WW' := [w_Mo G a0 y1]) (lv' := [some (.ref (a0 0)), some (.int x1)]) (pc' := 27) (st' := [.int ((Mo_written y1) x1.toNatClampNeg)]) (by decide +kernel) rfl rfl ⟨trivial, ⟨rfl, rfl, zw_6_75⟩, trivial, ⟨rfl, rfl, h3⟩, trivial⟩ ?_
        refine zr_goto (off := 4) (tgt := 31) (by decide +kernel) (by decide) ?_
        obtain rfl := Option.some.inj hf
        exact zr_iret (b0 := fun _ => 0) (by decide +kernel) rfl rfl rfl rfl rfl
  exact zj_entry [some (.ref (a0 0)), some (.int x1)] (by decide +kernel) rfl (by decide) (Nat.le_of_ble_eq_true rfl) rfl rfl (key _)
def M_X12_readPlaceName : zj_M := (RX12, cX12_readPlaceName, 1, (some .boolean), { frames := 3, cells := 0, slots := 0, locals := 68 }, false)
theorem nm_X12_readPlaceName : zj_nm yX12_readPlaceName 0 := ⟨by decide +kernel, by decide +kernel, by decide +kernel⟩
def f_X12_readPlaceName  (s0 : MoT)  : Option (Int32 × MoT) := ((f_X12_isName s0).bind fun q1 => (if q1 = 0 then ((f_X12_bad s0 (1 : Int32)).bind fun q2 => (if zb_bo q2.1 = true then some (q2.1, q2.2) else none)) else ((f_X12_findIn 16 (Mo_name s0) (0 : Int32) ((Mo_now s0) (0 : Int32).toNatClampNeg) (Mo_word s0)).bind fun q4 => (zlet (Mo_s_told s0 q4) fun y5 => (if (Mo_told y5) = (-1 : Int32) then ((f_X12_bad y5 (3 : Int32)).bind fun q6 => (if zb_bo q6.1 = true then some (q6.1, q6.2) else none)) else ((f_X12_go y5).bind fun q8 => some ((1 : Int32), q8)))))))
set_option maxRecDepth 100000 in
set_option maxHeartbeats 4000000 in
theorem c_X12_readPlaceName (l : Launch) (G : zj_G) (a0 : Nat → Nat) (s0 : MoT)  (r : Int32 × MoT) (hf : f_X12_readPlaceName s0 = some r) : zj_C l G M_X12_readPlaceName yX12_readPlaceName [w_Mo G a0 s0] [.ref (a0 0)] (some (.int r.1)) (fun _ => [w_Mo G a0 r.2]) := by
  have key : ∀ W0 : List va_W, zj_J l G M_X12_readPlaceName W0 (zj_ret G M_X12_readPlaceName W0 (some (.int r.1)) (fun _ => [w_Mo G a0 r.2])) 0 0 [w_Mo G a0 s0] [some (.ref (a0 0))] 0 [] := by
    intro W0
    unfold f_X12_readPlaceName at hf
    obtain ⟨q1, e1, hf⟩ := zbi_of hf
    refine zr_run [(.aload_n 0, 0, 0, 0, .null)] [] (WW' := [w_Mo G a0 s0]) (lv' := [some (.ref (a0 0))]) (pc' := 1) (st' := [.ref (a0 0)]) (by decide +kernel) rfl rfl ⟨trivial, trivial⟩ ?_
    refine zr_callV (c_X12_isName l G a0 s0 q1 e1) (WW' := fun _ => [w_Mo G a0 s0]) (st := []) (st' := [.int q1]) [0] rfl rfl (fun _ => Nat.le_of_ble_eq_true rfl) (fun _ => rfl) rfl rfl nm_X12_isName zw_7_27 zw_7_29 zw_0_58 zw_1_18 zw_7_30 rfl rfl rfl (Nat.le_of_ble_eq_true rfl) ⟨Nat.le_of_ble_eq_true rfl, Nat.le_of_ble_eq_true rfl⟩ (by decide +kernel) (fun _ => ?_)
    refine zr_if_ne (off := 9) (tgt := 13) (by decide +kernel) (by decide) (fun hc => ?_) (fun hc => ?_)
    · have hf := zift hf hc
      obtain ⟨q2, e2, hf⟩ := zbi_of hf
      refine zr_run [(.aload_n 0, 0, 0, 0, .null), (.iconst 1, 0, 0, 0, .int (1 : Int32))] [] (WW' := [w_Mo G a0 s0]) (lv' := [some (.ref (a0 0))]) (pc' := 9) (st' := [.int (1 : Int32), .ref (a0 0)]) (by decide +kernel) rfl rfl ⟨trivial, trivial, trivial⟩ ?_
      refine zr_callV (c_X12_bad l G a0 s0 (1 : Int32) q2 e2) (WW' := fun _ => [w_Mo G a0 q2.2]) (st := []) (st' := [.int q2.1]) [0] rfl rfl (fun _ => Nat.le_of_ble_eq_true rfl) (fun _ => rfl) rfl rfl nm_X12_bad zw_7_19 zw_7_21 zw_0_56 zw_1_18 zw_7_22 rfl rfl rfl (Nat.le_of_ble_eq_true rfl) ⟨Nat.le_of_ble_eq_true rfl, Nat.le_of_ble_eq_true rfl⟩ (by decide +kernel) (fun _ => ?_)
      obtain ⟨h3, hf⟩ := zck_of hf
      obtain rfl := Option.some.inj hf
      exact zr_zret h3 (b0 := fun _ => 0) (by decide +kernel) rfl rfl rfl rfl rfl
    · have hf := ziff hf hc
      obtain ⟨q4, e4, hf⟩ := zbi_of hf
      refine zr_run [(.aload_n 0, 0, 0, 0, .null), (.aload_n 0, 0, 0, 0, .null), (.getfield 28, 0, 0, 19, .null), (.iconst 0, 0, 0, 0, .int (0 : Int32)), (.aload_n 0, 0, 0, 0, .null), (.getfield 13, 0, 0, 14, .null), (.iconst 0, 0, 0, 0, .int (0 : Int32)), (.iaload, 0, 2, 0, .null), (.aload_n 0, 0, 0, 0, .null), (.getfield 126, 0, 0, 12, .null)] [] (WW' := [w_Mo G a0 s0]) (lv' := [some (.ref (a0 0))]) (pc' := 29) (st' := [.long (Mo_word s0), .int ((Mo_now s0) (0 : Int32).toNatClampNeg), .int (0 : Int32), .ref (a0 7), .ref (a0 0)]) (by decide +kernel) rfl rfl ⟨trivial, trivial, ⟨rfl, rfl, zw_6_48⟩, trivial, trivial, ⟨rfl, rfl, zw_6_43⟩, trivial, ⟨rfl, rfl, (by decide)⟩, trivial, ⟨rfl, rfl, zw_6_41⟩, trivial⟩ ?_
      refine zr_cellS (b := 0) (c' := 7) (c_X12_findIn l G (fun _ => (a0 7)) 16 (Mo_name s0) (0 : Int32) ((Mo_now s0) (0 : Int32).toNatClampNeg) (Mo_word s0) q4 e4) rfl (st := [.ref (a0 0)]) (st' := [.int q4, .ref (a0 0)]) rfl rfl nm_X12_findIn zw_7_31 zw_7_32 zw_1_18 zw_7_33 rfl (Nat.le_of_ble_eq_true rfl) ⟨Nat.le_of_ble_eq_true rfl, Nat.le_of_ble_eq_true rfl⟩ (by decide +kernel) ?_
      refine zr_eq (WW2 := [w_Mo G a0 s0]) rfl rfl rfl ?_
      obtain ⟨y5, e5, hf⟩ := zlet_of hf
      refine zr_run [(.putfield 162, 0, 0, 13, .null)] [] (WW' := [w_Mo G a0 (Mo_s_told s0 q4)]) (lv' := [some (.ref (a0 0))]) (pc' := 35) (st' := []) (by decide +kernel) rfl rfl ⟨⟨rfl, rfl, rfl, trivial, rfl, rfl, zw_6_42⟩, trivial⟩ ?_
      refine zr_eq (WW2 := [w_Mo G a0 y5]) (lv2 := [some (.ref (a0 0))]) (st2 := []) (by rw [e5]) rfl rfl ?_
      refine zr_run [(.aload_n 0, 0, 0, 0, .null), (.getfield 162, 0, 0, 13, .null), (.iconst (-1), 0, 0, 0, .int (-1 : Int32))] [] (WW' := [w_Mo G a0 y5]) (lv' := [some (.ref (a0 0))]) (pc' := 40) (st' := [.int (-1 : Int32), .int (Mo_told y5)]) (by decide +kernel) rfl rfl ⟨trivial, ⟨rfl, rfl, zw_6_42⟩, trivial, trivial⟩ ?_
      refine zr_icmp_ne (off := 9) (tgt := 49) (by decide +kernel) (by decide) (fun hc => ?_) (fun hc => ?_)
      · have hf := zift hf hc
        obtain ⟨q6, e6, hf⟩ := zbi_of hf
        refine zr_run [(.aload_n 0, 0, 0, 0, .null), (.iconst 3, 0, 0, 0, .int (3 : Int32))] [] (WW' := [w_Mo G a0 y5]) (lv' := [some (.ref (a0 0))]) (pc' := 45) (st' := [.int (3 : Int32), .ref (a0 0)]) (by decide +kernel) rfl rfl ⟨trivial, trivial, trivial⟩ ?_
        refine zr_callV (c_X12_bad l G a0 y5 (3 : Int32) q6 e6) (WW' := fun _ => [w_Mo G a0 q6.2]) (st := []) (st' := [.int q6.1]) [0] rfl rfl (fun _ => Nat.le_of_ble_eq_true rfl) (fun _ => rfl) rfl rfl nm_X12_bad zw_7_19 zw_7_21 zw_0_56 zw_1_18 zw_7_22 rfl rfl rfl (Nat.le_of_ble_eq_true rfl) ⟨Nat.le_of_ble_eq_true rfl, Nat.le_of_ble_eq_true rfl⟩ (by decide +kernel) (fun _ => ?_)
        obtain ⟨h7, hf⟩ := zck_of hf
        obtain rfl := Option.some.inj hf
        exact zr_zret h7 (b0 := fun _ => 0) (by decide +kernel) rfl rfl rfl rfl rfl
      · have hf := ziff hf hc
        obtain ⟨q8, e8, hf⟩ := zbi_of hf
        refine zr_run [(.aload_n 0, 0, 0, 0, .null)] [] (WW' := [w_Mo G a0 y5]) (lv' := [some (.ref (a0 0))]) (pc' := 50) (st' := [.ref (a0 0)]) (by decide +kernel) rfl rfl ⟨trivial, trivial⟩ ?_
        refine zr_callV (c_X12_go l G a0 y5 q8 e8) (WW' := fun _ => [w_Mo G a0 q8]) (st := []) (st' := []) [0] rfl rfl (fun _ => Nat.le_of_ble_eq_true rfl) (fun _ => rfl) rfl rfl nm_X12_go zw_6_221 zw_6_223 zw_0_50 zw_1_18 zw_6_224 rfl rfl rfl (Nat.le_of_ble_eq_true rfl) ⟨Nat.le_of_ble_eq_true rfl, Nat.le_of_ble_eq_true rfl⟩ (by decide +kernel) (fun _ => ?_)
        refine zr_run [(.iconst 1, 0, 0, 0, .int (1 : Int32))] [] (WW' := [w_Mo G a0 q8]) (lv' := [some (.ref (a0 0))]) (pc' := 54) (st' := [.int (1 : Int32)]) (by decide +kernel) rfl rfl ⟨trivial, trivial⟩ ?_
        obtain rfl := Option.some.inj hf
        exact zr_zret (by decide) (b0 := fun _ => 0) (by decide +kernel) rfl rfl rfl rfl rfl
  exact zj_entry [some (.ref (a0 0))] (by decide +kernel) rfl (by decide) (Nat.le_of_ble_eq_true rfl) rfl rfl (key _)
def M_X12_saysOne : zj_M := (RX12, cX12_saysOne, 6, (some .int), { frames := 0, cells := 0, slots := 0, locals := 0 }, false)
theorem nm_X12_saysOne : zj_nm yX12_saysOne 4 := ⟨by decide +kernel, by decide +kernel, by decide +kernel⟩
def f_X12_saysOne  (s0 : MoT) (x1 : Int32) (x2 : Int32) (x3 : Int32) (x4 : Int32) : Option (Int32 × MoT) := (if zb_in ((4 : Int32) * (Mo_nodes s0)) 240 = true then (zlet (Mo_s_node s0 ((upd (Mo_node s0) ((4 : Int32) * (Mo_nodes s0)).toNatClampNeg x1))) fun y2 => (if zb_in (((4 : Int32) * (Mo_nodes s0)) + (1 : Int32)) 240 = true then (zlet (Mo_s_node y2 ((upd (Mo_node y2) (((4 : Int32) * (Mo_nodes s0)) + (1 : Int32)).toNatClampNeg x2))) fun y4 => (if zb_in (((4 : Int32) * (Mo_nodes s0)) + (2 : Int32)) 240 = true then (zlet (Mo_s_node y4 ((upd (Mo_node y4) (((4 : Int32) * (Mo_nodes s0)) + (2 : Int32)).toNatClampNeg x3))) fun y6 => (if zb_in (((4 : Int32) * (Mo_nodes s0)) + (3 : Int32)) 240 = true then (zlet (Mo_s_node y6 ((upd (Mo_node y6) (((4 : Int32) * (Mo_nodes s0)) + (3 : Int32)).toNatClampNeg x4))) fun y8 => (zlet (Mo_s_nodes y8 ((Mo_nodes y8) + (1 : Int32))) fun y9 => some (((Mo_nodes y9) - (1 : Int32)), y9))) else none)) else none)) else none)) else none)
set_option maxRecDepth 100000 in
set_option maxHeartbeats 4000000 in
theorem c_X12_saysOne (l : Launch) (G : zj_G) (a0 : Nat → Nat) (s0 : MoT) (x1 : Int32) (x2 : Int32) (x3 : Int32) (x4 : Int32) (r : Int32 × MoT) (hf : f_X12_saysOne s0 x1 x2 x3 x4 = some r) : zj_C l G M_X12_saysOne yX12_saysOne [w_Mo G a0 s0] [.ref (a0 0), .int x1, .int x2, .int x3, .int x4] (some (.int r.1)) (fun _ => [w_Mo G a0 r.2]) := by
  have key : ∀ W0 : List va_W, zj_J l G M_X12_saysOne W0 (zj_ret G M_X12_saysOne W0 (some (.int r.1)) (fun _ => [w_Mo G a0 r.2])) 0 0 [w_Mo G a0 s0] [some (.ref (a0 0)), some (.int x1), some (.int x2), some (.int x3), some (.int x4), none] 0 [] := by
    intro W0
    unfold f_X12_saysOne at hf
    obtain ⟨h1, hf⟩ := zck_of hf
    obtain ⟨y2, e2, hf⟩ := zlet_of hf
    refine zr_run [(.iconst 4, 0, 0, 0, .int (4 : Int32)), (.aload_n 0, 0, 0, 0, .null), (.getfield 428, 0, 0, 50, .null), (.imul, 0, 0, 0, .null), (.istore 5, 0, 0, 0, .null), (.aload_n 0, 0, 0, 0, .null), (.getfield 88, 0, 0, 49, .null), (.iload 5, 0, 0, 0, .null), (.iload_n 1, 0, 0, 0, .null), (.iastore, 0, 23, 0, .null)] [] (WW' := [w_Mo G a0 (Mo_s_node s0 ((upd (Mo_node s0) ((4 : Int32) * (Mo_nodes s0)).toNatClampNeg x1)))]) (lv' := [some (.ref (a0 0)), some (.int x1), some (.int x2), some (.int x3), some (.int x4), some (.int ((4 : Int32) * (Mo_nodes s0)))]) (pc' := 16) (st' := []) (by decide +kernel) rfl rfl ⟨trivial, trivial, ⟨rfl, rfl, zw_6_79⟩, trivial, trivial, trivial, ⟨rfl, rfl, zw_6_78⟩, trivial, trivial, ⟨rfl, rfl, h1⟩, trivial⟩ ?_
    refine zr_eq (WW2 := [w_Mo G a0 y2]) (lv2 := [some (.ref (a0 0)), some (.int x1), some (.int x2), some (.int x3), some (.int x4), some (.int ((4 : Int32) * (Mo_nodes s0)))]) (st2 := []) (by rw [e2]) rfl rfl ?_
    obtain ⟨h3, hf⟩ := zck_of hf
    obtain ⟨y4, e4, hf⟩ := zlet_of hf
    refine zr_run [(.aload_n 0, 0, 0, 0, .null), (.getfield 88, 0, 0, 49, .null), (.iload 5, 0, 0, 0, .null), (.iconst 1, 0, 0, 0, .int (1 : Int32)), (.iadd, 0, 0, 0, .null), (.iload_n 2, 0, 0, 0, .null), (.iastore, 0, 23, 0, .null)] [] (WW' := [w_Mo G a0 (Mo_s_node y2 ((upd (Mo_node y2) (((4 : Int32) * (Mo_nodes s0)) + (1 : Int32)).toNatClampNeg x2)))]) (lv' := [some (.ref (a0 0)), some (.int x1), some (.int x2), some (.int x3), some (.int x4), some (.int ((4 : Int32) * (Mo_nodes s0)))]) (pc' := 26) (st' := []) (by decide +kernel) rfl rfl ⟨trivial, ⟨rfl, rfl, zw_6_78⟩, trivial, trivial, trivial, trivial, ⟨rfl, rfl, h3⟩, trivial⟩ ?_
    refine zr_eq (WW2 := [w_Mo G a0 y4]) (lv2 := [some (.ref (a0 0)), some (.int x1), some (.int x2), some (.int x3), some (.int x4), some (.int ((4 : Int32) * (Mo_nodes s0)))]) (st2 := []) (by rw [e4]) rfl rfl ?_
    obtain ⟨h5, hf⟩ := zck_of hf
    obtain ⟨y6, e6, hf⟩ := zlet_of hf
    refine zr_run [(.aload_n 0, 0, 0, 0, .null), (.getfield 88, 0, 0, 49, .null), (.iload 5, 0, 0, 0, .null), (.iconst 2, 0, 0, 0, .int (2 : Int32)), (.iadd, 0, 0, 0, .null), (.iload_n 3, 0, 0, 0, .null), (.iastore, 0, 23, 0, .null)] [] (WW' := [w_Mo G a0 (Mo_s_node y4 ((upd (Mo_node y4) (((4 : Int32) * (Mo_nodes s0)) + (2 : Int32)).toNatClampNeg x3)))]) (lv' := [some (.ref (a0 0)), some (.int x1), some (.int x2), some (.int x3), some (.int x4), some (.int ((4 : Int32) * (Mo_nodes s0)))]) (pc' := 36) (st' := []) (by decide +kernel) rfl rfl ⟨trivial, ⟨rfl, rfl, zw_6_78⟩, trivial, trivial, trivial, trivial, ⟨rfl, rfl, h5⟩, trivial⟩ ?_
    refine zr_eq (WW2 := [w_Mo G a0 y6]) (lv2 := [some (.ref (a0 0)), some (.int x1), some (.int x2), some (.int x3), some (.int x4), some (.int ((4 : Int32) * (Mo_nodes s0)))]) (st2 := []) (by rw [e6]) rfl rfl ?_
    obtain ⟨h7, hf⟩ := zck_of hf
    obtain ⟨y8, e8, hf⟩ := zlet_of hf
    refine zr_run [(.aload_n 0, 0, 0, 0, .null), (.getfield 88, 0, 0, 49, .null), (.iload 5, 0, 0, 0, .null), (.iconst 3, 0, 0, 0, .int (3 : Int32)), (.iadd, 0, 0, 0, .null), (.iload 4, 0, 0, 0, .null), (.iastore, 0, 23, 0, .null)] [] (WW' := [w_Mo G a0 (Mo_s_node y6 ((upd (Mo_node y6) (((4 : Int32) * (Mo_nodes s0)) + (3 : Int32)).toNatClampNeg x4)))]) (lv' := [some (.ref (a0 0)), some (.int x1), some (.int x2), some (.int x3), some (.int x4), some (.int ((4 : Int32) * (Mo_nodes s0)))]) (pc' := 47) (st' := []) (by decide +kernel) rfl rfl ⟨trivial, ⟨rfl, rfl, zw_6_78⟩, trivial, trivial, trivial, trivial, ⟨rfl, rfl, h7⟩, trivial⟩ ?_
    refine zr_eq (WW2 := [w_Mo G a0 y8]) (lv2 := [some (.ref (a0 0)), some (.int x1), some (.int x2), some (.int x3), some (.int x4), some (.int ((4 : Int32) * (Mo_nodes s0)))]) (st2 := []) (by rw [e8]) rfl rfl ?_
    obtain ⟨y9, e9, hf⟩ := zlet_of hf
    refine zr_run [(.aload_n 0, 0, 0, 0, .null), (.dup, 0, 0, 0, .null), (.getfield 428, 0, 0, 50, .null), (.iconst 1, 0, 0, 0, .int (1 : Int32)), (.iadd, 0, 0, 0, .null), (.putfield 428, 0, 0, 50, .null)] [] (WW' := [w_Mo G a0 (Mo_s_nodes y8 ((Mo_nodes y8) + (1 : Int32)))]) (lv' := [some (.ref (a0 0)), some (.int x1), some (.int x2), some (.int x3), some (.int x4), some (.int ((4 : Int32) * (Mo_nodes s0)))]) (pc' := 57) (st' := []) (by decide +kernel) rfl rfl ⟨trivial, trivial, ⟨rfl, rfl, zw_6_79⟩, trivial, trivial, ⟨rfl, rfl, rfl, trivial, rfl, rfl, zw_6_79⟩, trivial⟩ ?_
    refine zr_eq (WW2 := [w_Mo G a0 y9]) (lv2 := [some (.ref (a0 0)), some (.int x1), some (.int x2), some (.int x3), some (.int x4), some (.int ((4 : Int32) * (Mo_nodes s0)))]) (st2 := []) (by rw [e9]) rfl rfl ?_
    refine zr_run [(.aload_n 0, 0, 0, 0, .null), (.getfield 428, 0, 0, 50, .null), (.iconst 1, 0, 0, 0, .int (1 : Int32)), (.isub, 0, 0, 0, .null)] [] (WW' := [w_Mo G a0 y9]) (lv' := [some (.ref (a0 0)), some (.int x1), some (.int x2), some (.int x3), some (.int x4), some (.int ((4 : Int32) * (Mo_nodes s0)))]) (pc' := 63) (st' := [.int ((Mo_nodes y9) - (1 : Int32))]) (by decide +kernel) rfl rfl ⟨trivial, ⟨rfl, rfl, zw_6_79⟩, trivial, trivial, trivial⟩ ?_
    obtain rfl := Option.some.inj hf
    exact zr_iret (b0 := fun _ => 0) (by decide +kernel) rfl rfl rfl rfl rfl
  exact zj_entry [some (.ref (a0 0)), some (.int x1), some (.int x2), some (.int x3), some (.int x4), none] (by decide +kernel) rfl (by decide) (Nat.le_of_ble_eq_true rfl) rfl rfl (key _)
def M_X12_readOf : zj_M := (RX12, cX12_readOf, 2, (some .boolean), { frames := 4, cells := 0, slots := 0, locals := 88 }, false)
theorem nm_X12_readOf : zj_nm yX12_readOf 1 := ⟨by decide +kernel, by decide +kernel, by decide +kernel⟩
def f_X12_readOf  (s0 : MoT) (x1 : Int32) : Option (Int32 × MoT) := ((f_X12_readPlaceName s0).bind fun q1 => (if q1.1 = 0 then some ((0 : Int32), q1.2) else ((f_X12_saysOne q1.2 ((50 : Int32) + x1) (Mo_told q1.2) (0 : Int32) (0 : Int32)).bind fun q2 => (zlet (Mo_s_top q2.2 q2.1) fun y3 => some ((1 : Int32), y3)))))
set_option maxRecDepth 100000 in
set_option maxHeartbeats 4000000 in
theorem c_X12_readOf (l : Launch) (G : zj_G) (a0 : Nat → Nat) (s0 : MoT) (x1 : Int32) (r : Int32 × MoT) (hf : f_X12_readOf s0 x1 = some r) : zj_C l G M_X12_readOf yX12_readOf [w_Mo G a0 s0] [.ref (a0 0), .int x1] (some (.int r.1)) (fun _ => [w_Mo G a0 r.2]) := by
  have key : ∀ W0 : List va_W, zj_J l G M_X12_readOf W0 (zj_ret G M_X12_readOf W0 (some (.int r.1)) (fun _ => [w_Mo G a0 r.2])) 0 0 [w_Mo G a0 s0] [some (.ref (a0 0)), some (.int x1)] 0 [] := by
    intro W0
    unfold f_X12_readOf at hf
    obtain ⟨q1, e1, hf⟩ := zbi_of hf
    refine zr_run [(.aload_n 0, 0, 0, 0, .null)] [] (WW' := [w_Mo G a0 s0]) (lv' := [some (.ref (a0 0)), some (.int x1)]) (pc' := 1) (st' := [.ref (a0 0)]) (by decide +kernel) rfl rfl ⟨trivial, trivial⟩ ?_
    refine zr_callV (c_X12_readPlaceName l G a0 s0 q1 e1) (WW' := fun _ => [w_Mo G a0 q1.2]) (st := []) (st' := [.int q1.1]) [0] rfl rfl (fun _ => Nat.le_of_ble_eq_true rfl) (fun _ => rfl) rfl rfl nm_X12_readPlaceName zw_8_195 zw_8_197 zw_0_121 zw_1_18 zw_8_198 rfl rfl rfl (Nat.le_of_ble_eq_true rfl) ⟨Nat.le_of_ble_eq_true rfl, Nat.le_of_ble_eq_true rfl⟩ (by decide +kernel) (fun _ => ?_)
    refine zr_if_ne (off := 5) (tgt := 9) (by decide +kernel) (by decide) (fun hc => ?_) (fun hc => ?_)
    · have hf := zift hf hc
      refine zr_run [(.iconst 0, 0, 0, 0, .int (0 : Int32))] [] (WW' := [w_Mo G a0 q1.2]) (lv' := [some (.ref (a0 0)), some (.int x1)]) (pc' := 8) (st' := [.int (0 : Int32)]) (by decide +kernel) rfl rfl ⟨trivial, trivial⟩ ?_
      obtain rfl := Option.some.inj hf
      exact zr_zret (by decide) (b0 := fun _ => 0) (by decide +kernel) rfl rfl rfl rfl rfl
    · have hf := ziff hf hc
      obtain ⟨q2, e2, hf⟩ := zbi_of hf
      refine zr_run [(.aload_n 0, 0, 0, 0, .null), (.aload_n 0, 0, 0, 0, .null), (.bipush 50, 0, 0, 0, .int (50 : Int32)), (.iload_n 1, 0, 0, 0, .null), (.iadd, 0, 0, 0, .null), (.aload_n 0, 0, 0, 0, .null), (.getfield 162, 0, 0, 13, .null), (.iconst 0, 0, 0, 0, .int (0 : Int32)), (.iconst 0, 0, 0, 0, .int (0 : Int32))] [] (WW' := [w_Mo G a0 q1.2]) (lv' := [some (.ref (a0 0)), some (.int x1)]) (pc' := 21) (st' := [.int (0 : Int32), .int (0 : Int32), .int (Mo_told q1.2), .int ((50 : Int32) + x1), .ref (a0 0), .ref (a0 0)]) (by decide +kernel) rfl rfl ⟨trivial, trivial, trivial, trivial, trivial, trivial, ⟨rfl, rfl, zw_6_42⟩, trivial, trivial, trivial⟩ ?_
      refine zr_callV (c_X12_saysOne l G a0 q1.2 ((50 : Int32) + x1) (Mo_told q1.2) (0 : Int32) (0 : Int32) q2 e2) (WW' := fun _ => [w_Mo G a0 q2.2]) (st := [.ref (a0 0)]) (st' := [.int q2.1, .ref (a0 0)]) [0] rfl rfl (fun _ => Nat.le_of_ble_eq_true rfl) (fun _ => rfl) rfl rfl nm_X12_saysOne zw_8_187 zw_8_189 zw_0_119 zw_1_18 zw_8_190 rfl rfl rfl (Nat.le_of_ble_eq_true rfl) ⟨Nat.le_of_ble_eq_true rfl, Nat.le_of_ble_eq_true rfl⟩ (by decide +kernel) (fun _ => ?_)
      obtain ⟨y3, e3, hf⟩ := zlet_of hf
      refine zr_run [(.putfield 434, 0, 0, 53, .null)] [] (WW' := [w_Mo G a0 (Mo_s_top q2.2 q2.1)]) (lv' := [some (.ref (a0 0)), some (.int x1)]) (pc' := 27) (st' := []) (by decide +kernel) rfl rfl ⟨⟨rfl, rfl, rfl, trivial, rfl, rfl, zw_6_82⟩, trivial⟩ ?_
      refine zr_eq (WW2 := [w_Mo G a0 y3]) (lv2 := [some (.ref (a0 0)), some (.int x1)]) (st2 := []) (by rw [e3]) rfl rfl ?_
      refine zr_run [(.iconst 1, 0, 0, 0, .int (1 : Int32))] [] (WW' := [w_Mo G a0 y3]) (lv' := [some (.ref (a0 0)), some (.int x1)]) (pc' := 28) (st' := [.int (1 : Int32)]) (by decide +kernel) rfl rfl ⟨trivial, trivial⟩ ?_
      obtain rfl := Option.some.inj hf
      exact zr_zret (by decide) (b0 := fun _ => 0) (by decide +kernel) rfl rfl rfl rfl rfl
  exact zj_entry [some (.ref (a0 0)), some (.int x1)] (by decide +kernel) rfl (by decide) (Nat.le_of_ble_eq_true rfl) rfl rfl (key _)
def M_X12_readCompare : zj_M := (RX12, cX12_readCompare, 3, (some .boolean), { frames := 3, cells := 0, slots := 0, locals := 67 }, false)
theorem nm_X12_readCompare : zj_nm yX12_readCompare 1 := ⟨by decide +kernel, by decide +kernel, by decide +kernel⟩
def f_X12_readCompare_b33  (s0 : MoT)  (x1 : Int32) : Option (Int32 × MoT) := ((f_X12_go s0).bind fun q6 => ((f_X12_readNumber q6 (0 : Int32) (999 : Int32)).bind fun q7 => (if q7.1 = 0 then some ((0 : Int32), q7.2) else ((f_X12_saysOne q7.2 ((50 : Int32) + x1) (0 : Int32) (Mo_told q7.2) (Mo_sign s0)).bind fun q8 => (zlet (Mo_s_top q8.2 q8.1) fun y9 => some ((1 : Int32), y9))))))
def f_X12_readCompare  (s0 : MoT) (x1 : Int32) : Option (Int32 × MoT) := ((f_X12_isSign s0 (60 : Int32)).bind fun q1 => (if q1 = 0 then ((f_X12_isSign s0 (61 : Int32)).bind fun q2 => (if q2 = 0 then ((f_X12_isSign s0 (62 : Int32)).bind fun q3 => (if q3 = 0 then ((f_X12_bad s0 (1 : Int32)).bind fun q4 => (if zb_bo q4.1 = true then some (q4.1, q4.2) else none)) else f_X12_readCompare_b33 s0 x1)) else f_X12_readCompare_b33 s0 x1)) else f_X12_readCompare_b33 s0 x1))
set_option maxRecDepth 100000 in
set_option maxHeartbeats 4000000 in
theorem t_X12_readCompare_b33 (l : Launch) (G : zj_G) (a0 : Nat → Nat) (W0 : List va_W) (r : Int32 × MoT) (s0 : MoT)   (x1 : Int32) (hf : f_X12_readCompare_b33 s0 x1 = some r) : zj_J l G M_X12_readCompare W0 (zj_ret G M_X12_readCompare W0 (some (.int r.1)) (fun _ => [w_Mo G a0 r.2])) 0 0 [w_Mo G a0 s0] [some (.ref (a0 0)), some (.int x1), none] 33 [] := by
  unfold f_X12_readCompare_b33 at hf
  obtain ⟨q6, e6, hf⟩ := zbi_of hf
  refine zr_run [(.aload_n 0, 0, 0, 0, .null), (.getfield 123, 0, 0, 9, .null), (.istore_n 2, 0, 0, 0, .null), (.aload_n 0, 0, 0, 0, .null)] [] (WW' := [w_Mo G a0 s0]) (lv' := [some (.ref (a0 0)), some (.int x1), some (.int (Mo_sign s0))]) (pc' := 39) (st' := [.ref (a0 0)]) (by decide +kernel) rfl rfl ⟨trivial, ⟨rfl, rfl, zw_6_38⟩, trivial, trivial, trivial⟩ ?_
  refine zr_callV (c_X12_go l G a0 s0 q6 e6) (WW' := fun _ => [w_Mo G a0 q6]) (st := []) (st' := []) [0] rfl rfl (fun _ => Nat.le_of_ble_eq_true rfl) (fun _ => rfl) rfl rfl nm_X12_go zw_6_221 zw_6_223 zw_0_50 zw_1_18 zw_6_224 rfl rfl rfl (Nat.le_of_ble_eq_true rfl) ⟨Nat.le_of_ble_eq_true rfl, Nat.le_of_ble_eq_true rfl⟩ (by decide +kernel) (fun _ => ?_)
  obtain ⟨q7, e7, hf⟩ := zbi_of hf
  refine zr_run [(.aload_n 0, 0, 0, 0, .null), (.iconst 0, 0, 0, 0, .int (0 : Int32)), (.sipush 999, 0, 0, 0, .int (999 : Int32))] [] (WW' := [w_Mo G a0 q6]) (lv' := [some (.ref (a0 0)), some (.int x1), some (.int (Mo_sign s0))]) (pc' := 47) (st' := [.int (999 : Int32), .int (0 : Int32), .ref (a0 0)]) (by decide +kernel) rfl rfl ⟨trivial, trivial, trivial, trivial⟩ ?_
  refine zr_callV (c_X12_readNumber l G a0 q6 (0 : Int32) (999 : Int32) q7 e7) (WW' := fun _ => [w_Mo G a0 q7.2]) (st := []) (st' := [.int q7.1]) [0] rfl rfl (fun _ => Nat.le_of_ble_eq_true rfl) (fun _ => rfl) rfl rfl nm_X12_readNumber zw_7_34 zw_7_36 zw_0_59 zw_1_18 zw_7_37 rfl rfl rfl (Nat.le_of_ble_eq_true rfl) ⟨Nat.le_of_ble_eq_true rfl, Nat.le_of_ble_eq_true rfl⟩ (by decide +kernel) (fun _ => ?_)
  refine zr_if_ne (off := 5) (tgt := 55) (by decide +kernel) (by decide) (fun hc => ?_) (fun hc => ?_)
  · have hf := zift hf hc
    refine zr_run [(.iconst 0, 0, 0, 0, .int (0 : Int32))] [] (WW' := [w_Mo G a0 q7.2]) (lv' := [some (.ref (a0 0)), some (.int x1), some (.int (Mo_sign s0))]) (pc' := 54) (st' := [.int (0 : Int32)]) (by decide +kernel) rfl rfl ⟨trivial, trivial⟩ ?_
    obtain rfl := Option.some.inj hf
    exact zr_zret (by decide) (b0 := fun _ => 0) (by decide +kernel) rfl rfl rfl rfl rfl
  · have hf := ziff hf hc
    obtain ⟨q8, e8, hf⟩ := zbi_of hf
    refine zr_run [(.aload_n 0, 0, 0, 0, .null), (.aload_n 0, 0, 0, 0, .null), (.bipush 50, 0, 0, 0, .int (50 : Int32)), (.iload_n 1, 0, 0, 0, .null), (.iadd, 0, 0, 0, .null), (.iconst 0, 0, 0, 0, .int (0 : Int32)), (.aload_n 0, 0, 0, 0, .null), (.getfield 162, 0, 0, 13, .null), (.iload_n 2, 0, 0, 0, .null)] [] (WW' := [w_Mo G a0 q7.2]) (lv' := [some (.ref (a0 0)), some (.int x1), some (.int (Mo_sign s0))]) (pc' := 67) (st' := [.int (Mo_sign s0), .int (Mo_told q7.2), .int (0 : Int32), .int ((50 : Int32) + x1), .ref (a0 0), .ref (a0 0)]) (by decide +kernel) rfl rfl ⟨trivial, trivial, trivial, trivial, trivial, trivial, trivial, ⟨rfl, rfl, zw_6_42⟩, trivial, trivial⟩ ?_
    refine zr_callV (c_X12_saysOne l G a0 q7.2 ((50 : Int32) + x1) (0 : Int32) (Mo_told q7.2) (Mo_sign s0) q8 e8) (WW' := fun _ => [w_Mo G a0 q8.2]) (st := [.ref (a0 0)]) (st' := [.int q8.1, .ref (a0 0)]) [0] rfl rfl (fun _ => Nat.le_of_ble_eq_true rfl) (fun _ => rfl) rfl rfl nm_X12_saysOne zw_8_187 zw_8_189 zw_0_119 zw_1_18 zw_8_190 rfl rfl rfl (Nat.le_of_ble_eq_true rfl) ⟨Nat.le_of_ble_eq_true rfl, Nat.le_of_ble_eq_true rfl⟩ (by decide +kernel) (fun _ => ?_)
    obtain ⟨y9, e9, hf⟩ := zlet_of hf
    refine zr_run [(.putfield 434, 0, 0, 53, .null)] [] (WW' := [w_Mo G a0 (Mo_s_top q8.2 q8.1)]) (lv' := [some (.ref (a0 0)), some (.int x1), some (.int (Mo_sign s0))]) (pc' := 73) (st' := []) (by decide +kernel) rfl rfl ⟨⟨rfl, rfl, rfl, trivial, rfl, rfl, zw_6_82⟩, trivial⟩ ?_
    refine zr_eq (WW2 := [w_Mo G a0 y9]) (lv2 := [some (.ref (a0 0)), some (.int x1), some (.int (Mo_sign s0))]) (st2 := []) (by rw [e9]) rfl rfl ?_
    refine zr_run [(.iconst 1, 0, 0, 0, .int (1 : Int32))] [] (WW' := [w_Mo G a0 y9]) (lv' := [some (.ref (a0 0)), some (.int x1), some (.int (Mo_sign s0))]) (pc' := 74) (st' := [.int (1 : Int32)]) (by decide +kernel) rfl rfl ⟨trivial, trivial⟩ ?_
    obtain rfl := Option.some.inj hf
    exact zr_zret (by decide) (b0 := fun _ => 0) (by decide +kernel) rfl rfl rfl rfl rfl
set_option maxRecDepth 100000 in
set_option maxHeartbeats 4000000 in
theorem c_X12_readCompare (l : Launch) (G : zj_G) (a0 : Nat → Nat) (s0 : MoT) (x1 : Int32) (r : Int32 × MoT) (hf : f_X12_readCompare s0 x1 = some r) : zj_C l G M_X12_readCompare yX12_readCompare [w_Mo G a0 s0] [.ref (a0 0), .int x1] (some (.int r.1)) (fun _ => [w_Mo G a0 r.2]) := by
  have key : ∀ W0 : List va_W, zj_J l G M_X12_readCompare W0 (zj_ret G M_X12_readCompare W0 (some (.int r.1)) (fun _ => [w_Mo G a0 r.2])) 0 0 [w_Mo G a0 s0] [some (.ref (a0 0)), some (.int x1), none] 0 [] := by
    intro W0
    unfold f_X12_readCompare at hf
    obtain ⟨q1, e1, hf⟩ := zbi_of hf
    refine zr_run [(.aload_n 0, 0, 0, 0, .null), (.bipush 60, 0, 0, 0, .int (60 : Int32))] [] (WW' := [w_Mo G a0 s0]) (lv' := [some (.ref (a0 0)), some (.int x1), none]) (pc' := 3) (st' := [.int (60 : Int32), .ref (a0 0)]) (by decide +kernel) rfl rfl ⟨trivial, trivial, trivial⟩ ?_
    refine zr_callV (c_X12_isSign l G a0 s0 (60 : Int32) q1 e1) (WW' := fun _ => [w_Mo G a0 s0]) (st := []) (st' := [.int q1]) [0] rfl rfl (fun _ => Nat.le_of_ble_eq_true rfl) (fun _ => rfl) rfl rfl nm_X12_isSign zw_7_68 zw_7_70 zw_0_66 zw_1_18 zw_7_71 rfl rfl rfl (Nat.le_of_ble_eq_true rfl) ⟨Nat.le_of_ble_eq_true rfl, Nat.le_of_ble_eq_true rfl⟩ (by decide +kernel) (fun _ => ?_)
    refine zr_if_ne (off := 27) (tgt := 33) (by decide +kernel) (by decide) (fun hc => ?_) (fun hc => ?_)
    · have hf := zift hf hc
      obtain ⟨q2, e2, hf⟩ := zbi_of hf
      refine zr_run [(.aload_n 0, 0, 0, 0, .null), (.bipush 61, 0, 0, 0, .int (61 : Int32))] [] (WW' := [w_Mo G a0 s0]) (lv' := [some (.ref (a0 0)), some (.int x1), none]) (pc' := 12) (st' := [.int (61 : Int32), .ref (a0 0)]) (by decide +kernel) rfl rfl ⟨trivial, trivial, trivial⟩ ?_
      refine zr_callV (c_X12_isSign l G a0 s0 (61 : Int32) q2 e2) (WW' := fun _ => [w_Mo G a0 s0]) (st := []) (st' := [.int q2]) [0] rfl rfl (fun _ => Nat.le_of_ble_eq_true rfl) (fun _ => rfl) rfl rfl nm_X12_isSign zw_7_68 zw_7_70 zw_0_66 zw_1_18 zw_7_71 rfl rfl rfl (Nat.le_of_ble_eq_true rfl) ⟨Nat.le_of_ble_eq_true rfl, Nat.le_of_ble_eq_true rfl⟩ (by decide +kernel) (fun _ => ?_)
      refine zr_if_ne (off := 18) (tgt := 33) (by decide +kernel) (by decide) (fun hc => ?_) (fun hc => ?_)
      · have hf := zift hf hc
        obtain ⟨q3, e3, hf⟩ := zbi_of hf
        refine zr_run [(.aload_n 0, 0, 0, 0, .null), (.bipush 62, 0, 0, 0, .int (62 : Int32))] [] (WW' := [w_Mo G a0 s0]) (lv' := [some (.ref (a0 0)), some (.int x1), none]) (pc' := 21) (st' := [.int (62 : Int32), .ref (a0 0)]) (by decide +kernel) rfl rfl ⟨trivial, trivial, trivial⟩ ?_
        refine zr_callV (c_X12_isSign l G a0 s0 (62 : Int32) q3 e3) (WW' := fun _ => [w_Mo G a0 s0]) (st := []) (st' := [.int q3]) [0] rfl rfl (fun _ => Nat.le_of_ble_eq_true rfl) (fun _ => rfl) rfl rfl nm_X12_isSign zw_7_68 zw_7_70 zw_0_66 zw_1_18 zw_7_71 rfl rfl rfl (Nat.le_of_ble_eq_true rfl) ⟨Nat.le_of_ble_eq_true rfl, Nat.le_of_ble_eq_true rfl⟩ (by decide +kernel) (fun _ => ?_)
        refine zr_if_ne (off := 9) (tgt := 33) (by decide +kernel) (by decide) (fun hc => ?_) (fun hc => ?_)
        · have hf := zift hf hc
          obtain ⟨q4, e4, hf⟩ := zbi_of hf
          refine zr_run [(.aload_n 0, 0, 0, 0, .null), (.iconst 1, 0, 0, 0, .int (1 : Int32))] [] (WW' := [w_Mo G a0 s0]) (lv' := [some (.ref (a0 0)), some (.int x1), none]) (pc' := 29) (st' := [.int (1 : Int32), .ref (a0 0)]) (by decide +kernel) rfl rfl ⟨trivial, trivial, trivial⟩ ?_
          refine zr_callV (c_X12_bad l G a0 s0 (1 : Int32) q4 e4) (WW' := fun _ => [w_Mo G a0 q4.2]) (st := []) (st' := [.int q4.1]) [0] rfl rfl (fun _ => Nat.le_of_ble_eq_true rfl) (fun _ => rfl) rfl rfl nm_X12_bad zw_7_19 zw_7_21 zw_0_56 zw_1_18 zw_7_22 rfl rfl rfl (Nat.le_of_ble_eq_true rfl) ⟨Nat.le_of_ble_eq_true rfl, Nat.le_of_ble_eq_true rfl⟩ (by decide +kernel) (fun _ => ?_)
          obtain ⟨h5, hf⟩ := zck_of hf
          obtain rfl := Option.some.inj hf
          exact zr_zret h5 (b0 := fun _ => 0) (by decide +kernel) rfl rfl rfl rfl rfl
        · have hf := ziff hf hc
          exact t_X12_readCompare_b33 l G a0 W0 r s0 x1 hf
      · have hf := ziff hf hc
        exact t_X12_readCompare_b33 l G a0 W0 r s0 x1 hf
    · have hf := ziff hf hc
      exact t_X12_readCompare_b33 l G a0 W0 r s0 x1 hf
  exact zj_entry [some (.ref (a0 0)), some (.int x1), none] (by decide +kernel) rfl (by decide) (Nat.le_of_ble_eq_true rfl) rfl rfl (key _)
def M_X12_image : zj_M := (RX12, cX12_image, 3, (some .boolean), { frames := 1, cells := 0, slots := 0, locals := 22 }, false)
theorem nm_X12_image : zj_nm yX12_image 1 := ⟨by decide +kernel, by decide +kernel, by decide +kernel⟩
def f_X12_image_H51  (s0 : MoT) (k51 : MoT → Int32 → Int32 → Option (Int32 × MoT)) (x1 : Int32) (x2 : Int32) : Option (Int32 × MoT) := (if x2 < (16 : Int32) then (if zb_in x2 16 = true then (if zb_in (((16 : Int32) * x1) + x2) 32 = true then (zlet (Mo_s_keptName s0 ((vp_updL (Mo_keptName s0) (((16 : Int32) * x1) + x2).toNatClampNeg ((Mo_name s0) x2.toNatClampNeg)))) fun y8 => k51 y8 x1 (x2 + (1 : Int32))) else none) else none) else (if zb_in x1 2 = true then (zlet (Mo_s_isKept s0 ((upd (Mo_isKept s0) x1.toNatClampNeg (vp_nar .boolean (1 : Int32))))) fun y10 => some ((1 : Int32), y10)) else none))
def f_X12_image_L51    : Nat → MoT → Int32 → Int32 → Option (Int32 × MoT)
  | 0 => fun _ _ _ => none
  | n + 1 => fun s0 x1 x2 => f_X12_image_H51 s0 (f_X12_image_L51  n) x1 x2
def f_X12_image_H18  (s0 : MoT) (k18 : MoT → Int32 → Int32 → Option (Int32 × MoT)) (x1 : Int32) (x2 : Int32) : Option (Int32 × MoT) := (if x2 < (758 : Int32) then (if zb_in x2 758 = true then (if zb_in (((758 : Int32) * x1) + x2) 1516 = true then (zlet (Mo_s_kept s0 ((upd (Mo_kept s0) (((758 : Int32) * x1) + x2).toNatClampNeg ((Mo_now s0) x2.toNatClampNeg)))) fun y5 => k18 y5 x1 (x2 + (1 : Int32))) else none) else none) else f_X12_image_L51 zFU s0 x1 (0 : Int32))
def f_X12_image_L18    : Nat → MoT → Int32 → Int32 → Option (Int32 × MoT)
  | 0 => fun _ _ _ => none
  | n + 1 => fun s0 x1 x2 => f_X12_image_H18 s0 (f_X12_image_L18  n) x1 x2
def f_X12_image  (s0 : MoT) (x1 : Int32) : Option (Int32 × MoT) := (zlet (Mo_s_thrown s0 (0 : Int32)) fun y1 => ((f_X12_isIn x1 (0 : Int32) (1 : Int32)).bind fun q2 => (if q2 = 0 then some ((0 : Int32), y1) else f_X12_image_L18 zFU y1 x1 (0 : Int32))))
set_option maxRecDepth 100000 in
set_option maxHeartbeats 4000000 in
theorem t_X12_image_H51 (l : Launch) (G : zj_G) (a0 : Nat → Nat) (W0 : List va_W) (r : Int32 × MoT) (s0 : MoT) (k51 : MoT → Int32 → Int32 → Option (Int32 × MoT)) (hk51 : ∀ (s0 : MoT) (x1 : Int32) (x2 : Int32), k51 s0 x1 x2 = some r → zj_J l G M_X12_image W0 (zj_ret G M_X12_image W0 (some (.int r.1)) (fun _ => [w_Mo G a0 r.2])) 0 0 [w_Mo G a0 s0] [some (.ref (a0 0)), some (.int x1), some (.int x2)] 51 []) (x1 : Int32) (x2 : Int32) (hf : f_X12_image_H51 s0 k51 x1 x2 = some r) : zj_J l G M_X12_image W0 (zj_ret G M_X12_image W0 (some (.int r.1)) (fun _ => [w_Mo G a0 r.2])) 0 0 [w_Mo G a0 s0] [some (.ref (a0 0)), some (.int x1), some (.int x2)] 51 [] := by
  unfold f_X12_image_H51 at hf
  refine zr_run [(.iload_n 2, 0, 0, 0, .null), (.bipush 16, 0, 0, 0, .int (16 : Int32))] [] (WW' := [w_Mo G a0 s0]) (lv' := [some (.ref (a0 0)), some (.int x1), some (.int x2)]) (pc' := 54) (st' := [.int (16 : Int32), .int x2]) (by decide +kernel) rfl rfl ⟨trivial, trivial, trivial⟩ ?_
  refine zr_icmp_ge (off := 26) (tgt := 80) (by decide +kernel) (by decide) (fun hc => ?_) (fun hc => ?_)
  · have hf := zift hf hc
    obtain ⟨h6, hf⟩ := zck_of hf
    obtain ⟨h7, hf⟩ := zck_of hf
    obtain ⟨y8, e8, hf⟩ := zlet_of hf
    refine zr_run [(.aload_n 0, 0, 0, 0, .null), (.getfield 35, 0, 0, 21, .null), (.bipush 16, 0, 0, 0, .int (16 : Int32)), (.iload_n 1, 0, 0, 0, .null), (.imul, 0, 0, 0, .null), (.iload_n 2, 0, 0, 0, .null), (.iadd, 0, 0, 0, .null), (.aload_n 0, 0, 0, 0, .null), (.getfield 28, 0, 0, 19, .null), (.iload_n 2, 0, 0, 0, .null), (.laload, 0, 7, 0, .null), (.lastore, 0, 9, 0, .null)] [] (WW' := [w_Mo G a0 (Mo_s_keptName s0 ((vp_updL (Mo_keptName s0) (((16 : Int32) * x1) + x2).toNatClampNeg ((Mo_name s0) x2.toNatClampNeg))))]) (lv' := [some (.ref (a0 0)), some (.int x1), some (.int x2)]) (pc' := 74) (st' := []) (by decide +kernel) rfl rfl ⟨trivial, ⟨rfl, rfl, zw_6_50⟩, trivial, trivial, trivial, trivial, trivial, trivial, ⟨rfl, rfl, zw_6_48⟩, trivial, ⟨rfl, rfl, h6⟩, ⟨rfl, rfl, h7⟩, trivial⟩ ?_
    refine zr_eq (WW2 := [w_Mo G a0 y8]) (lv2 := [some (.ref (a0 0)), some (.int x1), some (.int x2)]) (st2 := []) (by rw [e8]) rfl rfl ?_
    refine zr_run [(.iinc 2 1, 0, 0, 0, .int (1 : Int32))] [] (WW' := [w_Mo G a0 y8]) (lv' := [some (.ref (a0 0)), some (.int x1), some (.int (x2 + (1 : Int32)))]) (pc' := 77) (st' := []) (by decide +kernel) rfl rfl ⟨trivial, trivial⟩ ?_
    refine zr_goto (off := -26) (tgt := 51) (by decide +kernel) (by decide) ?_
    exact hk51 y8 x1 (x2 + (1 : Int32)) hf
  · have hf := ziff hf hc
    obtain ⟨h9, hf⟩ := zck_of hf
    obtain ⟨y10, e10, hf⟩ := zlet_of hf
    refine zr_run [(.aload_n 0, 0, 0, 0, .null), (.getfield 38, 0, 0, 22, .null), (.iload_n 1, 0, 0, 0, .null), (.iconst 1, 0, 0, 0, .int (1 : Int32)), (.bastore, 0, 10, 1, .null)] [] (WW' := [w_Mo G a0 (Mo_s_isKept s0 ((upd (Mo_isKept s0) x1.toNatClampNeg (vp_nar .boolean (1 : Int32)))))]) (lv' := [some (.ref (a0 0)), some (.int x1), some (.int x2)]) (pc' := 87) (st' := []) (by decide +kernel) rfl rfl ⟨trivial, ⟨rfl, rfl, zw_6_51⟩, trivial, trivial, ⟨rfl, rfl, h9⟩, trivial⟩ ?_
    refine zr_eq (WW2 := [w_Mo G a0 y10]) (lv2 := [some (.ref (a0 0)), some (.int x1), some (.int x2)]) (st2 := []) (by rw [e10]) rfl rfl ?_
    refine zr_run [(.iconst 1, 0, 0, 0, .int (1 : Int32))] [] (WW' := [w_Mo G a0 y10]) (lv' := [some (.ref (a0 0)), some (.int x1), some (.int x2)]) (pc' := 88) (st' := [.int (1 : Int32)]) (by decide +kernel) rfl rfl ⟨trivial, trivial⟩ ?_
    obtain rfl := Option.some.inj hf
    exact zr_zret (by decide) (b0 := fun _ => 0) (by decide +kernel) rfl rfl rfl rfl rfl
theorem t_X12_image_L51 (l : Launch) (G : zj_G) (a0 : Nat → Nat) (W0 : List va_W) (r : Int32 × MoT)    : ∀ (n : Nat) (s0 : MoT) (x1 : Int32) (x2 : Int32), f_X12_image_L51 n s0 x1 x2 = some r → zj_J l G M_X12_image W0 (zj_ret G M_X12_image W0 (some (.int r.1)) (fun _ => [w_Mo G a0 r.2])) 0 0 [w_Mo G a0 s0] [some (.ref (a0 0)), some (.int x1), some (.int x2)] 51 [] := by
  intro n
  induction n with
  | zero => intro s0 x1 x2 hf; exact nomatch (show none = some r from hf)
  | succ n ih => intro s0 x1 x2 hf; exact t_X12_image_H51 l G a0 W0 r s0  (f_X12_image_L51 n)  ih x1 x2  hf
set_option maxRecDepth 100000 in
set_option maxHeartbeats 4000000 in
theorem t_X12_image_H18 (l : Launch) (G : zj_G) (a0 : Nat → Nat) (W0 : List va_W) (r : Int32 × MoT) (s0 : MoT) (k18 : MoT → Int32 → Int32 → Option (Int32 × MoT)) (hk18 : ∀ (s0 : MoT) (x1 : Int32) (x2 : Int32), k18 s0 x1 x2 = some r → zj_J l G M_X12_image W0 (zj_ret G M_X12_image W0 (some (.int r.1)) (fun _ => [w_Mo G a0 r.2])) 0 0 [w_Mo G a0 s0] [some (.ref (a0 0)), some (.int x1), some (.int x2)] 18 []) (x1 : Int32) (x2 : Int32) (hf : f_X12_image_H18 s0 k18 x1 x2 = some r) : zj_J l G M_X12_image W0 (zj_ret G M_X12_image W0 (some (.int r.1)) (fun _ => [w_Mo G a0 r.2])) 0 0 [w_Mo G a0 s0] [some (.ref (a0 0)), some (.int x1), some (.int x2)] 18 [] := by
  unfold f_X12_image_H18 at hf
  refine zr_run [(.iload_n 2, 0, 0, 0, .null), (.sipush 758, 0, 0, 0, .int (758 : Int32))] [] (WW' := [w_Mo G a0 s0]) (lv' := [some (.ref (a0 0)), some (.int x1), some (.int x2)]) (pc' := 22) (st' := [.int (758 : Int32), .int x2]) (by decide +kernel) rfl rfl ⟨trivial, trivial, trivial⟩ ?_
  refine zr_icmp_ge (off := 27) (tgt := 49) (by decide +kernel) (by decide) (fun hc => ?_) (fun hc => ?_)
  · have hf := zift hf hc
    obtain ⟨h3, hf⟩ := zck_of hf
    obtain ⟨h4, hf⟩ := zck_of hf
    obtain ⟨y5, e5, hf⟩ := zlet_of hf
    refine zr_run [(.aload_n 0, 0, 0, 0, .null), (.getfield 19, 0, 0, 16, .null), (.sipush 758, 0, 0, 0, .int (758 : Int32)), (.iload_n 1, 0, 0, 0, .null), (.imul, 0, 0, 0, .null), (.iload_n 2, 0, 0, 0, .null), (.iadd, 0, 0, 0, .null), (.aload_n 0, 0, 0, 0, .null), (.getfield 13, 0, 0, 14, .null), (.iload_n 2, 0, 0, 0, .null), (.iaload, 0, 2, 0, .null), (.iastore, 0, 4, 0, .null)] [] (WW' := [w_Mo G a0 (Mo_s_kept s0 ((upd (Mo_kept s0) (((758 : Int32) * x1) + x2).toNatClampNeg ((Mo_now s0) x2.toNatClampNeg))))]) (lv' := [some (.ref (a0 0)), some (.int x1), some (.int x2)]) (pc' := 43) (st' := []) (by decide +kernel) rfl rfl ⟨trivial, ⟨rfl, rfl, zw_6_45⟩, trivial, trivial, trivial, trivial, trivial, trivial, ⟨rfl, rfl, zw_6_43⟩, trivial, ⟨rfl, rfl, h3⟩, ⟨rfl, rfl, h4⟩, trivial⟩ ?_
    refine zr_eq (WW2 := [w_Mo G a0 y5]) (lv2 := [some (.ref (a0 0)), some (.int x1), some (.int x2)]) (st2 := []) (by rw [e5]) rfl rfl ?_
    refine zr_run [(.iinc 2 1, 0, 0, 0, .int (1 : Int32))] [] (WW' := [w_Mo G a0 y5]) (lv' := [some (.ref (a0 0)), some (.int x1), some (.int (x2 + (1 : Int32)))]) (pc' := 46) (st' := []) (by decide +kernel) rfl rfl ⟨trivial, trivial⟩ ?_
    refine zr_goto (off := -28) (tgt := 18) (by decide +kernel) (by decide) ?_
    exact hk18 y5 x1 (x2 + (1 : Int32)) hf
  · have hf := ziff hf hc
    refine zr_run [(.iconst 0, 0, 0, 0, .int (0 : Int32)), (.istore_n 2, 0, 0, 0, .null)] [] (WW' := [w_Mo G a0 s0]) (lv' := [some (.ref (a0 0)), some (.int x1), some (.int (0 : Int32))]) (pc' := 51) (st' := []) (by decide +kernel) rfl rfl ⟨trivial, trivial, trivial⟩ ?_
    exact t_X12_image_L51 l G a0 W0 r zFU s0 x1 (0 : Int32) hf
theorem t_X12_image_L18 (l : Launch) (G : zj_G) (a0 : Nat → Nat) (W0 : List va_W) (r : Int32 × MoT)    : ∀ (n : Nat) (s0 : MoT) (x1 : Int32) (x2 : Int32), f_X12_image_L18 n s0 x1 x2 = some r → zj_J l G M_X12_image W0 (zj_ret G M_X12_image W0 (some (.int r.1)) (fun _ => [w_Mo G a0 r.2])) 0 0 [w_Mo G a0 s0] [some (.ref (a0 0)), some (.int x1), some (.int x2)] 18 [] := by
  intro n
  induction n with
  | zero => intro s0 x1 x2 hf; exact nomatch (show none = some r from hf)
  | succ n ih => intro s0 x1 x2 hf; exact t_X12_image_H18 l G a0 W0 r s0  (f_X12_image_L18 n)  ih x1 x2  hf
set_option maxRecDepth 100000 in
set_option maxHeartbeats 4000000 in
theorem c_X12_image (l : Launch) (G : zj_G) (a0 : Nat → Nat) (s0 : MoT) (x1 : Int32) (r : Int32 × MoT) (hf : f_X12_image s0 x1 = some r) : zj_C l G M_X12_image yX12_image [w_Mo G a0 s0] [.ref (a0 0), .int x1] (some (.int r.1)) (fun _ => [w_Mo G a0 r.2]) := by
  have key : ∀ W0 : List va_W, zj_J l G M_X12_image W0 (zj_ret G M_X12_image W0 (some (.int r.1)) (fun _ => [w_Mo G a0 r.2])) 0 0 [w_Mo G a0 s0] [some (.ref (a0 0)), some (.int x1), none] 0 [] := by
    intro W0
    unfold f_X12_image at hf
    obtain ⟨y1, e1, hf⟩ := zlet_of hf
    refine zr_run [(.aload_n 0, 0, 0, 0, .null), (.iconst 0, 0, 0, 0, .int (0 : Int32)), (.putfield 91, 0, 0, 0, .null)] [] (WW' := [w_Mo G a0 (Mo_s_thrown s0 (0 : Int32))]) (lv' := [some (.ref (a0 0)), some (.int x1), none]) (pc' := 5) (st' := []) (by decide +kernel) rfl rfl ⟨trivial, trivial, ⟨rfl, rfl, rfl, trivial, rfl, rfl, zw_6_29⟩, trivial⟩ ?_
    refine zr_eq (WW2 := [w_Mo G a0 y1]) (lv2 := [some (.ref (a0 0)), some (.int x1), none]) (st2 := []) (by rw [e1]) rfl rfl ?_
    obtain ⟨q2, e2, hf⟩ := zbi_of hf
    refine zr_run [(.iload_n 1, 0, 0, 0, .null), (.iconst 0, 0, 0, 0, .int (0 : Int32)), (.iconst 1, 0, 0, 0, .int (1 : Int32))] [] (WW' := [w_Mo G a0 y1]) (lv' := [some (.ref (a0 0)), some (.int x1), none]) (pc' := 8) (st' := [.int (1 : Int32), .int (0 : Int32), .int x1]) (by decide +kernel) rfl rfl ⟨trivial, trivial, trivial, trivial⟩ ?_
    refine zr_callS (c_X12_isIn l G x1 (0 : Int32) (1 : Int32) q2 e2) (WW' := fun _ => [w_Mo G a0 y1]) (st := []) (st' := [.int q2]) [] rfl rfl (fun _ => Nat.le_of_ble_eq_true rfl) (fun _ => rfl) rfl rfl nm_X12_isIn zw_7_38 zw_7_39 zw_1_18 zw_7_40 rfl (Nat.le_of_ble_eq_true rfl) ⟨Nat.le_of_ble_eq_true rfl, Nat.le_of_ble_eq_true rfl⟩ (by decide +kernel) (fun _ => ?_)
    refine zr_if_ne (off := 5) (tgt := 16) (by decide +kernel) (by decide) (fun hc => ?_) (fun hc => ?_)
    · have hf := zift hf hc
      refine zr_run [(.iconst 0, 0, 0, 0, .int (0 : Int32))] [] (WW' := [w_Mo G a0 y1]) (lv' := [some (.ref (a0 0)), some (.int x1), none]) (pc' := 15) (st' := [.int (0 : Int32)]) (by decide +kernel) rfl rfl ⟨trivial, trivial⟩ ?_
      obtain rfl := Option.some.inj hf
      exact zr_zret (by decide) (b0 := fun _ => 0) (by decide +kernel) rfl rfl rfl rfl rfl
    · have hf := ziff hf hc
      refine zr_run [(.iconst 0, 0, 0, 0, .int (0 : Int32)), (.istore_n 2, 0, 0, 0, .null)] [] (WW' := [w_Mo G a0 y1]) (lv' := [some (.ref (a0 0)), some (.int x1), some (.int (0 : Int32))]) (pc' := 18) (st' := []) (by decide +kernel) rfl rfl ⟨trivial, trivial, trivial⟩ ?_
      exact t_X12_image_L18 l G a0 W0 r zFU y1 x1 (0 : Int32) hf
  exact zj_entry [some (.ref (a0 0)), some (.int x1), none] (by decide +kernel) rfl (by decide) (Nat.le_of_ble_eq_true rfl) rfl rfl (key _)
def M_X12_restore : zj_M := (RX12, cX12_restore, 3, (some .boolean), { frames := 1, cells := 0, slots := 0, locals := 22 }, false)
theorem nm_X12_restore : zj_nm yX12_restore 1 := ⟨by decide +kernel, by decide +kernel, by decide +kernel⟩
def f_X12_restore_H60  (s0 : MoT) (k60 : MoT → Int32 → Int32 → Option (Int32 × MoT)) (x1 : Int32) (x2 : Int32) : Option (Int32 × MoT) := (if x2 < (16 : Int32) then (if zb_in (((16 : Int32) * x1) + x2) 32 = true then (zlet ((Mo_keptName s0) (((16 : Int32) * x1) + x2).toNatClampNeg) fun y9 => (if zb_in x2 16 = true then (zlet (Mo_s_name s0 ((vp_updL (Mo_name s0) x2.toNatClampNeg y9))) fun y11 => k60 y11 x1 (x2 + (1 : Int32))) else none)) else none) else (zlet (Mo_s_snapMany s0 (0 : Int32)) fun y12 => some ((1 : Int32), y12)))
def f_X12_restore_L60    : Nat → MoT → Int32 → Int32 → Option (Int32 × MoT)
  | 0 => fun _ _ _ => none
  | n + 1 => fun s0 x1 x2 => f_X12_restore_H60 s0 (f_X12_restore_L60  n) x1 x2
def f_X12_restore_H27  (s0 : MoT) (k27 : MoT → Int32 → Int32 → Option (Int32 × MoT)) (x1 : Int32) (x2 : Int32) : Option (Int32 × MoT) := (if x2 < (758 : Int32) then (if zb_in (((758 : Int32) * x1) + x2) 1516 = true then (zlet ((Mo_kept s0) (((758 : Int32) * x1) + x2).toNatClampNeg) fun y5 => (if zb_in x2 758 = true then (zlet (Mo_s_now s0 ((upd (Mo_now s0) x2.toNatClampNeg y5))) fun y7 => k27 y7 x1 (x2 + (1 : Int32))) else none)) else none) else f_X12_restore_L60 zFU s0 x1 (0 : Int32))
def f_X12_restore_L27    : Nat → MoT → Int32 → Int32 → Option (Int32 × MoT)
  | 0 => fun _ _ _ => none
  | n + 1 => fun s0 x1 x2 => f_X12_restore_H27 s0 (f_X12_restore_L27  n) x1 x2
def f_X12_restore  (s0 : MoT) (x1 : Int32) : Option (Int32 × MoT) := (zlet (Mo_s_thrown s0 (0 : Int32)) fun y1 => ((f_X12_isIn x1 (0 : Int32) (1 : Int32)).bind fun q2 => (if q2 = 0 then some ((0 : Int32), y1) else (if zb_in x1 2 = true then (if ((Mo_isKept y1) x1.toNatClampNeg) = 0 then some ((0 : Int32), y1) else f_X12_restore_L27 zFU y1 x1 (0 : Int32)) else none))))
set_option maxRecDepth 100000 in
set_option maxHeartbeats 4000000 in
theorem t_X12_restore_H60 (l : Launch) (G : zj_G) (a0 : Nat → Nat) (W0 : List va_W) (r : Int32 × MoT) (s0 : MoT) (k60 : MoT → Int32 → Int32 → Option (Int32 × MoT)) (hk60 : ∀ (s0 : MoT) (x1 : Int32) (x2 : Int32), k60 s0 x1 x2 = some r → zj_J l G M_X12_restore W0 (zj_ret G M_X12_restore W0 (some (.int r.1)) (fun _ => [w_Mo G a0 r.2])) 0 0 [w_Mo G a0 s0] [some (.ref (a0 0)), some (.int x1), some (.int x2)] 60 []) (x1 : Int32) (x2 : Int32) (hf : f_X12_restore_H60 s0 k60 x1 x2 = some r) : zj_J l G M_X12_restore W0 (zj_ret G M_X12_restore W0 (some (.int r.1)) (fun _ => [w_Mo G a0 r.2])) 0 0 [w_Mo G a0 s0] [some (.ref (a0 0)), some (.int x1), some (.int x2)] 60 [] := by
  unfold f_X12_restore_H60 at hf
  refine zr_run [(.iload_n 2, 0, 0, 0, .null), (.bipush 16, 0, 0, 0, .int (16 : Int32))] [] (WW' := [w_Mo G a0 s0]) (lv' := [some (.ref (a0 0)), some (.int x1), some (.int x2)]) (pc' := 63) (st' := [.int (16 : Int32), .int x2]) (by decide +kernel) rfl rfl ⟨trivial, trivial, trivial⟩ ?_
  refine zr_icmp_ge (off := 26) (tgt := 89) (by decide +kernel) (by decide) (fun hc => ?_) (fun hc => ?_)
  · have hf := zift hf hc
    obtain ⟨h8, hf⟩ := zck_of hf
    obtain ⟨y9, e9, hf⟩ := zlet_of hf
    refine zr_run [(.aload_n 0, 0, 0, 0, .null), (.getfield 28, 0, 0, 19, .null), (.iload_n 2, 0, 0, 0, .null), (.aload_n 0, 0, 0, 0, .null), (.getfield 35, 0, 0, 21, .null), (.bipush 16, 0, 0, 0, .int (16 : Int32)), (.iload_n 1, 0, 0, 0, .null), (.imul, 0, 0, 0, .null), (.iload_n 2, 0, 0, 0, .null), (.iadd, 0, 0, 0, .null), (.laload, 0, 9, 0, .null)] [] (WW' := [w_Mo G a0 s0]) (lv' := [some (.ref (a0 0)), some (.int x1), some (.int x2)]) (pc' := 82) (st' := [.long ((Mo_keptName s0) (((16 : Int32) * x1) + x2).toNatClampNeg), .int x2, .ref (a0 7)]) (by decide +kernel) rfl rfl ⟨trivial, ⟨rfl, rfl, zw_6_48⟩, trivial, trivial, ⟨rfl, rfl, zw_6_50⟩, trivial, trivial, trivial, trivial, trivial, ⟨rfl, rfl, h8⟩, trivial⟩ ?_
    refine zr_eq (WW2 := [w_Mo G a0 s0]) (lv2 := [some (.ref (a0 0)), some (.int x1), some (.int x2)]) (st2 := [.long y9, .int x2, .ref (a0 7)]) rfl rfl (by rw [e9]) ?_
    obtain ⟨h10, hf⟩ := zck_of hf
    obtain ⟨y11, e11, hf⟩ := zlet_of hf
    refine zr_run [(.lastore, 0, 7, 0, .null)] [] (WW' := [w_Mo G a0 (Mo_s_name s0 ((vp_updL (Mo_name s0) x2.toNatClampNeg y9)))]) (lv' := [some (.ref (a0 0)), some (.int x1), some (.int x2)]) (pc' := 83) (st' := []) (by decide +kernel) rfl rfl ⟨⟨rfl, rfl, h10⟩, trivial⟩ ?_
    refine zr_eq (WW2 := [w_Mo G a0 y11]) (lv2 := [some (.ref (a0 0)), some (.int x1), some (.int x2)]) (st2 := []) (by rw [e11]) rfl rfl ?_
    refine zr_run [(.iinc 2 1, 0, 0, 0, .int (1 : Int32))] [] (WW' := [w_Mo G a0 y11]) (lv' := [some (.ref (a0 0)), some (.int x1), some (.int (x2 + (1 : Int32)))]) (pc' := 86) (st' := []) (by decide +kernel) rfl rfl ⟨trivial, trivial⟩ ?_
    refine zr_goto (off := -26) (tgt := 60) (by decide +kernel) (by decide) ?_
    exact hk60 y11 x1 (x2 + (1 : Int32)) hf
  · have hf := ziff hf hc
    obtain ⟨y12, e12, hf⟩ := zlet_of hf
    refine zr_run [(.aload_n 0, 0, 0, 0, .null), (.iconst 0, 0, 0, 0, .int (0 : Int32)), (.putfield 241, 0, 0, 23, .null)] [] (WW' := [w_Mo G a0 (Mo_s_snapMany s0 (0 : Int32))]) (lv' := [some (.ref (a0 0)), some (.int x1), some (.int x2)]) (pc' := 94) (st' := []) (by decide +kernel) rfl rfl ⟨trivial, trivial, ⟨rfl, rfl, rfl, trivial, rfl, rfl, zw_6_52⟩, trivial⟩ ?_
    refine zr_eq (WW2 := [w_Mo G a0 y12]) (lv2 := [some (.ref (a0 0)), some (.int x1), some (.int x2)]) (st2 := []) (by rw [e12]) rfl rfl ?_
    refine zr_run [(.iconst 1, 0, 0, 0, .int (1 : Int32))] [] (WW' := [w_Mo G a0 y12]) (lv' := [some (.ref (a0 0)), some (.int x1), some (.int x2)]) (pc' := 95) (st' := [.int (1 : Int32)]) (by decide +kernel) rfl rfl ⟨trivial, trivial⟩ ?_
    obtain rfl := Option.some.inj hf
    exact zr_zret (by decide) (b0 := fun _ => 0) (by decide +kernel) rfl rfl rfl rfl rfl
theorem t_X12_restore_L60 (l : Launch) (G : zj_G) (a0 : Nat → Nat) (W0 : List va_W) (r : Int32 × MoT)    : ∀ (n : Nat) (s0 : MoT) (x1 : Int32) (x2 : Int32), f_X12_restore_L60 n s0 x1 x2 = some r → zj_J l G M_X12_restore W0 (zj_ret G M_X12_restore W0 (some (.int r.1)) (fun _ => [w_Mo G a0 r.2])) 0 0 [w_Mo G a0 s0] [some (.ref (a0 0)), some (.int x1), some (.int x2)] 60 [] := by
  intro n
  induction n with
  | zero => intro s0 x1 x2 hf; exact nomatch (show none = some r from hf)
  | succ n ih => intro s0 x1 x2 hf; exact t_X12_restore_H60 l G a0 W0 r s0  (f_X12_restore_L60 n)  ih x1 x2  hf
set_option maxRecDepth 100000 in
set_option maxHeartbeats 4000000 in
theorem t_X12_restore_H27 (l : Launch) (G : zj_G) (a0 : Nat → Nat) (W0 : List va_W) (r : Int32 × MoT) (s0 : MoT) (k27 : MoT → Int32 → Int32 → Option (Int32 × MoT)) (hk27 : ∀ (s0 : MoT) (x1 : Int32) (x2 : Int32), k27 s0 x1 x2 = some r → zj_J l G M_X12_restore W0 (zj_ret G M_X12_restore W0 (some (.int r.1)) (fun _ => [w_Mo G a0 r.2])) 0 0 [w_Mo G a0 s0] [some (.ref (a0 0)), some (.int x1), some (.int x2)] 27 []) (x1 : Int32) (x2 : Int32) (hf : f_X12_restore_H27 s0 k27 x1 x2 = some r) : zj_J l G M_X12_restore W0 (zj_ret G M_X12_restore W0 (some (.int r.1)) (fun _ => [w_Mo G a0 r.2])) 0 0 [w_Mo G a0 s0] [some (.ref (a0 0)), some (.int x1), some (.int x2)] 27 [] := by
  unfold f_X12_restore_H27 at hf
  refine zr_run [(.iload_n 2, 0, 0, 0, .null), (.sipush 758, 0, 0, 0, .int (758 : Int32))] [] (WW' := [w_Mo G a0 s0]) (lv' := [some (.ref (a0 0)), some (.int x1), some (.int x2)]) (pc' := 31) (st' := [.int (758 : Int32), .int x2]) (by decide +kernel) rfl rfl ⟨trivial, trivial, trivial⟩ ?_
  refine zr_icmp_ge (off := 27) (tgt := 58) (by decide +kernel) (by decide) (fun hc => ?_) (fun hc => ?_)
  · have hf := zift hf hc
    obtain ⟨h4, hf⟩ := zck_of hf
    obtain ⟨y5, e5, hf⟩ := zlet_of hf
    refine zr_run [(.aload_n 0, 0, 0, 0, .null), (.getfield 13, 0, 0, 14, .null), (.iload_n 2, 0, 0, 0, .null), (.aload_n 0, 0, 0, 0, .null), (.getfield 19, 0, 0, 16, .null), (.sipush 758, 0, 0, 0, .int (758 : Int32)), (.iload_n 1, 0, 0, 0, .null), (.imul, 0, 0, 0, .null), (.iload_n 2, 0, 0, 0, .null), (.iadd, 0, 0, 0, .null), (.iaload, 0, 4, 0, .null)] [] (WW' := [w_Mo G a0 s0]) (lv' := [some (.ref (a0 0)), some (.int x1), some (.int x2)]) (pc' := 51) (st' := [.int ((Mo_kept s0) (((758 : Int32) * x1) + x2).toNatClampNeg), .int x2, .ref (a0 2)]) (by decide +kernel) rfl rfl ⟨trivial, ⟨rfl, rfl, zw_6_43⟩, trivial, trivial, ⟨rfl, rfl, zw_6_45⟩, trivial, trivial, trivial, trivial, trivial, ⟨rfl, rfl, h4⟩, trivial⟩ ?_
    refine zr_eq (WW2 := [w_Mo G a0 s0]) (lv2 := [some (.ref (a0 0)), some (.int x1), some (.int x2)]) (st2 := [.int y5, .int x2, .ref (a0 2)]) rfl rfl (by rw [e5]) ?_
    obtain ⟨h6, hf⟩ := zck_of hf
    obtain ⟨y7, e7, hf⟩ := zlet_of hf
    refine zr_run [(.iastore, 0, 2, 0, .null)] [] (WW' := [w_Mo G a0 (Mo_s_now s0 ((upd (Mo_now s0) x2.toNatClampNeg y5)))]) (lv' := [some (.ref (a0 0)), some (.int x1), some (.int x2)]) (pc' := 52) (st' := []) (by decide +kernel) rfl rfl ⟨⟨rfl, rfl, h6⟩, trivial⟩ ?_
    refine zr_eq (WW2 := [w_Mo G a0 y7]) (lv2 := [some (.ref (a0 0)), some (.int x1), some (.int x2)]) (st2 := []) (by rw [e7]) rfl rfl ?_
    refine zr_run [(.iinc 2 1, 0, 0, 0, .int (1 : Int32))] [] (WW' := [w_Mo G a0 y7]) (lv' := [some (.ref (a0 0)), some (.int x1), some (.int (x2 + (1 : Int32)))]) (pc' := 55) (st' := []) (by decide +kernel) rfl rfl ⟨trivial, trivial⟩ ?_
    refine zr_goto (off := -28) (tgt := 27) (by decide +kernel) (by decide) ?_
    exact hk27 y7 x1 (x2 + (1 : Int32)) hf
  · have hf := ziff hf hc
    refine zr_run [(.iconst 0, 0, 0, 0, .int (0 : Int32)), (.istore_n 2, 0, 0, 0, .null)] [] (WW' := [w_Mo G a0 s0]) (lv' := [some (.ref (a0 0)), some (.int x1), some (.int (0 : Int32))]) (pc' := 60) (st' := []) (by decide +kernel) rfl rfl ⟨trivial, trivial, trivial⟩ ?_
    exact t_X12_restore_L60 l G a0 W0 r zFU s0 x1 (0 : Int32) hf
theorem t_X12_restore_L27 (l : Launch) (G : zj_G) (a0 : Nat → Nat) (W0 : List va_W) (r : Int32 × MoT)    : ∀ (n : Nat) (s0 : MoT) (x1 : Int32) (x2 : Int32), f_X12_restore_L27 n s0 x1 x2 = some r → zj_J l G M_X12_restore W0 (zj_ret G M_X12_restore W0 (some (.int r.1)) (fun _ => [w_Mo G a0 r.2])) 0 0 [w_Mo G a0 s0] [some (.ref (a0 0)), some (.int x1), some (.int x2)] 27 [] := by
  intro n
  induction n with
  | zero => intro s0 x1 x2 hf; exact nomatch (show none = some r from hf)
  | succ n ih => intro s0 x1 x2 hf; exact t_X12_restore_H27 l G a0 W0 r s0  (f_X12_restore_L27 n)  ih x1 x2  hf
set_option maxRecDepth 100000 in
set_option maxHeartbeats 4000000 in
theorem c_X12_restore (l : Launch) (G : zj_G) (a0 : Nat → Nat) (s0 : MoT) (x1 : Int32) (r : Int32 × MoT) (hf : f_X12_restore s0 x1 = some r) : zj_C l G M_X12_restore yX12_restore [w_Mo G a0 s0] [.ref (a0 0), .int x1] (some (.int r.1)) (fun _ => [w_Mo G a0 r.2]) := by
  have key : ∀ W0 : List va_W, zj_J l G M_X12_restore W0 (zj_ret G M_X12_restore W0 (some (.int r.1)) (fun _ => [w_Mo G a0 r.2])) 0 0 [w_Mo G a0 s0] [some (.ref (a0 0)), some (.int x1), none] 0 [] := by
    intro W0
    unfold f_X12_restore at hf
    obtain ⟨y1, e1, hf⟩ := zlet_of hf
    refine zr_run [(.aload_n 0, 0, 0, 0, .null), (.iconst 0, 0, 0, 0, .int (0 : Int32)), (.putfield 91, 0, 0, 0, .null)] [] (WW' := [w_Mo G a0 (Mo_s_thrown s0 (0 : Int32))]) (lv' := [some (.ref (a0 0)), some (.int x1), none]) (pc' := 5) (st' := []) (by decide +kernel) rfl rfl ⟨trivial, trivial, ⟨rfl, rfl, rfl, trivial, rfl, rfl, zw_6_29⟩, trivial⟩ ?_
    refine zr_eq (WW2 := [w_Mo G a0 y1]) (lv2 := [some (.ref (a0 0)), some (.int x1), none]) (st2 := []) (by rw [e1]) rfl rfl ?_
    obtain ⟨q2, e2, hf⟩ := zbi_of hf
    refine zr_run [(.iload_n 1, 0, 0, 0, .null), (.iconst 0, 0, 0, 0, .int (0 : Int32)), (.iconst 1, 0, 0, 0, .int (1 : Int32))] [] (WW' := [w_Mo G a0 y1]) (lv' := [some (.ref (a0 0)), some (.int x1), none]) (pc' := 8) (st' := [.int (1 : Int32), .int (0 : Int32), .int x1]) (by decide +kernel) rfl rfl ⟨trivial, trivial, trivial, trivial⟩ ?_
    refine zr_callS (c_X12_isIn l G x1 (0 : Int32) (1 : Int32) q2 e2) (WW' := fun _ => [w_Mo G a0 y1]) (st := []) (st' := [.int q2]) [] rfl rfl (fun _ => Nat.le_of_ble_eq_true rfl) (fun _ => rfl) rfl rfl nm_X12_isIn zw_7_38 zw_7_39 zw_1_18 zw_7_40 rfl (Nat.le_of_ble_eq_true rfl) ⟨Nat.le_of_ble_eq_true rfl, Nat.le_of_ble_eq_true rfl⟩ (by decide +kernel) (fun _ => ?_)
    refine zr_if_eq (off := 12) (tgt := 23) (by decide +kernel) (by decide) (fun hc => ?_) (fun hc => ?_)
    · have hf := zift hf hc
      refine zr_run [(.iconst 0, 0, 0, 0, .int (0 : Int32))] [] (WW' := [w_Mo G a0 y1]) (lv' := [some (.ref (a0 0)), some (.int x1), none]) (pc' := 24) (st' := [.int (0 : Int32)]) (by decide +kernel) rfl rfl ⟨trivial, trivial⟩ ?_
      obtain rfl := Option.some.inj hf
      exact zr_zret (by decide) (b0 := fun _ => 0) (by decide +kernel) rfl rfl rfl rfl rfl
    · have hf := ziff hf hc
      obtain ⟨h3, hf⟩ := zck_of hf
      refine zr_run [(.aload_n 0, 0, 0, 0, .null), (.getfield 38, 0, 0, 22, .null), (.iload_n 1, 0, 0, 0, .null), (.baload, 0, 10, 1, .null)] [] (WW' := [w_Mo G a0 y1]) (lv' := [some (.ref (a0 0)), some (.int x1), none]) (pc' := 20) (st' := [.int ((Mo_isKept y1) x1.toNatClampNeg)]) (by decide +kernel) rfl rfl ⟨trivial, ⟨rfl, rfl, zw_6_51⟩, trivial, ⟨rfl, rfl, h3⟩, trivial⟩ ?_
      refine zr_if_ne (off := 5) (tgt := 25) (by decide +kernel) (by decide) (fun hc => ?_) (fun hc => ?_)
      · have hf := zift hf hc
        refine zr_run [(.iconst 0, 0, 0, 0, .int (0 : Int32))] [] (WW' := [w_Mo G a0 y1]) (lv' := [some (.ref (a0 0)), some (.int x1), none]) (pc' := 24) (st' := [.int (0 : Int32)]) (by decide +kernel) rfl rfl ⟨trivial, trivial⟩ ?_
        obtain rfl := Option.some.inj hf
        exact zr_zret (by decide) (b0 := fun _ => 0) (by decide +kernel) rfl rfl rfl rfl rfl
      · have hf := ziff hf hc
        refine zr_run [(.iconst 0, 0, 0, 0, .int (0 : Int32)), (.istore_n 2, 0, 0, 0, .null)] [] (WW' := [w_Mo G a0 y1]) (lv' := [some (.ref (a0 0)), some (.int x1), some (.int (0 : Int32))]) (pc' := 27) (st' := []) (by decide +kernel) rfl rfl ⟨trivial, trivial, trivial⟩ ?_
        exact t_X12_restore_L27 l G a0 W0 r zFU y1 x1 (0 : Int32) hf
  exact zj_entry [some (.ref (a0 0)), some (.int x1), none] (by decide +kernel) rfl (by decide) (Nat.le_of_ble_eq_true rfl) rfl rfl (key _)
