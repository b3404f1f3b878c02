def M_X12_daysOf : zj_M := (RX12, cX12_daysOf, 2, (some .int), { frames := 0, cells := 0, slots := 0, locals := 0 }, false)
theorem nm_X12_daysOf : zj_nm yX12_daysOf 1 := ⟨by decide +kernel, by decide +kernel, by decide +kernel⟩
def f_X12_daysOf  (s0 : MoT) (x1 : Int32) : Option (Int32) := (if zb_in ((444 : Int32) + x1) 758 = true then (if ((Mo_now s0) ((444 : Int32) + x1).toNatClampNeg) = (1 : Int32) then (if zb_in ((486 : Int32) + x1) 758 = true then some ((Mo_now s0) ((486 : Int32) + x1).toNatClampNeg) else none) else some (0 : Int32)) else none)
set_option maxRecDepth 100000 in
set_option maxHeartbeats 4000000 in
theorem c_X12_daysOf (l : Launch) (G : zj_G) (a0 : Nat → Nat) (s0 : MoT) (x1 : Int32) (r : Int32) (hf : f_X12_daysOf s0 x1 = some r) : zj_C l G M_X12_daysOf yX12_daysOf [w_Mo G a0 s0] [.ref (a0 0), .int x1] (some (.int r)) (fun _ => [w_Mo G a0 s0]) := by
  have key : ∀ W0 : List va_W, zj_J l G M_X12_daysOf W0 (zj_ret G M_X12_daysOf W0 (some (.int r)) (fun _ => [w_Mo G a0 s0])) 0 0 [w_Mo G a0 s0] [some (.ref (a0 0)), some (.int x1)] 0 [] := by
    intro W0
    unfold f_X12_daysOf at hf
    obtain ⟨h1, hf⟩ := zck_of hf
    refine zr_run [(.aload_n 0, 0, 0, 0, .null), (.getfield 13, 0, 0, 14, .null), (.sipush 444, 0, 0, 0, .int (444 : Int32)), (.iload_n 1, 0, 0, 0, .null), (.iadd, 0, 0, 0, .null), (.iaload, 0, 2, 0, .null), (.iconst 1, 0, 0, 0, .int (1 : Int32))] [] (WW' := [w_Mo G a0 s0]) (lv' := [some (.ref (a0 0)), some (.int x1)]) (pc' := 11) (st' := [.int (1 : Int32), .int ((Mo_now s0) ((444 : Int32) + x1).toNatClampNeg)]) (by decide +kernel) rfl rfl ⟨trivial, ⟨rfl, rfl, zw_6_43⟩, trivial, trivial, trivial, ⟨rfl, rfl, h1⟩, trivial, trivial⟩ ?_
    refine zr_icmp_ne (off := 16) (tgt := 27) (by decide +kernel) (by decide) (fun hc => ?_) (fun hc => ?_)
    · have hf := zift hf hc
      obtain ⟨h2, hf⟩ := zck_of hf
      refine zr_run [(.aload_n 0, 0, 0, 0, .null), (.getfield 13, 0, 0, 14, .null), (.sipush 486, 0, 0, 0, .int (486 : Int32)), (.iload_n 1, 0, 0, 0, .null), (.iadd, 0, 0, 0, .null), (.iaload, 0, 2, 0, .null)] [] (WW' := [w_Mo G a0 s0]) (lv' := [some (.ref (a0 0)), some (.int x1)]) (pc' := 24) (st' := [.int ((Mo_now s0) ((486 : Int32) + x1).toNatClampNeg)]) (by decide +kernel) rfl rfl ⟨trivial, ⟨rfl, rfl, zw_6_43⟩, trivial, trivial, trivial, ⟨rfl, rfl, h2⟩, trivial⟩ ?_
      refine zr_goto (off := 4) (tgt := 28) (by decide +kernel) (by decide) ?_
      obtain rfl := Option.some.inj hf
      exact zr_iret (b0 := fun _ => 0) (by decide +kernel) rfl rfl rfl rfl rfl
    · have hf := ziff hf hc
      refine zr_run [(.iconst 0, 0, 0, 0, .int (0 : Int32))] [] (WW' := [w_Mo G a0 s0]) (lv' := [some (.ref (a0 0)), some (.int x1)]) (pc' := 28) (st' := [.int (0 : Int32)]) (by decide +kernel) rfl rfl ⟨trivial, trivial⟩ ?_
      obtain rfl := Option.some.inj hf
      exact zr_iret (b0 := fun _ => 0) (by decide +kernel) rfl rfl rfl rfl rfl
  exact zj_entry [some (.ref (a0 0)), some (.int x1)] (by decide +kernel) rfl (by decide) (Nat.le_of_ble_eq_true rfl) rfl rfl (key _)
def M_X12_man : zj_M := (RX12, cX12_man, 3, (some .int), { frames := 2, cells := 0, slots := 0, locals := 43 }, false)
theorem nm_X12_man : zj_nm yX12_man 2 := ⟨by decide +kernel, by decide +kernel, by decide +kernel⟩
def f_X12_man  (s0 : MoT) (x1 : Int32) (x2 : Int32) : Option (Int32 × MoT) := (zlet (Mo_s_thrown s0 (0 : Int32)) fun y1 => ((f_X12_isMan y1 x1).bind fun q2 => (if q2 = 0 then ((f_X12_refuse y1).bind fun q3 => some (q3.1, q3.2)) else (if x2 = (0 : Int32) then (if zb_in ((444 : Int32) + x1) 758 = true then some (((Mo_now y1) ((444 : Int32) + x1).toNatClampNeg), y1) else none) else (if x2 = (1 : Int32) then (if zb_in ((230 : Int32) + x1) 758 = true then some (((Mo_now y1) ((230 : Int32) + x1).toNatClampNeg), y1) else none) else (if x2 = (2 : Int32) then (if zb_in ((450 : Int32) + x1) 758 = true then some (((Mo_now y1) ((450 : Int32) + x1).toNatClampNeg), y1) else none) else (if x2 = (3 : Int32) then ((f_X12_has ((Mo_now y1) (242 : Int32).toNatClampNeg) x1).bind fun q7 => (if q7 = 0 then some ((0 : Int32), y1) else some ((1 : Int32), y1))) else (if x2 = (4 : Int32) then (if zb_in ((456 : Int32) + x1) 758 = true then some (((Mo_now y1) ((456 : Int32) + x1).toNatClampNeg), y1) else none) else (if x2 = (5 : Int32) then (if zb_in ((462 : Int32) + x1) 758 = true then some (((Mo_now y1) ((462 : Int32) + x1).toNatClampNeg), y1) else none) else (if x2 = (6 : Int32) then (if zb_in ((468 : Int32) + x1) 758 = true then some (((Mo_now y1) ((468 : Int32) + x1).toNatClampNeg), y1) else none) else (if x2 = (7 : Int32) then (if zb_in ((474 : Int32) + x1) 758 = true then some (((Mo_now y1) ((474 : Int32) + x1).toNatClampNeg), y1) else none) else (if x2 = (8 : Int32) then (if zb_in ((480 : Int32) + x1) 758 = true then some (((Mo_now y1) ((480 : Int32) + x1).toNatClampNeg), y1) else none) else (if x2 = (9 : Int32) then ((f_X12_daysOf y1 x1).bind fun q13 => some (q13, y1)) else (if x2 = (10 : Int32) then (if zb_in ((492 : Int32) + x1) 758 = true then some (((Mo_now y1) ((492 : Int32) + x1).toNatClampNeg), y1) else none) else (if x2 = (11 : Int32) then (if zb_in ((498 : Int32) + x1) 758 = true then some (((Mo_now y1) ((498 : Int32) + x1).toNatClampNeg), y1) else none) else (if x2 = (12 : Int32) then (if zb_in ((504 : Int32) + x1) 758 = true then some (((Mo_now y1) ((504 : Int32) + x1).toNatClampNeg), y1) else none) else (if x2 = (13 : Int32) then (if zb_in ((510 : Int32) + x1) 758 = true then some (((Mo_now y1) ((510 : Int32) + x1).toNatClampNeg), y1) else none) else ((f_X12_refuse y1).bind fun q18 => some (q18.1, q18.2)))))))))))))))))))
set_option maxRecDepth 100000 in
set_option maxHeartbeats 4000000 in
theorem c_X12_man (l : Launch) (G : zj_G) (a0 : Nat → Nat) (s0 : MoT) (x1 : Int32) (x2 : Int32) (r : Int32 × MoT) (hf : f_X12_man s0 x1 x2 = some r) : zj_C l G M_X12_man yX12_man [w_Mo G a0 s0] [.ref (a0 0), .int x1, .int x2] (some (.int r.1)) (fun _ => [w_Mo G a0 r.2]) := by
  have key : ∀ W0 : List va_W, zj_J l G M_X12_man W0 (zj_ret G M_X12_man W0 (some (.int r.1)) (fun _ => [w_Mo G a0 r.2])) 0 0 [w_Mo G a0 s0] [some (.ref (a0 0)), some (.int x1), some (.int x2)] 0 [] := by
    intro W0
    unfold f_X12_man at hf
    obtain ⟨y1, e1, hf⟩ := zlet_of hf
    refine zr_run [(.aload_n 0, 0, 0, 0, .null), (.iconst 0, 0, 0, 0, .int (0 : Int32)), (.putfield 91, 0, 0, 0, .null)] [] (WW' := [w_Mo G a0 (Mo_s_thrown s0 (0 : Int32))]) (lv' := [some (.ref (a0 0)), some (.int x1), some (.int x2)]) (pc' := 5) (st' := []) (by decide +kernel) rfl rfl ⟨trivial, trivial, ⟨rfl, rfl, rfl, trivial, rfl, rfl, zw_6_29⟩, trivial⟩ ?_
    refine zr_eq (WW2 := [w_Mo G a0 y1]) (lv2 := [some (.ref (a0 0)), some (.int x1), some (.int x2)]) (st2 := []) (by rw [e1]) rfl rfl ?_
    obtain ⟨q2, e2, hf⟩ := zbi_of hf
    refine zr_run [(.aload_n 0, 0, 0, 0, .null), (.iload_n 1, 0, 0, 0, .null)] [] (WW' := [w_Mo G a0 y1]) (lv' := [some (.ref (a0 0)), some (.int x1), some (.int x2)]) (pc' := 7) (st' := [.int x1, .ref (a0 0)]) (by decide +kernel) rfl rfl ⟨trivial, trivial, trivial⟩ ?_
    refine zr_callV (c_X12_isMan l G a0 y1 x1 q2 e2) (WW' := fun _ => [w_Mo G a0 y1]) (st := []) (st' := [.int q2]) [0] rfl rfl (fun _ => Nat.le_of_ble_eq_true rfl) (fun _ => rfl) rfl rfl nm_X12_isMan zw_7_128 zw_7_130 zw_0_76 zw_1_18 zw_7_131 rfl rfl rfl (Nat.le_of_ble_eq_true rfl) ⟨Nat.le_of_ble_eq_true rfl, Nat.le_of_ble_eq_true rfl⟩ (by decide +kernel) (fun _ => ?_)
    refine zr_if_ne (off := 8) (tgt := 18) (by decide +kernel) (by decide) (fun hc => ?_) (fun hc => ?_)
    · have hf := zift hf hc
      obtain ⟨q3, e3, hf⟩ := zbi_of hf
      refine zr_run [(.aload_n 0, 0, 0, 0, .null)] [] (WW' := [w_Mo G a0 y1]) (lv' := [some (.ref (a0 0)), some (.int x1), some (.int x2)]) (pc' := 14) (st' := [.ref (a0 0)]) (by decide +kernel) rfl rfl ⟨trivial, trivial⟩ ?_
      refine zr_callV (c_X12_refuse l G a0 y1 q3 e3) (WW' := fun _ => [w_Mo G a0 q3.2]) (st := []) (st' := [.int q3.1]) [0] rfl rfl (fun _ => Nat.le_of_ble_eq_true rfl) (fun _ => rfl) rfl rfl nm_X12_refuse zw_7_132 zw_7_134 zw_0_77 zw_1_18 zw_7_135 rfl rfl rfl (Nat.le_of_ble_eq_true rfl) ⟨Nat.le_of_ble_eq_true rfl, Nat.le_of_ble_eq_true rfl⟩ (by decide +kernel) (fun _ => ?_)
      obtain rfl := Option.some.inj hf
      exact zr_iret (b0 := fun _ => 0) (by decide +kernel) rfl rfl rfl rfl rfl
    · have hf := ziff hf hc
      refine zr_run [(.iload_n 2, 0, 0, 0, .null)] [] (WW' := [w_Mo G a0 y1]) (lv' := [some (.ref (a0 0)), some (.int x1), some (.int x2)]) (pc' := 19) (st' := [.int x2]) (by decide +kernel) rfl rfl ⟨trivial, trivial⟩ ?_
      by_cases hc0 : x2 = (0 : Int32)
      · have hf := zift hf hc0
        refine zr_tabIn (v := (0 : Int32)) (tgt := 88) (dflt := 228) (lo := 0) (hi := 13) (offs := #[69, 80, 91, 102, 123, 134, 145, 156, 167, 178, 184, 195, 206, 217]) (len := 69) (off := 69) hc0 (by decide +kernel) (by decide) (by decide) (by decide) ?_
        obtain ⟨h4, hf⟩ := zck_of hf
        refine zr_run [(.aload_n 0, 0, 0, 0, .null), (.getfield 13, 0, 0, 14, .null), (.sipush 444, 0, 0, 0, .int (444 : Int32)), (.iload_n 1, 0, 0, 0, .null), (.iadd, 0, 0, 0, .null), (.iaload, 0, 2, 0, .null)] [] (WW' := [w_Mo G a0 y1]) (lv' := [some (.ref (a0 0)), some (.int x1), some (.int x2)]) (pc' := 98) (st' := [.int ((Mo_now y1) ((444 : Int32) + x1).toNatClampNeg)]) (by decide +kernel) rfl rfl ⟨trivial, ⟨rfl, rfl, zw_6_43⟩, trivial, trivial, trivial, ⟨rfl, rfl, h4⟩, trivial⟩ ?_
        obtain rfl := Option.some.inj hf
        exact zr_iret (b0 := fun _ => 0) (by decide +kernel) rfl rfl rfl rfl rfl
      · have hf := ziff hf hc0
        by_cases hc1 : x2 = (1 : Int32)
        · have hf := zift hf hc1
          refine zr_tabIn (v := (1 : Int32)) (tgt := 99) (dflt := 228) (lo := 0) (hi := 13) (offs := #[69, 80, 91, 102, 123, 134, 145, 156, 167, 178, 184, 195, 206, 217]) (len := 69) (off := 80) hc1 (by decide +kernel) (by decide) (by decide) (by decide) ?_
          obtain ⟨h5, hf⟩ := zck_of hf
          refine zr_run [(.aload_n 0, 0, 0, 0, .null), (.getfield 13, 0, 0, 14, .null), (.sipush 230, 0, 0, 0, .int (230 : Int32)), (.iload_n 1, 0, 0, 0, .null), (.iadd, 0, 0, 0, .null), (.iaload, 0, 2, 0, .null)] [] (WW' := [w_Mo G a0 y1]) (lv' := [some (.ref (a0 0)), some (.int x1), some (.int x2)]) (pc' := 109) (st' := [.int ((Mo_now y1) ((230 : Int32) + x1).toNatClampNeg)]) (by decide +kernel) rfl rfl ⟨trivial, ⟨rfl, rfl, zw_6_43⟩, trivial, trivial, trivial, ⟨rfl, rfl, h5⟩, trivial⟩ ?_
          obtain rfl := Option.some.inj hf
          exact zr_iret (b0 := fun _ => 0) (by decide +kernel) rfl rfl rfl rfl rfl
        · have hf := ziff hf hc1
          by_cases hc2 : x2 = (2 : Int32)
          · have hf := zift hf hc2
            refine zr_tabIn (v := (2 : Int32)) (tgt := 110) (dflt := 228) (lo := 0) (hi := 13) (offs := #[69, 80, 91, 102, 123, 134, 145, 156, 167, 178, 184, 195, 206, 217]) (len := 69) (off := 91) hc2 (by decide +kernel) (by decide) (by decide) (by decide) ?_
            obtain ⟨h6, hf⟩ := zck_of hf
            refine zr_run [(.aload_n 0, 0, 0, 0, .null), (.getfield 13, 0, 0, 14, .null), (.sipush 450, 0, 0, 0, .int (450 : Int32)), (.iload_n 1, 0, 0, 0, .null), (.iadd, 0, 0, 0, .null), (.iaload, 0, 2, 0, .null)] [] (WW' := [w_Mo G a0 y1]) (lv' := [some (.ref (a0 0)), some (.int x1), some (.int x2)]) (pc' := 120) (st' := [.int ((Mo_now y1) ((450 : Int32) + x1).toNatClampNeg)]) (by decide +kernel) rfl rfl ⟨trivial, ⟨rfl, rfl, zw_6_43⟩, trivial, trivial, trivial, ⟨rfl, rfl, h6⟩, trivial⟩ ?_
            obtain rfl := Option.some.inj hf
            exact zr_iret (b0 := fun _ => 0) (by decide +kernel) rfl rfl rfl rfl rfl
          · have hf := ziff hf hc2
            by_cases hc3 : x2 = (3 : Int32)
            · have hf := zift hf hc3
              refine zr_tabIn (v := (3 : Int32)) (tgt := 121) (dflt := 228) (lo := 0) (hi := 13) (offs := #[69, 80, 91, 102, 123, 134, 145, 156, 167, 178, 184, 195, 206, 217]) (len := 69) (off := 102) hc3 (by decide +kernel) (by decide) (by decide) (by decide) ?_
              obtain ⟨q7, e7, hf⟩ := zbi_of hf
              refine zr_run [(.aload_n 0, 0, 0, 0, .null), (.getfield 13, 0, 0, 14, .null), (.sipush 242, 0, 0, 0, .int (242 : Int32)), (.iaload, 0, 2, 0, .null), (.iload_n 1, 0, 0, 0, .null)] [] (WW' := [w_Mo G a0 y1]) (lv' := [some (.ref (a0 0)), some (.int x1), some (.int x2)]) (pc' := 130) (st' := [.int x1, .int ((Mo_now y1) (242 : Int32).toNatClampNeg)]) (by decide +kernel) rfl rfl ⟨trivial, ⟨rfl, rfl, zw_6_43⟩, trivial, ⟨rfl, rfl, (by decide)⟩, trivial, trivial⟩ ?_
              refine zr_callS (c_X12_has l G ((Mo_now y1) (242 : Int32).toNatClampNeg) x1 q7 e7) (WW' := fun _ => [w_Mo G a0 y1]) (st := []) (st' := [.int q7]) [] rfl rfl (fun _ => Nat.le_of_ble_eq_true rfl) (fun _ => rfl) rfl rfl nm_X12_has zw_7_61 zw_7_62 zw_1_18 zw_7_63 rfl (Nat.le_of_ble_eq_true rfl) ⟨Nat.le_of_ble_eq_true rfl, Nat.le_of_ble_eq_true rfl⟩ (by decide +kernel) (fun _ => ?_)
              refine zr_if_eq (off := 7) (tgt := 140) (by decide +kernel) (by decide) (fun hc => ?_) (fun hc => ?_)
              · have hf := zift hf hc
                refine zr_run [(.iconst 0, 0, 0, 0, .int (0 : Int32))] [] (WW' := [w_Mo G a0 y1]) (lv' := [some (.ref (a0 0)), some (.int x1), some (.int x2)]) (pc' := 141) (st' := [.int (0 : Int32)]) (by decide +kernel) rfl rfl ⟨trivial, trivial⟩ ?_
                obtain rfl := Option.some.inj hf
                exact zr_iret (b0 := fun _ => 0) (by decide +kernel) rfl rfl rfl rfl rfl
              · have hf := ziff hf hc
                refine zr_run [(.iconst 1, 0, 0, 0, .int (1 : Int32))] [] (WW' := [w_Mo G a0 y1]) (lv' := [some (.ref (a0 0)), some (.int x1), some (.int x2)]) (pc' := 137) (st' := [.int (1 : Int32)]) (by decide +kernel) rfl rfl ⟨trivial, trivial⟩ ?_
                refine zr_goto (off := 4) (tgt := 141) (by decide +kernel) (by decide) ?_
                obtain rfl := Option.some.inj hf
                exact zr_iret (b0 := fun _ => 0) (by decide +kernel) rfl rfl rfl rfl rfl
            · have hf := ziff hf hc3
              by_cases hc4 : x2 = (4 : Int32)
              · have hf := zift hf hc4
                refine zr_tabIn (v := (4 : Int32)) (tgt := 142) (dflt := 228) (lo := 0) (hi := 13) (offs := #[69, 80, 91, 102, 123, 134, 145, 156, 167, 178, 184, 195, 206, 217]) (len := 69) (off := 123) hc4 (by decide +kernel) (by decide) (by decide) (by decide) ?_
                obtain ⟨h8, hf⟩ := zck_of hf
                refine zr_run [(.aload_n 0, 0, 0, 0, .null), (.getfield 13, 0, 0, 14, .null), (.sipush 456, 0, 0, 0, .int (456 : Int32)), (.iload_n 1, 0, 0, 0, .null), (.iadd, 0, 0, 0, .null), (.iaload, 0, 2, 0, .null)] [] (WW' := [w_Mo G a0 y1]) (lv' := [some (.ref (a0 0)), some (.int x1), some (.int x2)]) (pc' := 152) (st' := [.int ((Mo_now y1) ((456 : Int32) + x1).toNatClampNeg)]) (by decide +kernel) rfl rfl ⟨trivial, ⟨rfl, rfl, zw_6_43⟩, trivial, trivial, trivial, ⟨rfl, rfl, h8⟩, trivial⟩ ?_
                obtain rfl := Option.some.inj hf
                exact zr_iret (b0 := fun _ => 0) (by decide +kernel) rfl rfl rfl rfl rfl
              · have hf := ziff hf hc4
                by_cases hc5 : x2 = (5 : Int32)
                · have hf := zift hf hc5
                  refine zr_tabIn (v := (5 : Int32)) (tgt := 153) (dflt := 228) (lo := 0) (hi := 13) (offs := #[69, 80, 91, 102, 123, 134, 145, 156, 167, 178, 184, 195, 206, 217]) (len := 69) (off := 134) hc5 (by decide +kernel) (by decide) (by decide) (by decide) ?_
                  obtain ⟨h9, hf⟩ := zck_of hf
                  refine zr_run [(.aload_n 0, 0, 0, 0, .null), (.getfield 13, 0, 0, 14, .null), (.sipush 462, 0, 0, 0, .int (462 : Int32)), (.iload_n 1, 0, 0, 0, .null), (.iadd, 0, 0, 0, .null), (.iaload, 0, 2, 0, .null)] [] (WW' := [w_Mo G a0 y1]) (lv' := [some (.ref (a0 0)), some (.int x1), some (.int x2)]) (pc' := 163) (st' := [.int ((Mo_now y1) ((462 : Int32) + x1).toNatClampNeg)]) (by decide +kernel) rfl rfl ⟨trivial, ⟨rfl, rfl, zw_6_43⟩, trivial, trivial, trivial, ⟨rfl, rfl, h9⟩, trivial⟩ ?_
                  obtain rfl := Option.some.inj hf
                  exact zr_iret (b0 := fun _ => 0) (by decide +kernel) rfl rfl rfl rfl rfl
                · have hf := ziff hf hc5
                  by_cases hc6 : x2 = (6 : Int32)
                  · have hf := zift hf hc6
                    refine zr_tabIn (v := (6 : Int32)) (tgt := 164) (dflt := 228) (lo := 0) (hi := 13) (offs := #[69, 80, 91, 102, 123, 134, 145, 156, 167, 178, 184, 195, 206, 217]) (len := 69) (off := 145) hc6 (by decide +kernel) (by decide) (by decide) (by decide) ?_
                    obtain ⟨h10, hf⟩ := zck_of hf
                    refine zr_run [(.aload_n 0, 0, 0, 0, .null), (.getfield 13, 0, 0, 14, .null), (.sipush 468, 0, 0, 0, .int (468 : Int32)), (.iload_n 1, 0, 0, 0, .null), (.iadd, 0, 0, 0, .null), (.iaload, 0, 2, 0, .null)] [] (WW' := [w_Mo G a0 y1]) (lv' := [some (.ref (a0 0)), some (.int x1), some (.int x2)]) (pc' := 174) (st' := [.int ((Mo_now y1) ((468 : Int32) + x1).toNatClampNeg)]) (by decide +kernel) rfl rfl ⟨trivial, ⟨rfl, rfl, zw_6_43⟩, trivial, trivial, trivial, ⟨rfl, rfl, h10⟩, trivial⟩ ?_
                    obtain rfl := Option.some.inj hf
                    exact zr_iret (b0 := fun _ => 0) (by decide +kernel) rfl rfl rfl rfl rfl
                  · have hf := ziff hf hc6
                    by_cases hc7 : x2 = (7 : Int32)
                    · have hf := zift hf hc7
                      refine zr_tabIn (v := (7 : Int32)) (tgt := 175) (dflt := 228) (lo := 0) (hi := 13) (offs := #[69, 80, 91, 102, 123, 134, 145, 156, 167, 178, 184, 195, 206, 217]) (len := 69) (off := 156) hc7 (by decide +kernel) (by decide) (by decide) (by decide) ?_
                      obtain ⟨h11, hf⟩ := zck_of hf
                      refine zr_run [(.aload_n 0, 0, 0, 0, .null), (.getfield 13, 0, 0, 14, .null), (.sipush 474, 0, 0, 0, .int (474 : Int32)), (.iload_n 1, 0, 0, 0, .null), (.iadd, 0, 0, 0, .null), (.iaload, 0, 2, 0, .null)] [] (WW' := [w_Mo G a0 y1]) (lv' := [some (.ref (a0 0)), some (.int x1), some (.int x2)]) (pc' := 185) (st' := [.int ((Mo_now y1) ((474 : Int32) + x1).toNatClampNeg)]) (by decide +kernel) rfl rfl ⟨trivial, ⟨rfl, rfl, zw_6_43⟩, trivial, trivial, trivial, ⟨rfl, rfl, h11⟩, trivial⟩ ?_
                      obtain rfl := Option.some.inj hf
                      exact zr_iret (b0 := fun _ => 0) (by decide +kernel) rfl rfl rfl rfl rfl
                    · have hf := ziff hf hc7
                      by_cases hc8 : x2 = (8 : Int32)
                      · have hf := zift hf hc8
                        refine zr_tabIn (v := (8 : Int32)) (tgt := 186) (dflt := 228) (lo := 0) (hi := 13) (offs := #[69, 80, 91, 102, 123, 134, 145, 156, 167, 178, 184, 195, 206, 217]) (len := 69) (off := 167) hc8 (by decide +kernel) (by decide) (by decide) (by decide) ?_
                        obtain ⟨h12, hf⟩ := zck_of hf
                        refine zr_run [(.aload_n 0, 0, 0, 0, .null), (.getfield 13, 0, 0, 14, .null), (.sipush 480, 0, 0, 0, .int (480 : Int32)), (.iload_n 1, 0, 0, 0, .null), (.iadd, 0, 0, 0, .null), (.iaload, 0, 2, 0, .null)] [] (WW' := [w_Mo G a0 y1]) (lv' := [some (.ref (a0 0)), some (.int x1), some (.int x2)]) (pc' := 196) (st' := [.int ((Mo_now y1) ((480 : Int32) + x1).toNatClampNeg)]) (by decide +kernel) rfl rfl ⟨trivial, ⟨rfl, rfl, zw_6_43⟩, trivial, trivial, trivial, ⟨rfl, rfl, h12⟩, trivial⟩ ?_
                        obtain rfl := Option.some.inj hf
                        exact zr_iret (b0 := fun _ => 0) (by decide +kernel) rfl rfl rfl rfl rfl
                      · have hf := ziff hf hc8
                        by_cases hc9 : x2 = (9 : Int32)
                        · have hf := zift hf hc9
                          refine zr_tabIn (v := (9 : Int32)) (tgt := 197) (dflt := 228) (lo := 0) (hi := 13) (offs := #[69, 80, 91, 102, 123, 134, 145, 156, 167, 178, 184, 195, 206, 217]) (len := 69) (off := 178) hc9 (by decide +kernel) (by decide) (by decide) (by decide) ?_
                          obtain ⟨q13, e13, hf⟩ := zbi_of hf
                          refine zr_run [(.aload_n 0, 0, 0, 0, .null), (.iload_n 1, 0, 0, 0, .null)] [] (WW' := [w_Mo G a0 y1]) (lv' := [some (.ref (a0 0)), some (.int x1), some (.int x2)]) (pc' := 199) (st' := [.int x1, .ref (a0 0)]) (by decide +kernel) rfl rfl ⟨trivial, trivial, trivial⟩ ?_
                          refine zr_callV (c_X12_daysOf l G a0 y1 x1 q13 e13) (WW' := fun _ => [w_Mo G a0 y1]) (st := []) (st' := [.int q13]) [0] rfl rfl (fun _ => Nat.le_of_ble_eq_true rfl) (fun _ => rfl) rfl rfl nm_X12_daysOf zw_7_136 zw_7_138 zw_0_78 zw_1_18 zw_7_139 rfl rfl rfl (Nat.le_of_ble_eq_true rfl) ⟨Nat.le_of_ble_eq_true rfl, Nat.le_of_ble_eq_true rfl⟩ (by decide +kernel) (fun _ => ?_)
                          obtain rfl := Option.some.inj hf
                          exact zr_iret (b0 := fun _ => 0) (by decide +kernel) rfl rfl rfl rfl rfl
                        · have hf := ziff hf hc9
                          by_cases hc10 : x2 = (10 : Int32)
                          · have hf := zift hf hc10
                            refine zr_tabIn (v := (10 : Int32)) (tgt := 203) (dflt := 228) (lo := 0) (hi := 13) (offs := #[69, 80, 91, 102, 123, 134, 145, 156, 167, 178, 184, 195, 206, 217]) (len := 69) (off := 184) hc10 (by decide +kernel) (by decide) (by decide) (by decide) ?_
                            obtain ⟨h14, hf⟩ := zck_of hf
                            refine zr_run [(.aload_n 0, 0, 0, 0, .null), (.getfield 13, 0, 0, 14, .null), (.sipush 492, 0, 0, 0, .int (492 : Int32)), (.iload_n 1, 0, 0, 0, .null), (.iadd, 0, 0, 0, .null), (.iaload, 0, 2, 0, .null)] [] (WW' := [w_Mo G a0 y1]) (lv' := [some (.ref (a0 0)), some (.int x1), some (.int x2)]) (pc' := 213) (st' := [.int ((Mo_now y1) ((492 : Int32) + x1).toNatClampNeg)]) (by decide +kernel) rfl rfl ⟨trivial, ⟨rfl, rfl, zw_6_43⟩, trivial, trivial, trivial, ⟨rfl, rfl, h14⟩, trivial⟩ ?_
                            obtain rfl := Option.some.inj hf
                            exact zr_iret (b0 := fun _ => 0) (by decide +kernel) rfl rfl rfl rfl rfl
                          · have hf := ziff hf hc10
                            by_cases hc11 : x2 = (11 : Int32)
                            · have hf := zift hf hc11
                              refine zr_tabIn (v := (11 : Int32)) (tgt := 214) (dflt := 228) (lo := 0) (hi := 13) (offs := #[69, 80, 91, 102, 123, 134, 145, 156, 167, 178, 184, 195, 206, 217]) (len := 69) (off := 195) hc11 (by decide +kernel) (by decide) (by decide) (by decide) ?_
                              obtain ⟨h15, hf⟩ := zck_of hf
                              refine zr_run [(.aload_n 0, 0, 0, 0, .null), (.getfield 13, 0, 0, 14, .null), (.sipush 498, 0, 0, 0, .int (498 : Int32)), (.iload_n 1, 0, 0, 0, .null), (.iadd, 0, 0, 0, .null), (.iaload, 0, 2, 0, .null)] [] (WW' := [w_Mo G a0 y1]) (lv' := [some (.ref (a0 0)), some (.int x1), some (.int x2)]) (pc' := 224) (st' := [.int ((Mo_now y1) ((498 : Int32) + x1).toNatClampNeg)]) (by decide +kernel) rfl rfl ⟨trivial, ⟨rfl, rfl, zw_6_43⟩, trivial, trivial, trivial, ⟨rfl, rfl, h15⟩, trivial⟩ ?_
                              obtain rfl := Option.some.inj hf
                              exact zr_iret (b0 := fun _ => 0) (by decide +kernel) rfl rfl rfl rfl rfl
                            · have hf := ziff hf hc11
                              by_cases hc12 : x2 = (12 : Int32)
                              · have hf := zift hf hc12
                                refine zr_tabIn (v := (12 : Int32)) (tgt := 225) (dflt := 228) (lo := 0) (hi := 13) (offs := #[69, 80, 91, 102, 123, 134, 145, 156, 167, 178, 184, 195, 206, 217]) (len := 69) (off := 206) hc12 (by decide +kernel) (by decide) (by decide) (by decide) ?_
                                obtain ⟨h16, hf⟩ := zck_of hf
                                refine zr_run [(.aload_n 0, 0, 0, 0, .null), (.getfield 13, 0, 0, 14, .null), (.sipush 504, 0, 0, 0, .int (504 : Int32)), (.iload_n 1, 0, 0, 0, .null), (.iadd, 0, 0, 0, .null), (.iaload, 0, 2, 0, .null)] [] (WW' := [w_Mo G a0 y1]) (lv' := [some (.ref (a0 0)), some (.int x1), some (.int x2)]) (pc' := 235) (st' := [.int ((Mo_now y1) ((504 : Int32) + x1).toNatClampNeg)]) (by decide +kernel) rfl rfl ⟨trivial, ⟨rfl, rfl, zw_6_43⟩, trivial, trivial, trivial, ⟨rfl, rfl, h16⟩, trivial⟩ ?_
                                obtain rfl := Option.some.inj hf
                                exact zr_iret (b0 := fun _ => 0) (by decide +kernel) rfl rfl rfl rfl rfl
                              · have hf := ziff hf hc12
                                by_cases hc13 : x2 = (13 : Int32)
                                · have hf := zift hf hc13
                                  refine zr_tabIn (v := (13 : Int32)) (tgt := 236) (dflt := 228) (lo := 0) (hi := 13) (offs := #[69, 80, 91, 102, 123, 134, 145, 156, 167, 178, 184, 195, 206, 217]) (len := 69) (off := 217) hc13 (by decide +kernel) (by decide) (by decide) (by decide) ?_
                                  obtain ⟨h17, hf⟩ := zck_of hf
                                  refine zr_run [(.aload_n 0, 0, 0, 0, .null), (.getfield 13, 0, 0, 14, .null), (.sipush 510, 0, 0, 0, .int (510 : Int32)), (.iload_n 1, 0, 0, 0, .null), (.iadd, 0, 0, 0, .null), (.iaload, 0, 2, 0, .null)] [] (WW' := [w_Mo G a0 y1]) (lv' := [some (.ref (a0 0)), some (.int x1), some (.int x2)]) (pc' := 246) (st' := [.int ((Mo_now y1) ((510 : Int32) + x1).toNatClampNeg)]) (by decide +kernel) rfl rfl ⟨trivial, ⟨rfl, rfl, zw_6_43⟩, trivial, trivial, trivial, ⟨rfl, rfl, h17⟩, trivial⟩ ?_
                                  obtain rfl := Option.some.inj hf
                                  exact zr_iret (b0 := fun _ => 0) (by decide +kernel) rfl rfl rfl rfl rfl
                                · have hf := ziff hf hc13
                                  refine zr_tabOut (tgt := 247) (dflt := 228) (lo := 0) (hi := 13) (offs := #[69, 80, 91, 102, 123, 134, 145, 156, 167, 178, 184, 195, 206, 217]) (len := 69) (by decide +kernel) (by have q0 := lv_neT hc0 (a := 0) (by decide); have q1 := lv_neT hc1 (a := 1) (by decide); have q2 := lv_neT hc2 (a := 2) (by decide); have q3 := lv_neT hc3 (a := 3) (by decide); have q4 := lv_neT hc4 (a := 4) (by decide); have q5 := lv_neT hc5 (a := 5) (by decide); have q6 := lv_neT hc6 (a := 6) (by decide); have q7 := lv_neT hc7 (a := 7) (by decide); have q8 := lv_neT hc8 (a := 8) (by decide); have q9 := lv_neT hc9 (a := 9) (by decide); have q10 := lv_neT hc10 (a := 10) (by decide); have q11 := lv_neT hc11 (a := 11) (by decide); have q12 := lv_neT hc12 (a := 12) (by decide); have q13 := lv_neT hc13 (a := 13) (by decide); omega) (by decide) ?_
                                  obtain ⟨q18, e18, hf⟩ := zbi_of hf
                                  refine zr_run [(.aload_n 0, 0, 0, 0, .null)] [] (WW' := [w_Mo G a0 y1]) (lv' := [some (.ref (a0 0)), some (.int x1), some (.int x2)]) (pc' := 248) (st' := [.ref (a0 0)]) (by decide +kernel) rfl rfl ⟨trivial, trivial⟩ ?_
                                  refine zr_callV (c_X12_refuse l G a0 y1 q18 e18) (WW' := fun _ => [w_Mo G a0 q18.2]) (st := []) (st' := [.int q18.1]) [0] rfl rfl (fun _ => Nat.le_of_ble_eq_true rfl) (fun _ => rfl) rfl rfl nm_X12_refuse zw_7_132 zw_7_134 zw_0_77 zw_1_18 zw_7_135 rfl rfl rfl (Nat.le_of_ble_eq_true rfl) ⟨Nat.le_of_ble_eq_true rfl, Nat.le_of_ble_eq_true rfl⟩ (by decide +kernel) (fun _ => ?_)
                                  obtain rfl := Option.some.inj hf
                                  exact zr_iret (b0 := fun _ => 0) (by decide +kernel) rfl rfl rfl rfl rfl
  exact zj_entry [some (.ref (a0 0)), some (.int x1), some (.int x2)] (by decide +kernel) rfl (by decide) (Nat.le_of_ble_eq_true rfl) rfl rfl (key _)
def M_X12_now : zj_M := (RX12, cX12_now, 2, (some .int), { frames := 1, cells := 0, slots := 0, locals := 23 }, false)
theorem nm_X12_now : zj_nm yX12_now 1 := ⟨by decide +kernel, by decide +kernel, by decide +kernel⟩
def f_X12_now  (s0 : MoT) (x1 : Int32) : Option (Int32 × MoT) := (zlet (Mo_s_thrown s0 (0 : Int32)) fun y1 => (if x1 = 0 then some (((Mo_now y1) (443 : Int32).toNatClampNeg), y1) else ((f_X12_isIn x1 (1 : Int32) (6 : Int32)).bind fun q2 => (if q2 = 0 then some ((-1 : Int32), y1) else ((f_X12_those y1 (x1 - (1 : Int32))).bind fun q3 => some (q3, y1))))))
set_option maxRecDepth 100000 in
set_option maxHeartbeats 4000000 in
theorem c_X12_now (l : Launch) (G : zj_G) (a0 : Nat → Nat) (s0 : MoT) (x1 : Int32) (r : Int32 × MoT) (hf : f_X12_now s0 x1 = some r) : zj_C l G M_X12_now yX12_now [w_Mo G a0 s0] [.ref (a0 0), .int x1] (some (.int r.1)) (fun _ => [w_Mo G a0 r.2]) := by
  have key : ∀ W0 : List va_W, zj_J l G M_X12_now W0 (zj_ret G M_X12_now W0 (some (.int r.1)) (fun _ => [w_Mo G a0 r.2])) 0 0 [w_Mo G a0 s0] [some (.ref (a0 0)), some (.int x1)] 0 [] := by
    intro W0
    unfold f_X12_now at hf
    obtain ⟨y1, e1, hf⟩ := zlet_of hf
    refine zr_run [(.aload_n 0, 0, 0, 0, .null), (.iconst 0, 0, 0, 0, .int (0 : Int32)), (.putfield 91, 0, 0, 0, .null)] [] (WW' := [w_Mo G a0 (Mo_s_thrown s0 (0 : Int32))]) (lv' := [some (.ref (a0 0)), some (.int x1)]) (pc' := 5) (st' := []) (by decide +kernel) rfl rfl ⟨trivial, trivial, ⟨rfl, rfl, rfl, trivial, rfl, rfl, zw_6_29⟩, trivial⟩ ?_
    refine zr_eq (WW2 := [w_Mo G a0 y1]) (lv2 := [some (.ref (a0 0)), some (.int x1)]) (st2 := []) (by rw [e1]) rfl rfl ?_
    refine zr_run [(.iload_n 1, 0, 0, 0, .null)] [] (WW' := [w_Mo G a0 y1]) (lv' := [some (.ref (a0 0)), some (.int x1)]) (pc' := 6) (st' := [.int x1]) (by decide +kernel) rfl rfl ⟨trivial, trivial⟩ ?_
    refine zr_if_ne (off := 14) (tgt := 20) (by decide +kernel) (by decide) (fun hc => ?_) (fun hc => ?_)
    · have hf := zift hf hc
      refine zr_run [(.aload_n 0, 0, 0, 0, .null), (.getfield 13, 0, 0, 14, .null), (.sipush 443, 0, 0, 0, .int (443 : Int32)), (.iaload, 0, 2, 0, .null)] [] (WW' := [w_Mo G a0 y1]) (lv' := [some (.ref (a0 0)), some (.int x1)]) (pc' := 17) (st' := [.int ((Mo_now y1) (443 : Int32).toNatClampNeg)]) (by decide +kernel) rfl rfl ⟨trivial, ⟨rfl, rfl, zw_6_43⟩, trivial, ⟨rfl, rfl, (by decide)⟩, trivial⟩ ?_
      refine zr_goto (off := 24) (tgt := 41) (by decide +kernel) (by decide) ?_
      obtain rfl := Option.some.inj hf
      exact zr_iret (b0 := fun _ => 0) (by decide +kernel) rfl rfl rfl rfl rfl
    · have hf := ziff hf hc
      obtain ⟨q2, e2, hf⟩ := zbi_of hf
      refine zr_run [(.iload_n 1, 0, 0, 0, .null), (.iconst 1, 0, 0, 0, .int (1 : Int32)), (.bipush 6, 0, 0, 0, .int (6 : Int32))] [] (WW' := [w_Mo G a0 y1]) (lv' := [some (.ref (a0 0)), some (.int x1)]) (pc' := 24) (st' := [.int (6 : Int32), .int (1 : Int32), .int x1]) (by decide +kernel) rfl rfl ⟨trivial, trivial, trivial, trivial⟩ ?_
      refine zr_callS (c_X12_isIn l G x1 (1 : Int32) (6 : Int32) q2 e2) (WW' := fun _ => [w_Mo G a0 y1]) (st := []) (st' := [.int q2]) [] rfl rfl (fun _ => Nat.le_of_ble_eq_true rfl) (fun _ => rfl) rfl rfl nm_X12_isIn zw_7_38 zw_7_39 zw_1_18 zw_7_40 rfl (Nat.le_of_ble_eq_true rfl) ⟨Nat.le_of_ble_eq_true rfl, Nat.le_of_ble_eq_true rfl⟩ (by decide +kernel) (fun _ => ?_)
      refine zr_if_eq (off := 13) (tgt := 40) (by decide +kernel) (by decide) (fun hc => ?_) (fun hc => ?_)
      · have hf := zift hf hc
        refine zr_run [(.iconst (-1), 0, 0, 0, .int (-1 : Int32))] [] (WW' := [w_Mo G a0 y1]) (lv' := [some (.ref (a0 0)), some (.int x1)]) (pc' := 41) (st' := [.int (-1 : Int32)]) (by decide +kernel) rfl rfl ⟨trivial, trivial⟩ ?_
        obtain rfl := Option.some.inj hf
        exact zr_iret (b0 := fun _ => 0) (by decide +kernel) rfl rfl rfl rfl rfl
      · have hf := ziff hf hc
        obtain ⟨q3, e3, hf⟩ := zbi_of hf
        refine zr_run [(.aload_n 0, 0, 0, 0, .null), (.iload_n 1, 0, 0, 0, .null), (.iconst 1, 0, 0, 0, .int (1 : Int32)), (.isub, 0, 0, 0, .null)] [] (WW' := [w_Mo G a0 y1]) (lv' := [some (.ref (a0 0)), some (.int x1)]) (pc' := 34) (st' := [.int (x1 - (1 : Int32)), .ref (a0 0)]) (by decide +kernel) rfl rfl ⟨trivial, trivial, trivial, trivial, trivial⟩ ?_
        refine zr_callV (c_X12_those l G a0 y1 (x1 - (1 : Int32)) q3 e3) (WW' := fun _ => [w_Mo G a0 y1]) (st := []) (st' := [.int q3]) [0] rfl rfl (fun _ => Nat.le_of_ble_eq_true rfl) (fun _ => rfl) rfl rfl nm_X12_those zw_7_144 zw_7_146 zw_0_79 zw_1_18 zw_7_147 rfl rfl rfl (Nat.le_of_ble_eq_true rfl) ⟨Nat.le_of_ble_eq_true rfl, Nat.le_of_ble_eq_true rfl⟩ (by decide +kernel) (fun _ => ?_)
        refine zr_goto (off := 4) (tgt := 41) (by decide +kernel) (by decide) ?_
        obtain rfl := Option.some.inj hf
        exact zr_iret (b0 := fun _ => 0) (by decide +kernel) rfl rfl rfl rfl rfl
  exact zj_entry [some (.ref (a0 0)), some (.int x1)] (by decide +kernel) rfl (by decide) (Nat.le_of_ble_eq_true rfl) rfl rfl (key _)
def M_X12_snap : zj_M := (RX12, cX12_snap, 2, none, { frames := 0, cells := 0, slots := 0, locals := 0 }, false)
theorem nm_X12_snap : zj_nm yX12_snap 0 := ⟨by decide +kernel, by decide +kernel, by decide +kernel⟩
def f_X12_snap_H51  (s0 : MoT) (k51 : MoT → Int32 → Option (MoT)) (x1 : Int32) : Option (MoT) := (if x1 < (73 : Int32) then (if zb_in ((443 : Int32) + x1) 758 = true then (if zb_in (((73 : Int32) * (Mo_snapMany s0)) + x1) 584 = true then (zlet (Mo_s_snaps s0 ((upd (Mo_snaps s0) (((73 : Int32) * (Mo_snapMany s0)) + x1).toNatClampNeg ((Mo_now s0) ((443 : Int32) + x1).toNatClampNeg)))) fun y7 => k51 y7 (x1 + (1 : Int32))) else none) else none) else (zlet (Mo_s_snapMany s0 ((Mo_snapMany s0) + (1 : Int32))) fun y8 => some y8))
def f_X12_snap_L51    : Nat → MoT → Int32 → Option (MoT)
  | 0 => fun _ _ => none
  | n + 1 => fun s0 x1 => f_X12_snap_H51 s0 (f_X12_snap_L51  n) x1
def f_X12_snap_b49  (s0 : MoT)   : Option (MoT) := f_X12_snap_L51 zFU s0 (0 : Int32)
def f_X12_snap_H11  (s0 : MoT) (k11 : MoT → Int32 → Option (MoT)) (x1 : Int32) : Option (MoT) := (if x1 < (511 : Int32) then (if zb_in (x1 + (73 : Int32)) 584 = true then (if zb_in x1 584 = true then (zlet (Mo_s_snaps s0 ((upd (Mo_snaps s0) x1.toNatClampNeg ((Mo_snaps s0) (x1 + (73 : Int32)).toNatClampNeg)))) fun y3 => k11 y3 (x1 + (1 : Int32))) else none) else none) else (zlet (Mo_s_snapMany s0 ((Mo_snapMany s0) - (1 : Int32))) fun y4 => f_X12_snap_b49 y4))
def f_X12_snap_L11    : Nat → MoT → Int32 → Option (MoT)
  | 0 => fun _ _ => none
  | n + 1 => fun s0 x1 => f_X12_snap_H11 s0 (f_X12_snap_L11  n) x1
def f_X12_snap  (s0 : MoT)  : Option (MoT) := (if (Mo_snapMany s0) = (8 : Int32) then f_X12_snap_L11 zFU s0 (0 : Int32) else f_X12_snap_b49 s0)
set_option maxRecDepth 100000 in
set_option maxHeartbeats 4000000 in
theorem t_X12_snap_H51 (l : Launch) (G : zj_G) (a0 : Nat → Nat) (W0 : List va_W) (r : MoT) (s0 : MoT) (k51 : MoT → Int32 → Option (MoT)) (hk51 : ∀ (s0 : MoT) (x1 : Int32), k51 s0 x1 = some r → zj_J l G M_X12_snap W0 (zj_ret G M_X12_snap W0 (none) (fun _ => [w_Mo G a0 r])) 0 0 [w_Mo G a0 s0] [some (.ref (a0 0)), some (.int x1)] 51 []) (x1 : Int32) (hf : f_X12_snap_H51 s0 k51 x1 = some r) : zj_J l G M_X12_snap W0 (zj_ret G M_X12_snap W0 (none) (fun _ => [w_Mo G a0 r])) 0 0 [w_Mo G a0 s0] [some (.ref (a0 0)), some (.int x1)] 51 [] := by
  unfold f_X12_snap_H51 at hf
  refine zr_run [(.iload_n 1, 0, 0, 0, .null), (.bipush 73, 0, 0, 0, .int (73 : Int32))] [] (WW' := [w_Mo G a0 s0]) (lv' := [some (.ref (a0 0)), some (.int x1)]) (pc' := 54) (st' := [.int (73 : Int32), .int x1]) (by decide +kernel) rfl rfl ⟨trivial, trivial, trivial⟩ ?_
  refine zr_icmp_ge (off := 33) (tgt := 87) (by decide +kernel) (by decide) (fun hc => ?_) (fun hc => ?_)
  · have hf := zift hf hc
    obtain ⟨h5, hf⟩ := zck_of hf
    obtain ⟨h6, hf⟩ := zck_of hf
    obtain ⟨y7, e7, hf⟩ := zlet_of hf
    refine zr_run [(.aload_n 0, 0, 0, 0, .null), (.getfield 22, 0, 0, 17, .null), (.bipush 73, 0, 0, 0, .int (73 : Int32)), (.aload_n 0, 0, 0, 0, .null), (.getfield 241, 0, 0, 23, .null), (.imul, 0, 0, 0, .null), (.iload_n 1, 0, 0, 0, .null), (.iadd, 0, 0, 0, .null), (.aload_n 0, 0, 0, 0, .null), (.getfield 13, 0, 0, 14, .null), (.sipush 443, 0, 0, 0, .int (443 : Int32)), (.iload_n 1, 0, 0, 0, .null), (.iadd, 0, 0, 0, .null), (.iaload, 0, 2, 0, .null), (.iastore, 0, 5, 0, .null)] [] (WW' := [w_Mo G a0 (Mo_s_snaps s0 ((upd (Mo_snaps s0) (((73 : Int32) * (Mo_snapMany s0)) + x1).toNatClampNeg ((Mo_now s0) ((443 : Int32) + x1).toNatClampNeg))))]) (lv' := [some (.ref (a0 0)), some (.int x1)]) (pc' := 81) (st' := []) (by decide +kernel) rfl rfl ⟨trivial, ⟨rfl, rfl, zw_6_46⟩, trivial, trivial, ⟨rfl, rfl, zw_6_52⟩, trivial, trivial, trivial, trivial, ⟨rfl, rfl, zw_6_43⟩, trivial, trivial, trivial, ⟨rfl, rfl, h5⟩, ⟨rfl, rfl, h6⟩, trivial⟩ ?_
    refine zr_eq (WW2 := [w_Mo G a0 y7]) (lv2 := [some (.ref (a0 0)), some (.int x1)]) (st2 := []) (by rw [e7]) rfl rfl ?_
    refine zr_run [(.iinc 1 1, 0, 0, 0, .int (1 : Int32))] [] (WW' := [w_Mo G a0 y7]) (lv' := [some (.ref (a0 0)), some (.int (x1 + (1 : Int32)))]) (pc' := 84) (st' := []) (by decide +kernel) rfl rfl ⟨trivial, trivial⟩ ?_
    refine zr_goto (off := -33) (tgt := 51) (by decide +kernel) (by decide) ?_
    exact hk51 y7 (x1 + (1 : Int32)) hf
  · have hf := ziff hf hc
    obtain ⟨y8, e8, hf⟩ := zlet_of hf
    refine zr_run [(.aload_n 0, 0, 0, 0, .null), (.dup, 0, 0, 0, .null), (.getfield 241, 0, 0, 23, .null), (.iconst 1, 0, 0, 0, .int (1 : Int32)), (.iadd, 0, 0, 0, .null), (.putfield 241, 0, 0, 23, .null)] [] (WW' := [w_Mo G a0 (Mo_s_snapMany s0 ((Mo_snapMany s0) + (1 : Int32)))]) (lv' := [some (.ref (a0 0)), some (.int x1)]) (pc' := 97) (st' := []) (by decide +kernel) rfl rfl ⟨trivial, trivial, ⟨rfl, rfl, zw_6_52⟩, trivial, trivial, ⟨rfl, rfl, rfl, trivial, rfl, rfl, zw_6_52⟩, trivial⟩ ?_
    refine zr_eq (WW2 := [w_Mo G a0 y8]) (lv2 := [some (.ref (a0 0)), some (.int x1)]) (st2 := []) (by rw [e8]) rfl rfl ?_
    obtain rfl := Option.some.inj hf
    exact zr_vret (b0 := fun _ => 0) (by decide +kernel) rfl rfl rfl rfl rfl
theorem t_X12_snap_L51 (l : Launch) (G : zj_G) (a0 : Nat → Nat) (W0 : List va_W) (r : MoT)    : ∀ (n : Nat) (s0 : MoT) (x1 : Int32), f_X12_snap_L51 n s0 x1 = some r → zj_J l G M_X12_snap W0 (zj_ret G M_X12_snap W0 (none) (fun _ => [w_Mo G a0 r])) 0 0 [w_Mo G a0 s0] [some (.ref (a0 0)), some (.int x1)] 51 [] := by
  intro n
  induction n with
  | zero => intro s0 x1 hf; exact nomatch (show none = some r from hf)
  | succ n ih => intro s0 x1 hf; exact t_X12_snap_H51 l G a0 W0 r s0  (f_X12_snap_L51 n)  ih x1  hf
set_option maxRecDepth 100000 in
set_option maxHeartbeats 4000000 in
theorem t_X12_snap_b49 (l : Launch) (G : zj_G) (a0 : Nat → Nat) (W0 : List va_W) (r : MoT) (s0 : MoT)    (hf : f_X12_snap_b49 s0 = some r) : zj_J l G M_X12_snap W0 (zj_ret G M_X12_snap W0 (none) (fun _ => [w_Mo G a0 r])) 0 0 [w_Mo G a0 s0] [some (.ref (a0 0)), none] 49 [] := by
  unfold f_X12_snap_b49 at hf
  refine zr_run [(.iconst 0, 0, 0, 0, .int (0 : Int32)), (.istore_n 1, 0, 0, 0, .null)] [] (WW' := [w_Mo G a0 s0]) (lv' := [some (.ref (a0 0)), some (.int (0 : Int32))]) (pc' := 51) (st' := []) (by decide +kernel) rfl rfl ⟨trivial, trivial, trivial⟩ ?_
  exact t_X12_snap_L51 l G a0 W0 r zFU s0 (0 : Int32) hf
set_option maxRecDepth 100000 in
set_option maxHeartbeats 4000000 in
theorem t_X12_snap_H11 (l : Launch) (G : zj_G) (a0 : Nat → Nat) (W0 : List va_W) (r : MoT) (s0 : MoT) (k11 : MoT → Int32 → Option (MoT)) (hk11 : ∀ (s0 : MoT) (x1 : Int32), k11 s0 x1 = some r → zj_J l G M_X12_snap W0 (zj_ret G M_X12_snap W0 (none) (fun _ => [w_Mo G a0 r])) 0 0 [w_Mo G a0 s0] [some (.ref (a0 0)), some (.int x1)] 11 []) (x1 : Int32) (hf : f_X12_snap_H11 s0 k11 x1 = some r) : zj_J l G M_X12_snap W0 (zj_ret G M_X12_snap W0 (none) (fun _ => [w_Mo G a0 r])) 0 0 [w_Mo G a0 s0] [some (.ref (a0 0)), some (.int x1)] 11 [] := by
  unfold f_X12_snap_H11 at hf
  refine zr_run [(.iload_n 1, 0, 0, 0, .null), (.sipush 511, 0, 0, 0, .int (511 : Int32))] [] (WW' := [w_Mo G a0 s0]) (lv' := [some (.ref (a0 0)), some (.int x1)]) (pc' := 15) (st' := [.int (511 : Int32), .int x1]) (by decide +kernel) rfl rfl ⟨trivial, trivial, trivial⟩ ?_
  refine zr_icmp_ge (off := 24) (tgt := 39) (by decide +kernel) (by decide) (fun hc => ?_) (fun hc => ?_)
  · have hf := zift hf hc
    obtain ⟨h1, hf⟩ := zck_of hf
    obtain ⟨h2, hf⟩ := zck_of hf
    obtain ⟨y3, e3, hf⟩ := zlet_of hf
    refine zr_run [(.aload_n 0, 0, 0, 0, .null), (.getfield 22, 0, 0, 17, .null), (.iload_n 1, 0, 0, 0, .null), (.aload_n 0, 0, 0, 0, .null), (.getfield 22, 0, 0, 17, .null), (.iload_n 1, 0, 0, 0, .null), (.bipush 73, 0, 0, 0, .int (73 : Int32)), (.iadd, 0, 0, 0, .null), (.iaload, 0, 5, 0, .null), (.iastore, 0, 5, 0, .null)] [] (WW' := [w_Mo G a0 (Mo_s_snaps s0 ((upd (Mo_snaps s0) x1.toNatClampNeg ((Mo_snaps s0) (x1 + (73 : Int32)).toNatClampNeg))))]) (lv' := [some (.ref (a0 0)), some (.int x1)]) (pc' := 33) (st' := []) (by decide +kernel) rfl rfl ⟨trivial, ⟨rfl, rfl, zw_6_46⟩, trivial, trivial, ⟨rfl, rfl, zw_6_46⟩, trivial, trivial, trivial, ⟨rfl, rfl, h1⟩, ⟨rfl, rfl, h2⟩, trivial⟩ ?_
    refine zr_eq (WW2 := [w_Mo G a0 y3]) (lv2 := [some (.ref (a0 0)), some (.int x1)]) (st2 := []) (by rw [e3]) rfl rfl ?_
    refine zr_run [(.iinc 1 1, 0, 0, 0, .int (1 : Int32))] [] (WW' := [w_Mo G a0 y3]) (lv' := [some (.ref (a0 0)), some (.int (x1 + (1 : Int32)))]) (pc' := 36) (st' := []) (by decide +kernel) rfl rfl ⟨trivial, trivial⟩ ?_
    refine zr_goto (off := -25) (tgt := 11) (by decide +kernel) (by decide) ?_
    exact hk11 y3 (x1 + (1 : Int32)) hf
  · have hf := ziff hf hc
    obtain ⟨y4, e4, hf⟩ := zlet_of hf
    refine zr_run [(.aload_n 0, 0, 0, 0, .null), (.dup, 0, 0, 0, .null), (.getfield 241, 0, 0, 23, .null), (.iconst 1, 0, 0, 0, .int (1 : Int32)), (.isub, 0, 0, 0, .null), (.putfield 241, 0, 0, 23, .null)] [] (WW' := [w_Mo G a0 (Mo_s_snapMany s0 ((Mo_snapMany s0) - (1 : Int32)))]) (lv' := [some (.ref (a0 0)), some (.int x1)]) (pc' := 49) (st' := []) (by decide +kernel) rfl rfl ⟨trivial, trivial, ⟨rfl, rfl, zw_6_52⟩, trivial, trivial, ⟨rfl, rfl, rfl, trivial, rfl, rfl, zw_6_52⟩, trivial⟩ ?_
    refine zr_eq (WW2 := [w_Mo G a0 y4]) (lv2 := [some (.ref (a0 0)), some (.int x1)]) (st2 := []) (by rw [e4]) rfl rfl ?_
    refine zr_run [] [1] (WW' := [w_Mo G a0 y4]) (lv' := [some (.ref (a0 0)), none]) (pc' := 49) (st' := []) (by decide +kernel) rfl rfl trivial ?_
    exact t_X12_snap_b49 l G a0 W0 r y4 hf
theorem t_X12_snap_L11 (l : Launch) (G : zj_G) (a0 : Nat → Nat) (W0 : List va_W) (r : MoT)    : ∀ (n : Nat) (s0 : MoT) (x1 : Int32), f_X12_snap_L11 n s0 x1 = some r → zj_J l G M_X12_snap W0 (zj_ret G M_X12_snap W0 (none) (fun _ => [w_Mo G a0 r])) 0 0 [w_Mo G a0 s0] [some (.ref (a0 0)), some (.int x1)] 11 [] := by
  intro n
  induction n with
  | zero => intro s0 x1 hf; exact nomatch (show none = some r from hf)
  | succ n ih => intro s0 x1 hf; exact t_X12_snap_H11 l G a0 W0 r s0  (f_X12_snap_L11 n)  ih x1  hf
set_option maxRecDepth 100000 in
set_option maxHeartbeats 4000000 in
theorem c_X12_snap (l : Launch) (G : zj_G) (a0 : Nat → Nat) (s0 : MoT)  (r : MoT) (hf : f_X12_snap s0 = some r) : zj_C l G M_X12_snap yX12_snap [w_Mo G a0 s0] [.ref (a0 0)] (none) (fun _ => [w_Mo G a0 r]) := by
  have key : ∀ W0 : List va_W, zj_J l G M_X12_snap W0 (zj_ret G M_X12_snap W0 (none) (fun _ => [w_Mo G a0 r])) 0 0 [w_Mo G a0 s0] [some (.ref (a0 0)), none] 0 [] := by
    intro W0
    unfold f_X12_snap at hf
    refine zr_run [(.aload_n 0, 0, 0, 0, .null), (.getfield 241, 0, 0, 23, .null), (.bipush 8, 0, 0, 0, .int (8 : Int32))] [] (WW' := [w_Mo G a0 s0]) (lv' := [some (.ref (a0 0)), none]) (pc' := 6) (st' := [.int (8 : Int32), .int (Mo_snapMany s0)]) (by decide +kernel) rfl rfl ⟨trivial, ⟨rfl, rfl, zw_6_52⟩, trivial, trivial⟩ ?_
    refine zr_icmp_ne (off := 43) (tgt := 49) (by decide +kernel) (by decide) (fun hc => ?_) (fun hc => ?_)
    · have hf := zift hf hc
      refine zr_run [(.iconst 0, 0, 0, 0, .int (0 : Int32)), (.istore_n 1, 0, 0, 0, .null)] [] (WW' := [w_Mo G a0 s0]) (lv' := [some (.ref (a0 0)), some (.int (0 : Int32))]) (pc' := 11) (st' := []) (by decide +kernel) rfl rfl ⟨trivial, trivial, trivial⟩ ?_
      exact t_X12_snap_L11 l G a0 W0 r zFU s0 (0 : Int32) hf
    · have hf := ziff hf hc
      exact t_X12_snap_b49 l G a0 W0 r s0 hf
  exact zj_entry [some (.ref (a0 0)), none] (by decide +kernel) rfl (by decide) (Nat.le_of_ble_eq_true rfl) rfl rfl (key _)
def M_X12_whyEnter : zj_M := (RX12, cX12_whyEnter, 3, (some .int), { frames := 4, cells := 0, slots := 0, locals := 91 }, false)
theorem nm_X12_whyEnter : zj_nm yX12_whyEnter 1 := ⟨by decide +kernel, by decide +kernel, by decide +kernel⟩
def f_X12_whyEnter_b38  (s0 : MoT)   : Option (Int32 × MoT) := some ((2 : Int32), s0)
def f_X12_whyEnter  (s0 : MoT) (x1 : Int32) : Option (Int32 × MoT) := (if zb_in ((444 : Int32) + x1) 758 = true then (if ((Mo_now s0) ((444 : Int32) + x1).toNatClampNeg) = (1 : Int32) then ((f_X12_placeOf s0 x1).bind fun q2 => (if q2.1 = (-1 : Int32) then f_X12_whyEnter_b38 q2.2 else (if zb_in ((4 : Int32) + q2.1) 758 = true then (if ((Mo_now q2.2) ((4 : Int32) + q2.1).toNatClampNeg) = 0 then some ((0 : Int32), q2.2) else f_X12_whyEnter_b38 q2.2) else none))) else some ((1 : Int32), s0)) else none)
set_option maxRecDepth 100000 in
set_option maxHeartbeats 4000000 in
theorem t_X12_whyEnter_b38 (l : Launch) (G : zj_G) (a0 : Nat → Nat) (W0 : List va_W) (r : Int32 × MoT) (s0 : MoT)    (hf : f_X12_whyEnter_b38 s0 = some r) : zj_J l G M_X12_whyEnter W0 (zj_ret G M_X12_whyEnter W0 (some (.int r.1)) (fun _ => [w_Mo G a0 r.2])) 0 0 [w_Mo G a0 s0] [none, none, none] 38 [] := by
  unfold f_X12_whyEnter_b38 at hf
  refine zr_run [(.iconst 2, 0, 0, 0, .int (2 : Int32))] [] (WW' := [w_Mo G a0 s0]) (lv' := [none, none, none]) (pc' := 39) (st' := [.int (2 : Int32)]) (by decide +kernel) rfl rfl ⟨trivial, trivial⟩ ?_
  refine zr_goto (off := 4) (tgt := 43) (by decide +kernel) (by decide) ?_
  obtain rfl := Option.some.inj hf
  exact zr_iret (b0 := fun _ => 0) (by decide +kernel) rfl rfl rfl rfl rfl
set_option maxRecDepth 100000 in
set_option maxHeartbeats 4000000 in
theorem c_X12_whyEnter (l : Launch) (G : zj_G) (a0 : Nat → Nat) (s0 : MoT) (x1 : Int32) (r : Int32 × MoT) (hf : f_X12_whyEnter s0 x1 = some r) : zj_C l G M_X12_whyEnter yX12_whyEnter [w_Mo G a0 s0] [.ref (a0 0), .int x1] (some (.int r.1)) (fun _ => [w_Mo G a0 r.2]) := by
  have key : ∀ W0 : List va_W, zj_J l G M_X12_whyEnter W0 (zj_ret G M_X12_whyEnter W0 (some (.int r.1)) (fun _ => [w_Mo G a0 r.2])) 0 0 [w_Mo G a0 s0] [some (.ref (a0 0)), some (.int x1), none] 0 [] := by
    intro W0
    unfold f_X12_whyEnter at hf
    obtain ⟨h1, hf⟩ := zck_of hf
    refine zr_run [(.aload_n 0, 0, 0, 0, .null), (.getfield 13, 0, 0, 14, .null), (.sipush 444, 0, 0, 0, .int (444 : Int32)), (.iload_n 1, 0, 0, 0, .null), (.iadd, 0, 0, 0, .null), (.iaload, 0, 2, 0, .null), (.iconst 1, 0, 0, 0, .int (1 : Int32))] [] (WW' := [w_Mo G a0 s0]) (lv' := [some (.ref (a0 0)), some (.int x1), none]) (pc' := 11) (st' := [.int (1 : Int32), .int ((Mo_now s0) ((444 : Int32) + x1).toNatClampNeg)]) (by decide +kernel) rfl rfl ⟨trivial, ⟨rfl, rfl, zw_6_43⟩, trivial, trivial, trivial, ⟨rfl, rfl, h1⟩, trivial, trivial⟩ ?_
    refine zr_icmp_eq (off := 5) (tgt := 16) (by decide +kernel) (by decide) (fun hc => ?_) (fun hc => ?_)
    · have hf := zift hf hc
      obtain ⟨q2, e2, hf⟩ := zbi_of hf
      refine zr_run [(.aload_n 0, 0, 0, 0, .null), (.iload_n 1, 0, 0, 0, .null)] [] (WW' := [w_Mo G a0 s0]) (lv' := [some (.ref (a0 0)), some (.int x1), none]) (pc' := 18) (st' := [.int x1, .ref (a0 0)]) (by decide +kernel) rfl rfl ⟨trivial, trivial, trivial⟩ ?_
      refine zr_callV (c_X12_placeOf l G a0 s0 x1 q2 e2) (WW' := fun _ => [w_Mo G a0 q2.2]) (st := []) (st' := [.int q2.1]) [0] rfl rfl (fun _ => Nat.le_of_ble_eq_true rfl) (fun _ => rfl) rfl rfl nm_X12_placeOf zw_7_100 zw_7_102 zw_0_71 zw_1_18 zw_7_103 rfl rfl rfl (Nat.le_of_ble_eq_true rfl) ⟨Nat.le_of_ble_eq_true rfl, Nat.le_of_ble_eq_true rfl⟩ (by decide +kernel) (fun _ => ?_)
      refine zr_run [(.istore_n 2, 0, 0, 0, .null), (.iload_n 2, 0, 0, 0, .null), (.iconst (-1), 0, 0, 0, .int (-1 : Int32))] [] (WW' := [w_Mo G a0 q2.2]) (lv' := [some (.ref (a0 0)), some (.int x1), some (.int q2.1)]) (pc' := 24) (st' := [.int (-1 : Int32), .int q2.1]) (by decide +kernel) rfl rfl ⟨trivial, trivial, trivial, trivial⟩ ?_
      refine zr_icmp_eq (off := 14) (tgt := 38) (by decide +kernel) (by decide) (fun hc => ?_) (fun hc => ?_)
      · have hf := zift hf hc
        refine zr_run [] [0, 1, 2] (WW' := [w_Mo G a0 q2.2]) (lv' := [none, none, none]) (pc' := 38) (st' := []) (by decide +kernel) rfl rfl trivial ?_
        exact t_X12_whyEnter_b38 l G a0 W0 r q2.2 hf
      · have hf := ziff hf hc
        obtain ⟨h3, hf⟩ := zck_of hf
        refine zr_run [(.aload_n 0, 0, 0, 0, .null), (.getfield 13, 0, 0, 14, .null), (.iconst 4, 0, 0, 0, .int (4 : Int32)), (.iload_n 2, 0, 0, 0, .null), (.iadd, 0, 0, 0, .null), (.iaload, 0, 2, 0, .null)] [] (WW' := [w_Mo G a0 q2.2]) (lv' := [some (.ref (a0 0)), some (.int x1), some (.int q2.1)]) (pc' := 35) (st' := [.int ((Mo_now q2.2) ((4 : Int32) + q2.1).toNatClampNeg)]) (by decide +kernel) rfl rfl ⟨trivial, ⟨rfl, rfl, zw_6_43⟩, trivial, trivial, trivial, ⟨rfl, rfl, h3⟩, trivial⟩ ?_
        refine zr_if_eq (off := 7) (tgt := 42) (by decide +kernel) (by decide) (fun hc => ?_) (fun hc => ?_)
        · have hf := zift hf hc
          refine zr_run [(.iconst 0, 0, 0, 0, .int (0 : Int32))] [] (WW' := [w_Mo G a0 q2.2]) (lv' := [some (.ref (a0 0)), some (.int x1), some (.int q2.1)]) (pc' := 43) (st' := [.int (0 : Int32)]) (by decide +kernel) rfl rfl ⟨trivial, trivial⟩ ?_
          obtain rfl := Option.some.inj hf
          exact zr_iret (b0 := fun _ => 0) (by decide +kernel) rfl rfl rfl rfl rfl
        · have hf := ziff hf hc
          refine zr_run [] [0, 1, 2] (WW' := [w_Mo G a0 q2.2]) (lv' := [none, none, none]) (pc' := 38) (st' := []) (by decide +kernel) rfl rfl trivial ?_
          exact t_X12_whyEnter_b38 l G a0 W0 r q2.2 hf
    · have hf := ziff hf hc
      refine zr_run [(.iconst 1, 0, 0, 0, .int (1 : Int32))] [] (WW' := [w_Mo G a0 s0]) (lv' := [some (.ref (a0 0)), some (.int x1), none]) (pc' := 15) (st' := [.int (1 : Int32)]) (by decide +kernel) rfl rfl ⟨trivial, trivial⟩ ?_
      obtain rfl := Option.some.inj hf
      exact zr_iret (b0 := fun _ => 0) (by decide +kernel) rfl rfl rfl rfl rfl
  exact zj_entry [some (.ref (a0 0)), some (.int x1), none] (by decide +kernel) rfl (by decide) (Nat.le_of_ble_eq_true rfl) rfl rfl (key _)
def M_X12_why : zj_M := (RX12, cX12_why, 5, (some .int), { frames := 5, cells := 0, slots := 0, locals := 113 }, false)
theorem nm_X12_why : zj_nm yX12_why 3 := ⟨by decide +kernel, by decide +kernel, by decide +kernel⟩
def f_X12_why_b19  (s0 : MoT)  (x1 : Int32) (x2 : Int32) (x3 : Int32) (z0 : Int32) : Option (Int32 × MoT) := (if x1 = (0 : Int32) then (if zb_in ((444 : Int32) + x2) 758 = true then (if ((Mo_now s0) ((444 : Int32) + x2).toNatClampNeg) = 0 then (if zb_in ((468 : Int32) + x2) 758 = true then ((f_X12_farOf s0 ((Mo_now s0) ((468 : Int32) + x2).toNatClampNeg) x3).bind fun q4 => (if q4 < (100000 : Int32) then (if zb_in ((456 : Int32) + x2) 758 = true then (if ((Mo_now s0) ((456 : Int32) + x2).toNatClampNeg) = (2 : Int32) then some ((3 : Int32), s0) else some ((0 : Int32), s0)) else none) else some ((2 : Int32), s0))) else none) else some ((1 : Int32), s0)) else none) else (if x1 = (1 : Int32) then (if z0 = 0 then some ((1 : Int32), s0) else (if zb_in ((230 : Int32) + x2) 758 = true then (if ((Mo_now s0) ((230 : Int32) + x2).toNatClampNeg) < x3 then some ((2 : Int32), s0) else (if zb_in ((492 : Int32) + x2) 758 = true then (if ((Mo_now s0) ((492 : Int32) + x2).toNatClampNeg) = x3 then some ((3 : Int32), s0) else some ((0 : Int32), s0)) else none)) else none)) else (if x1 = (2 : Int32) then (if z0 = 0 then some ((1 : Int32), s0) else some ((0 : Int32), s0)) else (if x1 = (3 : Int32) then ((f_X12_whyEnter s0 x2).bind fun q8 => some (q8.1, q8.2)) else (if zb_in ((444 : Int32) + x2) 758 = true then (if (2 : Int32) < ((Mo_now s0) ((444 : Int32) + x2).toNatClampNeg) then some ((1 : Int32), s0) else some ((0 : Int32), s0)) else none)))))
def f_X12_why  (s0 : MoT) (x1 : Int32) (x2 : Int32) (x3 : Int32) : Option (Int32 × MoT) := (if zb_in ((444 : Int32) + x2) 758 = true then (if ((Mo_now s0) ((444 : Int32) + x2).toNatClampNeg) = (1 : Int32) then f_X12_why_b19 s0 x1 x2 x3 (1 : Int32) else f_X12_why_b19 s0 x1 x2 x3 (0 : Int32)) else none)
set_option maxRecDepth 100000 in
set_option maxHeartbeats 4000000 in
theorem t_X12_why_b19 (l : Launch) (G : zj_G) (a0 : Nat → Nat) (W0 : List va_W) (r : Int32 × MoT) (s0 : MoT)   (x1 : Int32) (x2 : Int32) (x3 : Int32) (z0 : Int32) (hf : f_X12_why_b19 s0 x1 x2 x3 z0 = some r) : zj_J l G M_X12_why W0 (zj_ret G M_X12_why W0 (some (.int r.1)) (fun _ => [w_Mo G a0 r.2])) 0 0 [w_Mo G a0 s0] [some (.ref (a0 0)), some (.int x1), some (.int x2), some (.int x3), none] 19 [.int z0] := by
  unfold f_X12_why_b19 at hf
  refine zr_run [(.istore 4, 0, 0, 0, .null), (.iload_n 1, 0, 0, 0, .null)] [] (WW' := [w_Mo G a0 s0]) (lv' := [some (.ref (a0 0)), some (.int x1), some (.int x2), some (.int x3), some (.int z0)]) (pc' := 22) (st' := [.int x1]) (by decide +kernel) rfl rfl ⟨trivial, trivial, trivial⟩ ?_
  by_cases hc0 : x1 = (0 : Int32)
  · have hf := zift hf hc0
    refine zr_tabIn (v := (0 : Int32)) (tgt := 52) (dflt := 155) (lo := 0) (hi := 3) (offs := #[30, 91, 138, 149]) (len := 30) (off := 30) hc0 (by decide +kernel) (by decide) (by decide) (by decide) ?_
    obtain ⟨h2, hf⟩ := zck_of hf
    refine zr_run [(.aload_n 0, 0, 0, 0, .null), (.getfield 13, 0, 0, 14, .null), (.sipush 444, 0, 0, 0, .int (444 : Int32)), (.iload_n 2, 0, 0, 0, .null), (.iadd, 0, 0, 0, .null), (.iaload, 0, 2, 0, .null)] [] (WW' := [w_Mo G a0 s0]) (lv' := [some (.ref (a0 0)), some (.int x1), some (.int x2), some (.int x3), some (.int z0)]) (pc' := 62) (st' := [.int ((Mo_now s0) ((444 : Int32) + x2).toNatClampNeg)]) (by decide +kernel) rfl rfl ⟨trivial, ⟨rfl, rfl, zw_6_43⟩, trivial, trivial, trivial, ⟨rfl, rfl, h2⟩, trivial⟩ ?_
    refine zr_if_eq (off := 7) (tgt := 69) (by decide +kernel) (by decide) (fun hc => ?_) (fun hc => ?_)
    · have hf := zift hf hc
      obtain ⟨h3, hf⟩ := zck_of hf
      obtain ⟨q4, e4, hf⟩ := zbi_of hf
      refine zr_run [(.aload_n 0, 0, 0, 0, .null), (.aload_n 0, 0, 0, 0, .null), (.getfield 13, 0, 0, 14, .null), (.sipush 468, 0, 0, 0, .int (468 : Int32)), (.iload_n 2, 0, 0, 0, .null), (.iadd, 0, 0, 0, .null), (.iaload, 0, 2, 0, .null), (.iload_n 3, 0, 0, 0, .null)] [] (WW' := [w_Mo G a0 s0]) (lv' := [some (.ref (a0 0)), some (.int x1), some (.int x2), some (.int x3), some (.int z0)]) (pc' := 81) (st' := [.int x3, .int ((Mo_now s0) ((468 : Int32) + x2).toNatClampNeg), .ref (a0 0)]) (by decide +kernel) rfl rfl ⟨trivial, trivial, ⟨rfl, rfl, zw_6_43⟩, trivial, trivial, trivial, ⟨rfl, rfl, h3⟩, trivial, trivial⟩ ?_
      refine zr_callV (c_X12_farOf l G a0 s0 ((Mo_now s0) ((468 : Int32) + x2).toNatClampNeg) x3 q4 e4) (WW' := fun _ => [w_Mo G a0 s0]) (st := []) (st' := [.int q4]) [0] rfl rfl (fun _ => Nat.le_of_ble_eq_true rfl) (fun _ => rfl) rfl rfl nm_X12_farOf zw_7_164 zw_7_166 zw_0_83 zw_1_18 zw_7_167 rfl rfl rfl (Nat.le_of_ble_eq_true rfl) ⟨Nat.le_of_ble_eq_true rfl, Nat.le_of_ble_eq_true rfl⟩ (by decide +kernel) (fun _ => ?_)
      refine zr_run [(.ldc 218, 0, 0, 0, .int (100000 : Int32))] [] (WW' := [w_Mo G a0 s0]) (lv' := [some (.ref (a0 0)), some (.int x1), some (.int x2), some (.int x3), some (.int z0)]) (pc' := 86) (st' := [.int (100000 : Int32), .int q4]) (by decide +kernel) rfl rfl ⟨zw_7_80, trivial⟩ ?_
      refine zr_icmp_lt (off := 7) (tgt := 93) (by decide +kernel) (by decide) (fun hc => ?_) (fun hc => ?_)
      · have hf := zift hf hc
        obtain ⟨h5, hf⟩ := zck_of hf
        refine zr_run [(.aload_n 0, 0, 0, 0, .null), (.getfield 13, 0, 0, 14, .null), (.sipush 456, 0, 0, 0, .int (456 : Int32)), (.iload_n 2, 0, 0, 0, .null), (.iadd, 0, 0, 0, .null), (.iaload, 0, 2, 0, .null), (.iconst 2, 0, 0, 0, .int (2 : Int32))] [] (WW' := [w_Mo G a0 s0]) (lv' := [some (.ref (a0 0)), some (.int x1), some (.int x2), some (.int x3), some (.int z0)]) (pc' := 104) (st' := [.int (2 : Int32), .int ((Mo_now s0) ((456 : Int32) + x2).toNatClampNeg)]) (by decide +kernel) rfl rfl ⟨trivial, ⟨rfl, rfl, zw_6_43⟩, trivial, trivial, trivial, ⟨rfl, rfl, h5⟩, trivial, trivial⟩ ?_
        refine zr_icmp_ne (off := 7) (tgt := 111) (by decide +kernel) (by decide) (fun hc => ?_) (fun hc => ?_)
        · have hf := zift hf hc
          refine zr_run [(.iconst 3, 0, 0, 0, .int (3 : Int32))] [] (WW' := [w_Mo G a0 s0]) (lv' := [some (.ref (a0 0)), some (.int x1), some (.int x2), some (.int x3), some (.int z0)]) (pc' := 108) (st' := [.int (3 : Int32)]) (by decide +kernel) rfl rfl ⟨trivial, trivial⟩ ?_
          refine zr_goto (off := 4) (tgt := 112) (by decide +kernel) (by decide) ?_
          obtain rfl := Option.some.inj hf
          exact zr_iret (b0 := fun _ => 0) (by decide +kernel) rfl rfl rfl rfl rfl
        · have hf := ziff hf hc
          refine zr_run [(.iconst 0, 0, 0, 0, .int (0 : Int32))] [] (WW' := [w_Mo G a0 s0]) (lv' := [some (.ref (a0 0)), some (.int x1), some (.int x2), some (.int x3), some (.int z0)]) (pc' := 112) (st' := [.int (0 : Int32)]) (by decide +kernel) rfl rfl ⟨trivial, trivial⟩ ?_
          obtain rfl := Option.some.inj hf
          exact zr_iret (b0 := fun _ => 0) (by decide +kernel) rfl rfl rfl rfl rfl
      · have hf := ziff hf hc
        refine zr_run [(.iconst 2, 0, 0, 0, .int (2 : Int32))] [] (WW' := [w_Mo G a0 s0]) (lv' := [some (.ref (a0 0)), some (.int x1), some (.int x2), some (.int x3), some (.int z0)]) (pc' := 90) (st' := [.int (2 : Int32)]) (by decide +kernel) rfl rfl ⟨trivial, trivial⟩ ?_
        refine zr_goto (off := 22) (tgt := 112) (by decide +kernel) (by decide) ?_
        obtain rfl := Option.some.inj hf
        exact zr_iret (b0 := fun _ => 0) (by decide +kernel) rfl rfl rfl rfl rfl
    · have hf := ziff hf hc
      refine zr_run [(.iconst 1, 0, 0, 0, .int (1 : Int32))] [] (WW' := [w_Mo G a0 s0]) (lv' := [some (.ref (a0 0)), some (.int x1), some (.int x2), some (.int x3), some (.int z0)]) (pc' := 66) (st' := [.int (1 : Int32)]) (by decide +kernel) rfl rfl ⟨trivial, trivial⟩ ?_
      refine zr_goto (off := 46) (tgt := 112) (by decide +kernel) (by decide) ?_
      obtain rfl := Option.some.inj hf
      exact zr_iret (b0 := fun _ => 0) (by decide +kernel) rfl rfl rfl rfl rfl
  · have hf := ziff hf hc0
    by_cases hc1 : x1 = (1 : Int32)
    · have hf := zift hf hc1
      refine zr_tabIn (v := (1 : Int32)) (tgt := 113) (dflt := 155) (lo := 0) (hi := 3) (offs := #[30, 91, 138, 149]) (len := 30) (off := 91) hc1 (by decide +kernel) (by decide) (by decide) (by decide) ?_
      refine zr_run [(.iload 4, 0, 0, 0, .null)] [] (WW' := [w_Mo G a0 s0]) (lv' := [some (.ref (a0 0)), some (.int x1), some (.int x2), some (.int x3), some (.int z0)]) (pc' := 115) (st' := [.int z0]) (by decide +kernel) rfl rfl ⟨trivial, trivial⟩ ?_
      refine zr_if_ne (off := 7) (tgt := 122) (by decide +kernel) (by decide) (fun hc => ?_) (fun hc => ?_)
      · have hf := zift hf hc
        refine zr_run [(.iconst 1, 0, 0, 0, .int (1 : Int32))] [] (WW' := [w_Mo G a0 s0]) (lv' := [some (.ref (a0 0)), some (.int x1), some (.int x2), some (.int x3), some (.int z0)]) (pc' := 119) (st' := [.int (1 : Int32)]) (by decide +kernel) rfl rfl ⟨trivial, trivial⟩ ?_
        refine zr_goto (off := 40) (tgt := 159) (by decide +kernel) (by decide) ?_
        obtain rfl := Option.some.inj hf
        exact zr_iret (b0 := fun _ => 0) (by decide +kernel) rfl rfl rfl rfl rfl
      · have hf := ziff hf hc
        obtain ⟨h6, hf⟩ := zck_of hf
        refine zr_run [(.iload_n 3, 0, 0, 0, .null), (.aload_n 0, 0, 0, 0, .null), (.getfield 13, 0, 0, 14, .null), (.sipush 230, 0, 0, 0, .int (230 : Int32)), (.iload_n 2, 0, 0, 0, .null), (.iadd, 0, 0, 0, .null), (.iaload, 0, 2, 0, .null)] [] (WW' := [w_Mo G a0 s0]) (lv' := [some (.ref (a0 0)), some (.int x1), some (.int x2), some (.int x3), some (.int z0)]) (pc' := 133) (st' := [.int ((Mo_now s0) ((230 : Int32) + x2).toNatClampNeg), .int x3]) (by decide +kernel) rfl rfl ⟨trivial, trivial, ⟨rfl, rfl, zw_6_43⟩, trivial, trivial, trivial, ⟨rfl, rfl, h6⟩, trivial⟩ ?_
        refine zr_icmp_le (off := 7) (tgt := 140) (by decide +kernel) (by decide) (fun hc => ?_) (fun hc => ?_)
        · have hf := zift hf hc
          refine zr_run [(.iconst 2, 0, 0, 0, .int (2 : Int32))] [] (WW' := [w_Mo G a0 s0]) (lv' := [some (.ref (a0 0)), some (.int x1), some (.int x2), some (.int x3), some (.int z0)]) (pc' := 137) (st' := [.int (2 : Int32)]) (by decide +kernel) rfl rfl ⟨trivial, trivial⟩ ?_
          refine zr_goto (off := 22) (tgt := 159) (by decide +kernel) (by decide) ?_
          obtain rfl := Option.some.inj hf
          exact zr_iret (b0 := fun _ => 0) (by decide +kernel) rfl rfl rfl rfl rfl
        · have hf := ziff hf hc
          obtain ⟨h7, hf⟩ := zck_of hf
          refine zr_run [(.aload_n 0, 0, 0, 0, .null), (.getfield 13, 0, 0, 14, .null), (.sipush 492, 0, 0, 0, .int (492 : Int32)), (.iload_n 2, 0, 0, 0, .null), (.iadd, 0, 0, 0, .null), (.iaload, 0, 2, 0, .null), (.iload_n 3, 0, 0, 0, .null)] [] (WW' := [w_Mo G a0 s0]) (lv' := [some (.ref (a0 0)), some (.int x1), some (.int x2), some (.int x3), some (.int z0)]) (pc' := 151) (st' := [.int x3, .int ((Mo_now s0) ((492 : Int32) + x2).toNatClampNeg)]) (by decide +kernel) rfl rfl ⟨trivial, ⟨rfl, rfl, zw_6_43⟩, trivial, trivial, trivial, ⟨rfl, rfl, h7⟩, trivial, trivial⟩ ?_
          refine zr_icmp_ne (off := 7) (tgt := 158) (by decide +kernel) (by decide) (fun hc => ?_) (fun hc => ?_)
          · have hf := zift hf hc
            refine zr_run [(.iconst 3, 0, 0, 0, .int (3 : Int32))] [] (WW' := [w_Mo G a0 s0]) (lv' := [some (.ref (a0 0)), some (.int x1), some (.int x2), some (.int x3), some (.int z0)]) (pc' := 155) (st' := [.int (3 : Int32)]) (by decide +kernel) rfl rfl ⟨trivial, trivial⟩ ?_
            refine zr_goto (off := 4) (tgt := 159) (by decide +kernel) (by decide) ?_
            obtain rfl := Option.some.inj hf
            exact zr_iret (b0 := fun _ => 0) (by decide +kernel) rfl rfl rfl rfl rfl
          · have hf := ziff hf hc
            refine zr_run [(.iconst 0, 0, 0, 0, .int (0 : Int32))] [] (WW' := [w_Mo G a0 s0]) (lv' := [some (.ref (a0 0)), some (.int x1), some (.int x2), some (.int x3), some (.int z0)]) (pc' := 159) (st' := [.int (0 : Int32)]) (by decide +kernel) rfl rfl ⟨trivial, trivial⟩ ?_
            obtain rfl := Option.some.inj hf
            exact zr_iret (b0 := fun _ => 0) (by decide +kernel) rfl rfl rfl rfl rfl
    · have hf := ziff hf hc1
      by_cases hc2 : x1 = (2 : Int32)
      · have hf := zift hf hc2
        refine zr_tabIn (v := (2 : Int32)) (tgt := 160) (dflt := 155) (lo := 0) (hi := 3) (offs := #[30, 91, 138, 149]) (len := 30) (off := 138) hc2 (by decide +kernel) (by decide) (by decide) (by decide) ?_
        refine zr_run [(.iload 4, 0, 0, 0, .null)] [] (WW' := [w_Mo G a0 s0]) (lv' := [some (.ref (a0 0)), some (.int x1), some (.int x2), some (.int x3), some (.int z0)]) (pc' := 162) (st' := [.int z0]) (by decide +kernel) rfl rfl ⟨trivial, trivial⟩ ?_
        refine zr_if_eq (off := 7) (tgt := 169) (by decide +kernel) (by decide) (fun hc => ?_) (fun hc => ?_)
        · have hf := zift hf hc
          refine zr_run [(.iconst 1, 0, 0, 0, .int (1 : Int32))] [] (WW' := [w_Mo G a0 s0]) (lv' := [some (.ref (a0 0)), some (.int x1), some (.int x2), some (.int x3), some (.int z0)]) (pc' := 170) (st' := [.int (1 : Int32)]) (by decide +kernel) rfl rfl ⟨trivial, trivial⟩ ?_
          obtain rfl := Option.some.inj hf
          exact zr_iret (b0 := fun _ => 0) (by decide +kernel) rfl rfl rfl rfl rfl
        · have hf := ziff hf hc
          refine zr_run [(.iconst 0, 0, 0, 0, .int (0 : Int32))] [] (WW' := [w_Mo G a0 s0]) (lv' := [some (.ref (a0 0)), some (.int x1), some (.int x2), some (.int x3), some (.int z0)]) (pc' := 166) (st' := [.int (0 : Int32)]) (by decide +kernel) rfl rfl ⟨trivial, trivial⟩ ?_
          refine zr_goto (off := 4) (tgt := 170) (by decide +kernel) (by decide) ?_
          obtain rfl := Option.some.inj hf
          exact zr_iret (b0 := fun _ => 0) (by decide +kernel) rfl rfl rfl rfl rfl
      · have hf := ziff hf hc2
        by_cases hc3 : x1 = (3 : Int32)
        · have hf := zift hf hc3
          refine zr_tabIn (v := (3 : Int32)) (tgt := 171) (dflt := 155) (lo := 0) (hi := 3) (offs := #[30, 91, 138, 149]) (len := 30) (off := 149) hc3 (by decide +kernel) (by decide) (by decide) (by decide) ?_
          obtain ⟨q8, e8, hf⟩ := zbi_of hf
          refine zr_run [(.aload_n 0, 0, 0, 0, .null), (.iload_n 2, 0, 0, 0, .null)] [] (WW' := [w_Mo G a0 s0]) (lv' := [some (.ref (a0 0)), some (.int x1), some (.int x2), some (.int x3), some (.int z0)]) (pc' := 173) (st' := [.int x2, .ref (a0 0)]) (by decide +kernel) rfl rfl ⟨trivial, trivial, trivial⟩ ?_
          refine zr_callV (c_X12_whyEnter l G a0 s0 x2 q8 e8) (WW' := fun _ => [w_Mo G a0 q8.2]) (st := []) (st' := [.int q8.1]) [0] rfl rfl (fun _ => Nat.le_of_ble_eq_true rfl) (fun _ => rfl) rfl rfl nm_X12_whyEnter zw_7_168 zw_7_170 zw_0_84 zw_1_18 zw_7_171 rfl rfl rfl (Nat.le_of_ble_eq_true rfl) ⟨Nat.le_of_ble_eq_true rfl, Nat.le_of_ble_eq_true rfl⟩ (by decide +kernel) (fun _ => ?_)
          obtain rfl := Option.some.inj hf
          exact zr_iret (b0 := fun _ => 0) (by decide +kernel) rfl rfl rfl rfl rfl
        · have hf := ziff hf hc3
          refine zr_tabOut (tgt := 177) (dflt := 155) (lo := 0) (hi := 3) (offs := #[30, 91, 138, 149]) (len := 30) (by decide +kernel) (by have q0 := lv_neT hc0 (a := 0) (by decide); have q1 := lv_neT hc1 (a := 1) (by decide); have q2 := lv_neT hc2 (a := 2) (by decide); have q3 := lv_neT hc3 (a := 3) (by decide); omega) (by decide) ?_
          obtain ⟨h9, hf⟩ := zck_of hf
          refine zr_run [(.aload_n 0, 0, 0, 0, .null), (.getfield 13, 0, 0, 14, .null), (.sipush 444, 0, 0, 0, .int (444 : Int32)), (.iload_n 2, 0, 0, 0, .null), (.iadd, 0, 0, 0, .null), (.iaload, 0, 2, 0, .null), (.iconst 2, 0, 0, 0, .int (2 : Int32))] [] (WW' := [w_Mo G a0 s0]) (lv' := [some (.ref (a0 0)), some (.int x1), some (.int x2), some (.int x3), some (.int z0)]) (pc' := 188) (st' := [.int (2 : Int32), .int ((Mo_now s0) ((444 : Int32) + x2).toNatClampNeg)]) (by decide +kernel) rfl rfl ⟨trivial, ⟨rfl, rfl, zw_6_43⟩, trivial, trivial, trivial, ⟨rfl, rfl, h9⟩, trivial, trivial⟩ ?_
          refine zr_icmp_le (off := 7) (tgt := 195) (by decide +kernel) (by decide) (fun hc => ?_) (fun hc => ?_)
          · have hf := zift hf hc
            refine zr_run [(.iconst 1, 0, 0, 0, .int (1 : Int32))] [] (WW' := [w_Mo G a0 s0]) (lv' := [some (.ref (a0 0)), some (.int x1), some (.int x2), some (.int x3), some (.int z0)]) (pc' := 192) (st' := [.int (1 : Int32)]) (by decide +kernel) rfl rfl ⟨trivial, trivial⟩ ?_
            refine zr_goto (off := 4) (tgt := 196) (by decide +kernel) (by decide) ?_
            obtain rfl := Option.some.inj hf
            exact zr_iret (b0 := fun _ => 0) (by decide +kernel) rfl rfl rfl rfl rfl
          · have hf := ziff hf hc
            refine zr_run [(.iconst 0, 0, 0, 0, .int (0 : Int32))] [] (WW' := [w_Mo G a0 s0]) (lv' := [some (.ref (a0 0)), some (.int x1), some (.int x2), some (.int x3), some (.int z0)]) (pc' := 196) (st' := [.int (0 : Int32)]) (by decide +kernel) rfl rfl ⟨trivial, trivial⟩ ?_
            obtain rfl := Option.some.inj hf
            exact zr_iret (b0 := fun _ => 0) (by decide +kernel) rfl rfl rfl rfl rfl
set_option maxRecDepth 100000 in
set_option maxHeartbeats 4000000 in
theorem c_X12_why (l : Launch) (G : zj_G) (a0 : Nat → Nat) (s0 : MoT) (x1 : Int32) (x2 : Int32) (x3 : Int32) (r : Int32 × MoT) (hf : f_X12_why s0 x1 x2 x3 = some r) : zj_C l G M_X12_why yX12_why [w_Mo G a0 s0] [.ref (a0 0), .int x1, .int x2, .int x3] (some (.int r.1)) (fun _ => [w_Mo G a0 r.2]) := by
  have key : ∀ W0 : List va_W, zj_J l G M_X12_why W0 (zj_ret G M_X12_why W0 (some (.int r.1)) (fun _ => [w_Mo G a0 r.2])) 0 0 [w_Mo G a0 s0] [some (.ref (a0 0)), some (.int x1), some (.int x2), some (.int x3), none] 0 [] := by
    intro W0
    unfold f_X12_why at hf
    obtain ⟨h1, hf⟩ := zck_of hf
    refine zr_run [(.aload_n 0, 0, 0, 0, .null), (.getfield 13, 0, 0, 14, .null), (.sipush 444, 0, 0, 0, .int (444 : Int32)), (.iload_n 2, 0, 0, 0, .null), (.iadd, 0, 0, 0, .null), (.iaload, 0, 2, 0, .null), (.iconst 1, 0, 0, 0, .int (1 : Int32))] [] (WW' := [w_Mo G a0 s0]) (lv' := [some (.ref (a0 0)), some (.int x1), some (.int x2), some (.int x3), none]) (pc' := 11) (st' := [.int (1 : Int32), .int ((Mo_now s0) ((444 : Int32) + x2).toNatClampNeg)]) (by decide +kernel) rfl rfl ⟨trivial, ⟨rfl, rfl, zw_6_43⟩, trivial, trivial, trivial, ⟨rfl, rfl, h1⟩, trivial, trivial⟩ ?_
    refine zr_icmp_ne (off := 7) (tgt := 18) (by decide +kernel) (by decide) (fun hc => ?_) (fun hc => ?_)
    · have hf := zift hf hc
      refine zr_run [(.iconst 1, 0, 0, 0, .int (1 : Int32))] [] (WW' := [w_Mo G a0 s0]) (lv' := [some (.ref (a0 0)), some (.int x1), some (.int x2), some (.int x3), none]) (pc' := 15) (st' := [.int (1 : Int32)]) (by decide +kernel) rfl rfl ⟨trivial, trivial⟩ ?_
      refine zr_goto (off := 4) (tgt := 19) (by decide +kernel) (by decide) ?_
      exact t_X12_why_b19 l G a0 W0 r s0 x1 x2 x3 (1 : Int32) hf
    · have hf := ziff hf hc
      refine zr_run [(.iconst 0, 0, 0, 0, .int (0 : Int32))] [] (WW' := [w_Mo G a0 s0]) (lv' := [some (.ref (a0 0)), some (.int x1), some (.int x2), some (.int x3), none]) (pc' := 19) (st' := [.int (0 : Int32)]) (by decide +kernel) rfl rfl ⟨trivial, trivial⟩ ?_
      exact t_X12_why_b19 l G a0 W0 r s0 x1 x2 x3 (0 : Int32) hf
  exact zj_entry [some (.ref (a0 0)), some (.int x1), some (.int x2), some (.int x3), none] (by decide +kernel) rfl (by decide) (Nat.le_of_ble_eq_true rfl) rfl rfl (key _)
def M_X12_doSwear : zj_M := (RX12, cX12_doSwear, 4, none, { frames := 1, cells := 0, slots := 0, locals := 22 }, false)
theorem nm_X12_doSwear : zj_nm yX12_doSwear 3 := ⟨by decide +kernel, by decide +kernel, by decide +kernel⟩
def f_X12_doSwear  (s0 : MoT) (x1 : Int32) (x2 : Int32) (x3 : Int32) : Option (MoT) := (if zb_in ((444 : Int32) + x1) 758 = true then (zlet (Mo_s_now s0 ((upd (Mo_now s0) ((444 : Int32) + x1).toNatClampNeg (1 : Int32)))) fun y2 => (if zb_in ((456 : Int32) + x1) 758 = true then (if zb_in ((456 : Int32) + x1) 758 = true then (zlet (Mo_s_now y2 ((upd (Mo_now y2) ((456 : Int32) + x1).toNatClampNeg (((Mo_now y2) ((456 : Int32) + x1).toNatClampNeg) + (1 : Int32))))) fun y5 => (if zb_in ((462 : Int32) + x1) 758 = true then (zlet (Mo_s_now y5 ((upd (Mo_now y5) ((462 : Int32) + x1).toNatClampNeg x2))) fun y7 => (if zb_in ((474 : Int32) + x1) 758 = true then (zlet (Mo_s_now y7 ((upd (Mo_now y7) ((474 : Int32) + x1).toNatClampNeg (0 : Int32)))) fun y9 => (if zb_in ((468 : Int32) + x1) 758 = true then ((f_X12_farOf y9 ((Mo_now y9) ((468 : Int32) + x1).toNatClampNeg) x2).bind fun q11 => (if zb_in ((480 : Int32) + x1) 758 = true then (zlet (Mo_s_now y9 ((upd (Mo_now y9) ((480 : Int32) + x1).toNatClampNeg q11))) fun y13 => (if zb_in ((486 : Int32) + x1) 758 = true then (zlet (Mo_s_now y13 ((upd (Mo_now y13) ((486 : Int32) + x1).toNatClampNeg x3))) fun y15 => (if zb_in ((230 : Int32) + x1) 758 = true then (if zb_in ((492 : Int32) + x1) 758 = true then (zlet (Mo_s_now y15 ((upd (Mo_now y15) ((492 : Int32) + x1).toNatClampNeg ((Mo_now y15) ((230 : Int32) + x1).toNatClampNeg)))) fun y18 => (if zb_in ((498 : Int32) + x1) 758 = true then (zlet (Mo_s_now y18 ((upd (Mo_now y18) ((498 : Int32) + x1).toNatClampNeg (0 : Int32)))) fun y20 => some y20) else none)) else none) else none)) else none)) else none)) else none)) else none)) else none)) else none) else none)) else none)
set_option maxRecDepth 100000 in
set_option maxHeartbeats 4000000 in
theorem c_X12_doSwear (l : Launch) (G : zj_G) (a0 : Nat → Nat) (s0 : MoT) (x1 : Int32) (x2 : Int32) (x3 : Int32) (r : MoT) (hf : f_X12_doSwear s0 x1 x2 x3 = some r) : zj_C l G M_X12_doSwear yX12_doSwear [w_Mo G a0 s0] [.ref (a0 0), .int x1, .int x2, .int x3] (none) (fun _ => [w_Mo G a0 r]) := by
  have key : ∀ W0 : List va_W, zj_J l G M_X12_doSwear W0 (zj_ret G M_X12_doSwear W0 (none) (fun _ => [w_Mo G a0 r])) 0 0 [w_Mo G a0 s0] [some (.ref (a0 0)), some (.int x1), some (.int x2), some (.int x3)] 0 [] := by
    intro W0
    unfold f_X12_doSwear at hf
    obtain ⟨h1, hf⟩ := zck_of hf
    obtain ⟨y2, e2, hf⟩ := zlet_of hf
    refine zr_run [(.aload_n 0, 0, 0, 0, .null), (.getfield 13, 0, 0, 14, .null), (.sipush 444, 0, 0, 0, .int (444 : Int32)), (.iload_n 1, 0, 0, 0, .null), (.iadd, 0, 0, 0, .null), (.iconst 1, 0, 0, 0, .int (1 : Int32)), (.iastore, 0, 2, 0, .null)] [] (WW' := [w_Mo G a0 (Mo_s_now s0 ((upd (Mo_now s0) ((444 : Int32) + x1).toNatClampNeg (1 : Int32))))]) (lv' := [some (.ref (a0 0)), some (.int x1), some (.int x2), some (.int x3)]) (pc' := 11) (st' := []) (by decide +kernel) rfl rfl ⟨trivial, ⟨rfl, rfl, zw_6_43⟩, trivial, trivial, trivial, trivial, ⟨rfl, rfl, h1⟩, trivial⟩ ?_
    refine zr_eq (WW2 := [w_Mo G a0 y2]) (lv2 := [some (.ref (a0 0)), some (.int x1), some (.int x2), some (.int x3)]) (st2 := []) (by rw [e2]) rfl rfl ?_
    obtain ⟨h3, hf⟩ := zck_of hf
    obtain ⟨h4, hf⟩ := zck_of hf
    obtain ⟨y5, e5, hf⟩ := zlet_of hf
    refine zr_run [(.aload_n 0, 0, 0, 0, .null), (.getfield 13, 0, 0, 14, .null), (.sipush 456, 0, 0, 0, .int (456 : Int32)), (.iload_n 1, 0, 0, 0, .null), (.iadd, 0, 0, 0, .null), (.dup2, 0, 0, 0, .null), (.iaload, 0, 2, 0, .null), (.iconst 1, 0, 0, 0, .int (1 : Int32)), (.iadd, 0, 0, 0, .null), (.iastore, 0, 2, 0, .null)] [] (WW' := [w_Mo G a0 (Mo_s_now y2 ((upd (Mo_now y2) ((456 : Int32) + x1).toNatClampNeg (((Mo_now y2) ((456 : Int32) + x1).toNatClampNeg) + (1 : Int32)))))]) (lv' := [some (.ref (a0 0)), some (.int x1), some (.int x2), some (.int x3)]) (pc' := 25) (st' := []) (by decide +kernel) rfl rfl ⟨trivial, ⟨rfl, rfl, zw_6_43⟩, trivial, trivial, trivial, trivial, ⟨rfl, rfl, h3⟩, trivial, trivial, ⟨rfl, rfl, h4⟩, trivial⟩ ?_
    refine zr_eq (WW2 := [w_Mo G a0 y5]) (lv2 := [some (.ref (a0 0)), some (.int x1), some (.int x2), some (.int x3)]) (st2 := []) (by rw [e5]) rfl rfl ?_
    obtain ⟨h6, hf⟩ := zck_of hf
    obtain ⟨y7, e7, hf⟩ := zlet_of hf
    refine zr_run [(.aload_n 0, 0, 0, 0, .null), (.getfield 13, 0, 0, 14, .null), (.sipush 462, 0, 0, 0, .int (462 : Int32)), (.iload_n 1, 0, 0, 0, .null), (.iadd, 0, 0, 0, .null), (.iload_n 2, 0, 0, 0, .null), (.iastore, 0, 2, 0, .null)] [] (WW' := [w_Mo G a0 (Mo_s_now y5 ((upd (Mo_now y5) ((462 : Int32) + x1).toNatClampNeg x2)))]) (lv' := [some (.ref (a0 0)), some (.int x1), some (.int x2), some (.int x3)]) (pc' := 36) (st' := []) (by decide +kernel) rfl rfl ⟨trivial, ⟨rfl, rfl, zw_6_43⟩, trivial, trivial, trivial, trivial, ⟨rfl, rfl, h6⟩, trivial⟩ ?_
    refine zr_eq (WW2 := [w_Mo G a0 y7]) (lv2 := [some (.ref (a0 0)), some (.int x1), some (.int x2), some (.int x3)]) (st2 := []) (by rw [e7]) rfl rfl ?_
    obtain ⟨h8, hf⟩ := zck_of hf
    obtain ⟨y9, e9, hf⟩ := zlet_of hf
    refine zr_run [(.aload_n 0, 0, 0, 0, .null), (.getfield 13, 0, 0, 14, .null), (.sipush 474, 0, 0, 0, .int (474 : Int32)), (.iload_n 1, 0, 0, 0, .null), (.iadd, 0, 0, 0, .null), (.iconst 0, 0, 0, 0, .int (0 : Int32)), (.iastore, 0, 2, 0, .null)] [] (WW' := [w_Mo G a0 (Mo_s_now y7 ((upd (Mo_now y7) ((474 : Int32) + x1).toNatClampNeg (0 : Int32))))]) (lv' := [some (.ref (a0 0)), some (.int x1), some (.int x2), some (.int x3)]) (pc' := 47) (st' := []) (by decide +kernel) rfl rfl ⟨trivial, ⟨rfl, rfl, zw_6_43⟩, trivial, trivial, trivial, trivial, ⟨rfl, rfl, h8⟩, trivial⟩ ?_
    refine zr_eq (WW2 := [w_Mo G a0 y9]) (lv2 := [some (.ref (a0 0)), some (.int x1), some (.int x2), some (.int x3)]) (st2 := []) (by rw [e9]) rfl rfl ?_
    obtain ⟨h10, hf⟩ := zck_of hf
    obtain ⟨q11, e11, hf⟩ := zbi_of hf
    refine zr_run [(.aload_n 0, 0, 0, 0, .null), (.getfield 13, 0, 0, 14, .null), (.sipush 480, 0, 0, 0, .int (480 : Int32)), (.iload_n 1, 0, 0, 0, .null), (.iadd, 0, 0, 0, .null), (.aload_n 0, 0, 0, 0, .null), (.aload_n 0, 0, 0, 0, .null), (.getfield 13, 0, 0, 14, .null), (.sipush 468, 0, 0, 0, .int (468 : Int32)), (.iload_n 1, 0, 0, 0, .null), (.iadd, 0, 0, 0, .null), (.iaload, 0, 2, 0, .null), (.iload_n 2, 0, 0, 0, .null)] [] (WW' := [w_Mo G a0 y9]) (lv' := [some (.ref (a0 0)), some (.int x1), some (.int x2), some (.int x3)]) (pc' := 68) (st' := [.int x2, .int ((Mo_now y9) ((468 : Int32) + x1).toNatClampNeg), .ref (a0 0), .int ((480 : Int32) + x1), .ref (a0 2)]) (by decide +kernel) rfl rfl ⟨trivial, ⟨rfl, rfl, zw_6_43⟩, trivial, trivial, trivial, trivial, trivial, ⟨rfl, rfl, zw_6_43⟩, trivial, trivial, trivial, ⟨rfl, rfl, h10⟩, trivial, trivial⟩ ?_
    refine zr_callV (c_X12_farOf l G a0 y9 ((Mo_now y9) ((468 : Int32) + x1).toNatClampNeg) x2 q11 e11) (WW' := fun _ => [w_Mo G a0 y9]) (st := [.int ((480 : Int32) + x1), .ref (a0 2)]) (st' := [.int q11, .int ((480 : Int32) + x1), .ref (a0 2)]) [0] rfl rfl (fun _ => Nat.le_of_ble_eq_true rfl) (fun _ => rfl) rfl rfl nm_X12_farOf zw_7_164 zw_7_166 zw_0_83 zw_1_18 zw_7_167 rfl rfl rfl (Nat.le_of_ble_eq_true rfl) ⟨Nat.le_of_ble_eq_true rfl, Nat.le_of_ble_eq_true rfl⟩ (by decide +kernel) (fun _ => ?_)
    obtain ⟨h12, hf⟩ := zck_of hf
    obtain ⟨y13, e13, hf⟩ := zlet_of hf
    refine zr_run [(.iastore, 0, 2, 0, .null)] [] (WW' := [w_Mo G a0 (Mo_s_now y9 ((upd (Mo_now y9) ((480 : Int32) + x1).toNatClampNeg q11)))]) (lv' := [some (.ref (a0 0)), some (.int x1), some (.int x2), some (.int x3)]) (pc' := 72) (st' := []) (by decide +kernel) rfl rfl ⟨⟨rfl, rfl, h12⟩, trivial⟩ ?_
    refine zr_eq (WW2 := [w_Mo G a0 y13]) (lv2 := [some (.ref (a0 0)), some (.int x1), some (.int x2), some (.int x3)]) (st2 := []) (by rw [e13]) rfl rfl ?_
    obtain ⟨h14, hf⟩ := zck_of hf
    obtain ⟨y15, e15, hf⟩ := zlet_of hf
    refine zr_run [(.aload_n 0, 0, 0, 0, .null), (.getfield 13, 0, 0, 14, .null), (.sipush 486, 0, 0, 0, .int (486 : Int32)), (.iload_n 1, 0, 0, 0, .null), (.iadd, 0, 0, 0, .null), (.iload_n 3, 0, 0, 0, .null), (.iastore, 0, 2, 0, .null)] [] (WW' := [w_Mo G a0 (Mo_s_now y13 ((upd (Mo_now y13) ((486 : Int32) + x1).toNatClampNeg x3)))]) (lv' := [some (.ref (a0 0)), some (.int x1), some (.int x2), some (.int x3)]) (pc' := 83) (st' := []) (by decide +kernel) rfl rfl ⟨trivial, ⟨rfl, rfl, zw_6_43⟩, trivial, trivial, trivial, trivial, ⟨rfl, rfl, h14⟩, trivial⟩ ?_
    refine zr_eq (WW2 := [w_Mo G a0 y15]) (lv2 := [some (.ref (a0 0)), some (.int x1), some (.int x2), some (.int x3)]) (st2 := []) (by rw [e15]) rfl rfl ?_
    obtain ⟨h16, hf⟩ := zck_of hf
    obtain ⟨h17, hf⟩ := zck_of hf
    obtain ⟨y18, e18, hf⟩ := zlet_of hf
    refine zr_run [(.aload_n 0, 0, 0, 0, .null), (.getfield 13, 0, 0, 14, .null), (.sipush 492, 0, 0, 0, .int (492 : Int32)), (.iload_n 1, 0, 0, 0, .null), (.iadd, 0, 0, 0, .null), (.aload_n 0, 0, 0, 0, .null), (.getfield 13, 0, 0, 14, .null), (.sipush 230, 0, 0, 0, .int (230 : Int32)), (.iload_n 1, 0, 0, 0, .null), (.iadd, 0, 0, 0, .null), (.iaload, 0, 2, 0, .null), (.iastore, 0, 2, 0, .null)] [] (WW' := [w_Mo G a0 (Mo_s_now y15 ((upd (Mo_now y15) ((492 : Int32) + x1).toNatClampNeg ((Mo_now y15) ((230 : Int32) + x1).toNatClampNeg))))]) (lv' := [some (.ref (a0 0)), some (.int x1), some (.int x2), some (.int x3)]) (pc' := 103) (st' := []) (by decide +kernel) rfl rfl ⟨trivial, ⟨rfl, rfl, zw_6_43⟩, trivial, trivial, trivial, trivial, ⟨rfl, rfl, zw_6_43⟩, trivial, trivial, trivial, ⟨rfl, rfl, h16⟩, ⟨rfl, rfl, h17⟩, trivial⟩ ?_
    refine zr_eq (WW2 := [w_Mo G a0 y18]) (lv2 := [some (.ref (a0 0)), some (.int x1), some (.int x2), some (.int x3)]) (st2 := []) (by rw [e18]) rfl rfl ?_
    obtain ⟨h19, hf⟩ := zck_of hf
    obtain ⟨y20, e20, hf⟩ := zlet_of hf
    refine zr_run [(.aload_n 0, 0, 0, 0, .null), (.getfield 13, 0, 0, 14, .null), (.sipush 498, 0, 0, 0, .int (498 : Int32)), (.iload_n 1, 0, 0, 0, .null), (.iadd, 0, 0, 0, .null), (.iconst 0, 0, 0, 0, .int (0 : Int32)), (.iastore, 0, 2, 0, .null)] [] (WW' := [w_Mo G a0 (Mo_s_now y18 ((upd (Mo_now y18) ((498 : Int32) + x1).toNatClampNeg (0 : Int32))))]) (lv' := [some (.ref (a0 0)), some (.int x1), some (.int x2), some (.int x3)]) (pc' := 114) (st' := []) (by decide +kernel) rfl rfl ⟨trivial, ⟨rfl, rfl, zw_6_43⟩, trivial, trivial, trivial, trivial, ⟨rfl, rfl, h19⟩, trivial⟩ ?_
    refine zr_eq (WW2 := [w_Mo G a0 y20]) (lv2 := [some (.ref (a0 0)), some (.int x1), some (.int x2), some (.int x3)]) (st2 := []) (by rw [e20]) rfl rfl ?_
    obtain rfl := Option.some.inj hf
    exact zr_vret (b0 := fun _ => 0) (by decide +kernel) rfl rfl rfl rfl rfl
  exact zj_entry [some (.ref (a0 0)), some (.int x1), some (.int x2), some (.int x3)] (by decide +kernel) rfl (by decide) (Nat.le_of_ble_eq_true rfl) rfl rfl (key _)
def M_X12_doEnter : zj_M := (RX12, cX12_doEnter, 2, none, { frames := 4, cells := 0, slots := 0, locals := 91 }, false)
theorem nm_X12_doEnter : zj_nm yX12_doEnter 1 := ⟨by decide +kernel, by decide +kernel, by decide +kernel⟩
def f_X12_doEnter  (s0 : MoT) (x1 : Int32) : Option (MoT) := ((f_X12_placeOf s0 x1).bind fun q1 => (if zb_in ((468 : Int32) + x1) 758 = true then (zlet (Mo_s_now q1.2 ((upd (Mo_now q1.2) ((468 : Int32) + x1).toNatClampNeg q1.1))) fun y3 => (if zb_in ((444 : Int32) + x1) 758 = true then (zlet (Mo_s_now y3 ((upd (Mo_now y3) ((444 : Int32) + x1).toNatClampNeg (0 : Int32)))) fun y5 => (if zb_in ((474 : Int32) + x1) 758 = true then (zlet (Mo_s_now y5 ((upd (Mo_now y5) ((474 : Int32) + x1).toNatClampNeg (0 : Int32)))) fun y7 => (if zb_in ((480 : Int32) + x1) 758 = true then (zlet (Mo_s_now y7 ((upd (Mo_now y7) ((480 : Int32) + x1).toNatClampNeg (0 : Int32)))) fun y9 => (if zb_in ((498 : Int32) + x1) 758 = true then (zlet (Mo_s_now y9 ((upd (Mo_now y9) ((498 : Int32) + x1).toNatClampNeg (0 : Int32)))) fun y11 => some y11) else none)) else none)) else none)) else none)) else none))
set_option maxRecDepth 100000 in
set_option maxHeartbeats 4000000 in
theorem c_X12_doEnter (l : Launch) (G : zj_G) (a0 : Nat → Nat) (s0 : MoT) (x1 : Int32) (r : MoT) (hf : f_X12_doEnter s0 x1 = some r) : zj_C l G M_X12_doEnter yX12_doEnter [w_Mo G a0 s0] [.ref (a0 0), .int x1] (none) (fun _ => [w_Mo G a0 r]) := by
  have key : ∀ W0 : List va_W, zj_J l G M_X12_doEnter W0 (zj_ret G M_X12_doEnter W0 (none) (fun _ => [w_Mo G a0 r])) 0 0 [w_Mo G a0 s0] [some (.ref (a0 0)), some (.int x1)] 0 [] := by
    intro W0
    unfold f_X12_doEnter at hf
    obtain ⟨q1, e1, hf⟩ := zbi_of hf
    refine zr_run [(.aload_n 0, 0, 0, 0, .null), (.getfield 13, 0, 0, 14, .null), (.sipush 468, 0, 0, 0, .int (468 : Int32)), (.iload_n 1, 0, 0, 0, .null), (.iadd, 0, 0, 0, .null), (.aload_n 0, 0, 0, 0, .null), (.iload_n 1, 0, 0, 0, .null)] [] (WW' := [w_Mo G a0 s0]) (lv' := [some (.ref (a0 0)), some (.int x1)]) (pc' := 11) (st' := [.int x1, .ref (a0 0), .int ((468 : Int32) + x1), .ref (a0 2)]) (by decide +kernel) rfl rfl ⟨trivial, ⟨rfl, rfl, zw_6_43⟩, trivial, trivial, trivial, trivial, trivial, trivial⟩ ?_
    refine zr_callV (c_X12_placeOf l G a0 s0 x1 q1 e1) (WW' := fun _ => [w_Mo G a0 q1.2]) (st := [.int ((468 : Int32) + x1), .ref (a0 2)]) (st' := [.int q1.1, .int ((468 : Int32) + x1), .ref (a0 2)]) [0] rfl rfl (fun _ => Nat.le_of_ble_eq_true rfl) (fun _ => rfl) rfl rfl nm_X12_placeOf zw_7_100 zw_7_102 zw_0_71 zw_1_18 zw_7_103 rfl rfl rfl (Nat.le_of_ble_eq_true rfl) ⟨Nat.le_of_ble_eq_true rfl, Nat.le_of_ble_eq_true rfl⟩ (by decide +kernel) (fun _ => ?_)
    obtain ⟨h2, hf⟩ := zck_of hf
    obtain ⟨y3, e3, hf⟩ := zlet_of hf
    refine zr_run [(.iastore, 0, 2, 0, .null)] [] (WW' := [w_Mo G a0 (Mo_s_now q1.2 ((upd (Mo_now q1.2) ((468 : Int32) + x1).toNatClampNeg q1.1)))]) (lv' := [some (.ref (a0 0)), some (.int x1)]) (pc' := 15) (st' := []) (by decide +kernel) rfl rfl ⟨⟨rfl, rfl, h2⟩, trivial⟩ ?_
    refine zr_eq (WW2 := [w_Mo G a0 y3]) (lv2 := [some (.ref (a0 0)), some (.int x1)]) (st2 := []) (by rw [e3]) rfl rfl ?_
    obtain ⟨h4, hf⟩ := zck_of hf
    obtain ⟨y5, e5, hf⟩ := zlet_of hf
    refine zr_run [(.aload_n 0, 0, 0, 0, .null), (.getfield 13, 0, 0, 14, .null), (.sipush 444, 0, 0, 0, .int (444 : Int32)), (.iload_n 1, 0, 0, 0, .null), (.iadd, 0, 0, 0, .null), (.iconst 0, 0, 0, 0, .int (0 : Int32)), (.iastore, 0, 2, 0, .null)] [] (WW' := [w_Mo G a0 (Mo_s_now y3 ((upd (Mo_now y3) ((444 : Int32) + x1).toNatClampNeg (0 : Int32))))]) (lv' := [some (.ref (a0 0)), some (.int x1)]) (pc' := 26) (st' := []) (by decide +kernel) rfl rfl ⟨trivial, ⟨rfl, rfl, zw_6_43⟩, trivial, trivial, trivial, trivial, ⟨rfl, rfl, h4⟩, trivial⟩ ?_
    refine zr_eq (WW2 := [w_Mo G a0 y5]) (lv2 := [some (.ref (a0 0)), some (.int x1)]) (st2 := []) (by rw [e5]) rfl rfl ?_
    obtain ⟨h6, hf⟩ := zck_of hf
    obtain ⟨y7, e7, hf⟩ := zlet_of hf
    refine zr_run [(.aload_n 0, 0, 0, 0, .null), (.getfield 13, 0, 0, 14, .null), (.sipush 474, 0, 0, 0, .int (474 : Int32)), (.iload_n 1, 0, 0, 0, .null), (.iadd, 0, 0, 0, .null), (.iconst 0, 0, 0, 0, .int (0 : Int32)), (.iastore, 0, 2, 0, .null)] [] (WW' := [w_Mo G a0 (Mo_s_now y5 ((upd (Mo_now y5) ((474 : Int32) + x1).toNatClampNeg (0 : Int32))))]) (lv' := [some (.ref (a0 0)), some (.int x1)]) (pc' := 37) (st' := []) (by decide +kernel) rfl rfl ⟨trivial, ⟨rfl, rfl, zw_6_43⟩, trivial, trivial, trivial, trivial, ⟨rfl, rfl, h6⟩, trivial⟩ ?_
    refine zr_eq (WW2 := [w_Mo G a0 y7]) (lv2 := [some (.ref (a0 0)), some (.int x1)]) (st2 := []) (by rw [e7]) rfl rfl ?_
    obtain ⟨h8, hf⟩ := zck_of hf
    obtain ⟨y9, e9, hf⟩ := zlet_of hf
    refine zr_run [(.aload_n 0, 0, 0, 0, .null), (.getfield 13, 0, 0, 14, .null), (.sipush 480, 0, 0, 0, .int (480 : Int32)), (.iload_n 1, 0, 0, 0, .null), (.iadd, 0, 0, 0, .null), (.iconst 0, 0, 0, 0, .int (0 : Int32)), (.iastore, 0, 2, 0, .null)] [] (WW' := [w_Mo G a0 (Mo_s_now y7 ((upd (Mo_now y7) ((480 : Int32) + x1).toNatClampNeg (0 : Int32))))]) (lv' := [some (.ref (a0 0)), some (.int x1)]) (pc' := 48) (st' := []) (by decide +kernel) rfl rfl ⟨trivial, ⟨rfl, rfl, zw_6_43⟩, trivial, trivial, trivial, trivial, ⟨rfl, rfl, h8⟩, trivial⟩ ?_
    refine zr_eq (WW2 := [w_Mo G a0 y9]) (lv2 := [some (.ref (a0 0)), some (.int x1)]) (st2 := []) (by rw [e9]) rfl rfl ?_
    obtain ⟨h10, hf⟩ := zck_of hf
    obtain ⟨y11, e11, hf⟩ := zlet_of hf
    refine zr_run [(.aload_n 0, 0, 0, 0, .null), (.getfield 13, 0, 0, 14, .null), (.sipush 498, 0, 0, 0, .int (498 : Int32)), (.iload_n 1, 0, 0, 0, .null), (.iadd, 0, 0, 0, .null), (.iconst 0, 0, 0, 0, .int (0 : Int32)), (.iastore, 0, 2, 0, .null)] [] (WW' := [w_Mo G a0 (Mo_s_now y9 ((upd (Mo_now y9) ((498 : Int32) + x1).toNatClampNeg (0 : Int32))))]) (lv' := [some (.ref (a0 0)), some (.int x1)]) (pc' := 59) (st' := []) (by decide +kernel) rfl rfl ⟨trivial, ⟨rfl, rfl, zw_6_43⟩, trivial, trivial, trivial, trivial, ⟨rfl, rfl, h10⟩, trivial⟩ ?_
    refine zr_eq (WW2 := [w_Mo G a0 y11]) (lv2 := [some (.ref (a0 0)), some (.int x1)]) (st2 := []) (by rw [e11]) rfl rfl ?_
    obtain rfl := Option.some.inj hf
    exact zr_vret (b0 := fun _ => 0) (by decide +kernel) rfl rfl rfl rfl rfl
  exact zj_entry [some (.ref (a0 0)), some (.int x1)] (by decide +kernel) rfl (by decide) (Nat.le_of_ble_eq_true rfl) rfl rfl (key _)
def M_X12_live : zj_M := (RX12, cX12_live, 5, none, { frames := 5, cells := 0, slots := 0, locals := 112 }, false)
theorem nm_X12_live : zj_nm yX12_live 4 := ⟨by decide +kernel, by decide +kernel, by decide +kernel⟩
def f_X12_live  (s0 : MoT) (x1 : Int32) (x2 : Int32) (x3 : Int32) (x4 : Int32) : Option (MoT) := (if x1 = (0 : Int32) then ((f_X12_doSwear s0 x2 x3 x4).bind fun q1 => some q1) else (if x1 = (1 : Int32) then (if zb_in ((492 : Int32) + x2) 758 = true then (zlet (Mo_s_now s0 ((upd (Mo_now s0) ((492 : Int32) + x2).toNatClampNeg x3))) fun y3 => some y3) else none) else (if x1 = (2 : Int32) then (if zb_in ((444 : Int32) + x2) 758 = true then (zlet (Mo_s_now s0 ((upd (Mo_now s0) ((444 : Int32) + x2).toNatClampNeg (4 : Int32)))) fun y5 => some y5) else none) else (if x1 = (3 : Int32) then ((f_X12_doEnter s0 x2).bind fun q6 => some q6) else (if zb_in ((450 : Int32) + x2) 758 = true then ((f_X12_least (999 : Int32) (((Mo_now s0) ((450 : Int32) + x2).toNatClampNeg) + x3)).bind fun q8 => (if zb_in ((450 : Int32) + x2) 758 = true then (zlet (Mo_s_now s0 ((upd (Mo_now s0) ((450 : Int32) + x2).toNatClampNeg q8))) fun y10 => some y10) else none)) else none)))))
set_option maxRecDepth 100000 in
set_option maxHeartbeats 4000000 in
theorem c_X12_live (l : Launch) (G : zj_G) (a0 : Nat → Nat) (s0 : MoT) (x1 : Int32) (x2 : Int32) (x3 : Int32) (x4 : Int32) (r : MoT) (hf : f_X12_live s0 x1 x2 x3 x4 = some r) : zj_C l G M_X12_live yX12_live [w_Mo G a0 s0] [.ref (a0 0), .int x1, .int x2, .int x3, .int x4] (none) (fun _ => [w_Mo G a0 r]) := by
  have key : ∀ W0 : List va_W, zj_J l G M_X12_live W0 (zj_ret G M_X12_live W0 (none) (fun _ => [w_Mo G a0 r])) 0 0 [w_Mo G a0 s0] [some (.ref (a0 0)), some (.int x1), some (.int x2), some (.int x3), some (.int x4)] 0 [] := by
    intro W0
    unfold f_X12_live at hf
    refine zr_run [(.iload_n 1, 0, 0, 0, .null)] [] (WW' := [w_Mo G a0 s0]) (lv' := [some (.ref (a0 0)), some (.int x1), some (.int x2), some (.int x3), some (.int x4)]) (pc' := 1) (st' := [.int x1]) (by decide +kernel) rfl rfl ⟨trivial, trivial⟩ ?_
    by_cases hc0 : x1 = (0 : Int32)
    · have hf := zift hf hc0
      refine zr_tabIn (v := (0 : Int32)) (tgt := 32) (dflt := 70) (lo := 0) (hi := 3) (offs := #[31, 40, 52, 64]) (len := 31) (off := 31) hc0 (by decide +kernel) (by decide) (by decide) (by decide) ?_
      obtain ⟨q1, e1, hf⟩ := zbi_of hf
      refine zr_run [(.aload_n 0, 0, 0, 0, .null), (.iload_n 2, 0, 0, 0, .null), (.iload_n 3, 0, 0, 0, .null), (.iload 4, 0, 0, 0, .null)] [] (WW' := [w_Mo G a0 s0]) (lv' := [some (.ref (a0 0)), some (.int x1), some (.int x2), some (.int x3), some (.int x4)]) (pc' := 37) (st' := [.int x4, .int x3, .int x2, .ref (a0 0)]) (by decide +kernel) rfl rfl ⟨trivial, trivial, trivial, trivial, trivial⟩ ?_
      refine zr_callV (c_X12_doSwear l G a0 s0 x2 x3 x4 q1 e1) (WW' := fun _ => [w_Mo G a0 q1]) (st := []) (st' := []) [0] rfl rfl (fun _ => Nat.le_of_ble_eq_true rfl) (fun _ => rfl) rfl rfl nm_X12_doSwear zw_7_180 zw_7_182 zw_0_87 zw_1_18 zw_7_183 rfl rfl rfl (Nat.le_of_ble_eq_true rfl) ⟨Nat.le_of_ble_eq_true rfl, Nat.le_of_ble_eq_true rfl⟩ (by decide +kernel) (fun _ => ?_)
      obtain rfl := Option.some.inj hf
      exact zr_vret (b0 := fun _ => 0) (by decide +kernel) rfl rfl rfl rfl rfl
    · have hf := ziff hf hc0
      by_cases hc1 : x1 = (1 : Int32)
      · have hf := zift hf hc1
        refine zr_tabIn (v := (1 : Int32)) (tgt := 41) (dflt := 70) (lo := 0) (hi := 3) (offs := #[31, 40, 52, 64]) (len := 31) (off := 40) hc1 (by decide +kernel) (by decide) (by decide) (by decide) ?_
        obtain ⟨h2, hf⟩ := zck_of hf
        obtain ⟨y3, e3, hf⟩ := zlet_of hf
        refine zr_run [(.aload_n 0, 0, 0, 0, .null), (.getfield 13, 0, 0, 14, .null), (.sipush 492, 0, 0, 0, .int (492 : Int32)), (.iload_n 2, 0, 0, 0, .null), (.iadd, 0, 0, 0, .null), (.iload_n 3, 0, 0, 0, .null), (.iastore, 0, 2, 0, .null)] [] (WW' := [w_Mo G a0 (Mo_s_now s0 ((upd (Mo_now s0) ((492 : Int32) + x2).toNatClampNeg x3)))]) (lv' := [some (.ref (a0 0)), some (.int x1), some (.int x2), some (.int x3), some (.int x4)]) (pc' := 52) (st' := []) (by decide +kernel) rfl rfl ⟨trivial, ⟨rfl, rfl, zw_6_43⟩, trivial, trivial, trivial, trivial, ⟨rfl, rfl, h2⟩, trivial⟩ ?_
        refine zr_eq (WW2 := [w_Mo G a0 y3]) (lv2 := [some (.ref (a0 0)), some (.int x1), some (.int x2), some (.int x3), some (.int x4)]) (st2 := []) (by rw [e3]) rfl rfl ?_
        obtain rfl := Option.some.inj hf
        exact zr_vret (b0 := fun _ => 0) (by decide +kernel) rfl rfl rfl rfl rfl
      · have hf := ziff hf hc1
        by_cases hc2 : x1 = (2 : Int32)
        · have hf := zift hf hc2
          refine zr_tabIn (v := (2 : Int32)) (tgt := 53) (dflt := 70) (lo := 0) (hi := 3) (offs := #[31, 40, 52, 64]) (len := 31) (off := 52) hc2 (by decide +kernel) (by decide) (by decide) (by decide) ?_
          obtain ⟨h4, hf⟩ := zck_of hf
          obtain ⟨y5, e5, hf⟩ := zlet_of hf
          refine zr_run [(.aload_n 0, 0, 0, 0, .null), (.getfield 13, 0, 0, 14, .null), (.sipush 444, 0, 0, 0, .int (444 : Int32)), (.iload_n 2, 0, 0, 0, .null), (.iadd, 0, 0, 0, .null), (.iconst 4, 0, 0, 0, .int (4 : Int32)), (.iastore, 0, 2, 0, .null)] [] (WW' := [w_Mo G a0 (Mo_s_now s0 ((upd (Mo_now s0) ((444 : Int32) + x2).toNatClampNeg (4 : Int32))))]) (lv' := [some (.ref (a0 0)), some (.int x1), some (.int x2), some (.int x3), some (.int x4)]) (pc' := 64) (st' := []) (by decide +kernel) rfl rfl ⟨trivial, ⟨rfl, rfl, zw_6_43⟩, trivial, trivial, trivial, trivial, ⟨rfl, rfl, h4⟩, trivial⟩ ?_
          refine zr_eq (WW2 := [w_Mo G a0 y5]) (lv2 := [some (.ref (a0 0)), some (.int x1), some (.int x2), some (.int x3), some (.int x4)]) (st2 := []) (by rw [e5]) rfl rfl ?_
          obtain rfl := Option.some.inj hf
          exact zr_vret (b0 := fun _ => 0) (by decide +kernel) rfl rfl rfl rfl rfl
        · have hf := ziff hf hc2
          by_cases hc3 : x1 = (3 : Int32)
          · have hf := zift hf hc3
            refine zr_tabIn (v := (3 : Int32)) (tgt := 65) (dflt := 70) (lo := 0) (hi := 3) (offs := #[31, 40, 52, 64]) (len := 31) (off := 64) hc3 (by decide +kernel) (by decide) (by decide) (by decide) ?_
            obtain ⟨q6, e6, hf⟩ := zbi_of hf
            refine zr_run [(.aload_n 0, 0, 0, 0, .null), (.iload_n 2, 0, 0, 0, .null)] [] (WW' := [w_Mo G a0 s0]) (lv' := [some (.ref (a0 0)), some (.int x1), some (.int x2), some (.int x3), some (.int x4)]) (pc' := 67) (st' := [.int x2, .ref (a0 0)]) (by decide +kernel) rfl rfl ⟨trivial, trivial, trivial⟩ ?_
            refine zr_callV (c_X12_doEnter l G a0 s0 x2 q6 e6) (WW' := fun _ => [w_Mo G a0 q6]) (st := []) (st' := []) [0] rfl rfl (fun _ => Nat.le_of_ble_eq_true rfl) (fun _ => rfl) rfl rfl nm_X12_doEnter zw_7_184 zw_7_186 zw_0_88 zw_1_18 zw_7_187 rfl rfl rfl (Nat.le_of_ble_eq_true rfl) ⟨Nat.le_of_ble_eq_true rfl, Nat.le_of_ble_eq_true rfl⟩ (by decide +kernel) (fun _ => ?_)
            obtain rfl := Option.some.inj hf
            exact zr_vret (b0 := fun _ => 0) (by decide +kernel) rfl rfl rfl rfl rfl
          · have hf := ziff hf hc3
            refine zr_tabOut (tgt := 71) (dflt := 70) (lo := 0) (hi := 3) (offs := #[31, 40, 52, 64]) (len := 31) (by decide +kernel) (by have q0 := lv_neT hc0 (a := 0) (by decide); have q1 := lv_neT hc1 (a := 1) (by decide); have q2 := lv_neT hc2 (a := 2) (by decide); have q3 := lv_neT hc3 (a := 3) (by decide); omega) (by decide) ?_
            obtain ⟨h7, hf⟩ := zck_of hf
            obtain ⟨q8, e8, hf⟩ := zbi_of hf
            refine zr_run [(.aload_n 0, 0, 0, 0, .null), (.getfield 13, 0, 0, 14, .null), (.sipush 450, 0, 0, 0, .int (450 : Int32)), (.iload_n 2, 0, 0, 0, .null), (.iadd, 0, 0, 0, .null), (.sipush 999, 0, 0, 0, .int (999 : Int32)), (.aload_n 0, 0, 0, 0, .null), (.getfield 13, 0, 0, 14, .null), (.sipush 450, 0, 0, 0, .int (450 : Int32)), (.iload_n 2, 0, 0, 0, .null), (.iadd, 0, 0, 0, .null), (.iaload, 0, 2, 0, .null), (.iload_n 3, 0, 0, 0, .null), (.iadd, 0, 0, 0, .null)] [] (WW' := [w_Mo G a0 s0]) (lv' := [some (.ref (a0 0)), some (.int x1), some (.int x2), some (.int x3), some (.int x4)]) (pc' := 95) (st' := [.int (((Mo_now s0) ((450 : Int32) + x2).toNatClampNeg) + x3), .int (999 : Int32), .int ((450 : Int32) + x2), .ref (a0 2)]) (by decide +kernel) rfl rfl ⟨trivial, ⟨rfl, rfl, zw_6_43⟩, trivial, trivial, trivial, trivial, trivial, ⟨rfl, rfl, zw_6_43⟩, trivial, trivial, trivial, ⟨rfl, rfl, h7⟩, trivial, trivial, trivial⟩ ?_
            refine zr_callS (c_X12_least l G (999 : Int32) (((Mo_now s0) ((450 : Int32) + x2).toNatClampNeg) + x3) q8 e8) (WW' := fun _ => [w_Mo G a0 s0]) (st := [.int ((450 : Int32) + x2), .ref (a0 2)]) (st' := [.int q8, .int ((450 : Int32) + x2), .ref (a0 2)]) [] rfl rfl (fun _ => Nat.le_of_ble_eq_true rfl) (fun _ => rfl) rfl rfl nm_X12_least zw_7_81 zw_7_82 zw_1_18 zw_7_83 rfl (Nat.le_of_ble_eq_true rfl) ⟨Nat.le_of_ble_eq_true rfl, Nat.le_of_ble_eq_true rfl⟩ (by decide +kernel) (fun _ => ?_)
            obtain ⟨h9, hf⟩ := zck_of hf
            obtain ⟨y10, e10, hf⟩ := zlet_of hf
            refine zr_run [(.iastore, 0, 2, 0, .null)] [] (WW' := [w_Mo G a0 (Mo_s_now s0 ((upd (Mo_now s0) ((450 : Int32) + x2).toNatClampNeg q8)))]) (lv' := [some (.ref (a0 0)), some (.int x1), some (.int x2), some (.int x3), some (.int x4)]) (pc' := 99) (st' := []) (by decide +kernel) rfl rfl ⟨⟨rfl, rfl, h9⟩, trivial⟩ ?_
            refine zr_eq (WW2 := [w_Mo G a0 y10]) (lv2 := [some (.ref (a0 0)), some (.int x1), some (.int x2), some (.int x3), some (.int x4)]) (st2 := []) (by rw [e10]) rfl rfl ?_
            obtain rfl := Option.some.inj hf
            exact zr_vret (b0 := fun _ => 0) (by decide +kernel) rfl rfl rfl rfl rfl
  exact zj_entry [some (.ref (a0 0)), some (.int x1), some (.int x2), some (.int x3), some (.int x4)] (by decide +kernel) rfl (by decide) (Nat.le_of_ble_eq_true rfl) rfl rfl (key _)
def M_X12_act : zj_M := (RX12, cX12_act, 6, (some .int), { frames := 6, cells := 0, slots := 0, locals := 137 }, false)
theorem nm_X12_act : zj_nm yX12_act 4 := ⟨by decide +kernel, by decide +kernel, by decide +kernel⟩
def f_X12_act  (s0 : MoT) (x1 : Int32) (x2 : Int32) (x3 : Int32) (x4 : Int32) : Option (Int32 × MoT) := ((f_X12_why s0 x1 x2 x3).bind fun q1 => (if q1.1 = 0 then ((f_X12_snap q1.2).bind fun q2 => ((f_X12_live q2 x1 x2 x3 x4).bind fun q3 => some ((0 : Int32), q3))) else some (q1.1, q1.2)))
set_option maxRecDepth 100000 in
set_option maxHeartbeats 4000000 in
theorem c_X12_act (l : Launch) (G : zj_G) (a0 : Nat → Nat) (s0 : MoT) (x1 : Int32) (x2 : Int32) (x3 : Int32) (x4 : Int32) (r : Int32 × MoT) (hf : f_X12_act s0 x1 x2 x3 x4 = some r) : zj_C l G M_X12_act yX12_act [w_Mo G a0 s0] [.ref (a0 0), .int x1, .int x2, .int x3, .int x4] (some (.int r.1)) (fun _ => [w_Mo G a0 r.2]) := by
  have key : ∀ W0 : List va_W, zj_J l G M_X12_act W0 (zj_ret G M_X12_act W0 (some (.int r.1)) (fun _ => [w_Mo G a0 r.2])) 0 0 [w_Mo G a0 s0] [some (.ref (a0 0)), some (.int x1), some (.int x2), some (.int x3), some (.int x4), none] 0 [] := by
    intro W0
    unfold f_X12_act at hf
    obtain ⟨q1, e1, hf⟩ := zbi_of hf
    refine zr_run [(.aload_n 0, 0, 0, 0, .null), (.iload_n 1, 0, 0, 0, .null), (.iload_n 2, 0, 0, 0, .null), (.iload_n 3, 0, 0, 0, .null)] [] (WW' := [w_Mo G a0 s0]) (lv' := [some (.ref (a0 0)), some (.int x1), some (.int x2), some (.int x3), some (.int x4), none]) (pc' := 4) (st' := [.int x3, .int x2, .int x1, .ref (a0 0)]) (by decide +kernel) rfl rfl ⟨trivial, trivial, trivial, trivial, trivial⟩ ?_
    refine zr_callV (c_X12_why l G a0 s0 x1 x2 x3 q1 e1) (WW' := fun _ => [w_Mo G a0 q1.2]) (st := []) (st' := [.int q1.1]) [0] rfl rfl (fun _ => Nat.le_of_ble_eq_true rfl) (fun _ => rfl) rfl rfl nm_X12_why zw_7_160 zw_7_162 zw_0_82 zw_1_18 zw_7_163 rfl rfl rfl (Nat.le_of_ble_eq_true rfl) ⟨Nat.le_of_ble_eq_true rfl, Nat.le_of_ble_eq_true rfl⟩ (by decide +kernel) (fun _ => ?_)
    refine zr_run [(.istore 5, 0, 0, 0, .null), (.iload 5, 0, 0, 0, .null)] [] (WW' := [w_Mo G a0 q1.2]) (lv' := [some (.ref (a0 0)), some (.int x1), some (.int x2), some (.int x3), some (.int x4), some (.int q1.1)]) (pc' := 11) (st' := [.int q1.1]) (by decide +kernel) rfl rfl ⟨trivial, trivial, trivial⟩ ?_
    refine zr_if_eq (off := 6) (tgt := 17) (by decide +kernel) (by decide) (fun hc => ?_) (fun hc => ?_)
    · have hf := zift hf hc
      obtain ⟨q2, e2, hf⟩ := zbi_of hf
      refine zr_run [(.aload_n 0, 0, 0, 0, .null)] [] (WW' := [w_Mo G a0 q1.2]) (lv' := [some (.ref (a0 0)), some (.int x1), some (.int x2), some (.int x3), some (.int x4), some (.int q1.1)]) (pc' := 18) (st' := [.ref (a0 0)]) (by decide +kernel) rfl rfl ⟨trivial, trivial⟩ ?_
      refine zr_callV (c_X12_snap l G a0 q1.2 q2 e2) (WW' := fun _ => [w_Mo G a0 q2]) (st := []) (st' := []) [0] rfl rfl (fun _ => Nat.le_of_ble_eq_true rfl) (fun _ => rfl) rfl rfl nm_X12_snap zw_7_172 zw_7_174 zw_0_85 zw_1_18 zw_7_175 rfl rfl rfl (Nat.le_of_ble_eq_true rfl) ⟨Nat.le_of_ble_eq_true rfl, Nat.le_of_ble_eq_true rfl⟩ (by decide +kernel) (fun _ => ?_)
      obtain ⟨q3, e3, hf⟩ := zbi_of hf
      refine zr_run [(.aload_n 0, 0, 0, 0, .null), (.iload_n 1, 0, 0, 0, .null), (.iload_n 2, 0, 0, 0, .null), (.iload_n 3, 0, 0, 0, .null), (.iload 4, 0, 0, 0, .null)] [] (WW' := [w_Mo G a0 q2]) (lv' := [some (.ref (a0 0)), some (.int x1), some (.int x2), some (.int x3), some (.int x4), some (.int q1.1)]) (pc' := 27) (st' := [.int x4, .int x3, .int x2, .int x1, .ref (a0 0)]) (by decide +kernel) rfl rfl ⟨trivial, trivial, trivial, trivial, trivial, trivial⟩ ?_
      refine zr_callV (c_X12_live l G a0 q2 x1 x2 x3 x4 q3 e3) (WW' := fun _ => [w_Mo G a0 q3]) (st := []) (st' := []) [0] rfl rfl (fun _ => Nat.le_of_ble_eq_true rfl) (fun _ => rfl) rfl rfl nm_X12_live zw_7_176 zw_7_178 zw_0_86 zw_1_18 zw_7_179 rfl rfl rfl (Nat.le_of_ble_eq_true rfl) ⟨Nat.le_of_ble_eq_true rfl, Nat.le_of_ble_eq_true rfl⟩ (by decide +kernel) (fun _ => ?_)
      refine zr_run [(.iconst 0, 0, 0, 0, .int (0 : Int32))] [] (WW' := [w_Mo G a0 q3]) (lv' := [some (.ref (a0 0)), some (.int x1), some (.int x2), some (.int x3), some (.int x4), some (.int q1.1)]) (pc' := 31) (st' := [.int (0 : Int32)]) (by decide +kernel) rfl rfl ⟨trivial, trivial⟩ ?_
      obtain rfl := Option.some.inj hf
      exact zr_iret (b0 := fun _ => 0) (by decide +kernel) rfl rfl rfl rfl rfl
    · have hf := ziff hf hc
      refine zr_run [(.iload 5, 0, 0, 0, .null)] [] (WW' := [w_Mo G a0 q1.2]) (lv' := [some (.ref (a0 0)), some (.int x1), some (.int x2), some (.int x3), some (.int x4), some (.int q1.1)]) (pc' := 16) (st' := [.int q1.1]) (by decide +kernel) rfl rfl ⟨trivial, trivial⟩ ?_
      obtain rfl := Option.some.inj hf
      exact zr_iret (b0 := fun _ => 0) (by decide +kernel) rfl rfl rfl rfl rfl
  exact zj_entry [some (.ref (a0 0)), some (.int x1), some (.int x2), some (.int x3), some (.int x4), none] (by decide +kernel) rfl (by decide) (Nat.le_of_ble_eq_true rfl) rfl rfl (key _)
def M_X12_swear : zj_M := (RX12, cX12_swear, 4, (some .int), { frames := 7, cells := 0, slots := 0, locals := 162 }, false)
theorem nm_X12_swear : zj_nm yX12_swear 3 := ⟨by decide +kernel, by decide +kernel, by decide +kernel⟩
def f_X12_swear_b42  (s0 : MoT)   : Option (Int32 × MoT) := some ((-1 : Int32), s0)
def f_X12_swear  (s0 : MoT) (x1 : Int32) (x2 : Int32) (x3 : Int32) : Option (Int32 × MoT) := (zlet (Mo_s_thrown s0 (0 : Int32)) fun y1 => ((f_X12_isMan y1 x1).bind fun q2 => (if q2 = 0 then f_X12_swear_b42 y1 else ((f_X12_isPort y1 x2).bind fun q3 => (if q3 = 0 then f_X12_swear_b42 y1 else ((f_X12_isIn x3 (1 : Int32) (40 : Int32)).bind fun q4 => (if q4 = 0 then f_X12_swear_b42 y1 else ((f_X12_act y1 (0 : Int32) x1 x2 x3).bind fun q5 => some (q5.1, q5.2)))))))))
set_option maxRecDepth 100000 in
set_option maxHeartbeats 4000000 in
theorem t_X12_swear_b42 (l : Launch) (G : zj_G) (a0 : Nat → Nat) (W0 : List va_W) (r : Int32 × MoT) (s0 : MoT)    (hf : f_X12_swear_b42 s0 = some r) : zj_J l G M_X12_swear W0 (zj_ret G M_X12_swear W0 (some (.int r.1)) (fun _ => [w_Mo G a0 r.2])) 0 0 [w_Mo G a0 s0] [none, none, none, none] 42 [] := by
  unfold f_X12_swear_b42 at hf
  refine zr_run [(.iconst (-1), 0, 0, 0, .int (-1 : Int32))] [] (WW' := [w_Mo G a0 s0]) (lv' := [none, none, none, none]) (pc' := 43) (st' := [.int (-1 : Int32)]) (by decide +kernel) rfl rfl ⟨trivial, trivial⟩ ?_
  obtain rfl := Option.some.inj hf
  exact zr_iret (b0 := fun _ => 0) (by decide +kernel) rfl rfl rfl rfl rfl
set_option maxRecDepth 100000 in
set_option maxHeartbeats 4000000 in
theorem c_X12_swear (l : Launch) (G : zj_G) (a0 : Nat → Nat) (s0 : MoT) (x1 : Int32) (x2 : Int32) (x3 : Int32) (r : Int32 × MoT) (hf : f_X12_swear s0 x1 x2 x3 = some r) : zj_C l G M_X12_swear yX12_swear [w_Mo G a0 s0] [.ref (a0 0), .int x1, .int x2, .int x3] (some (.int r.1)) (fun _ => [w_Mo G a0 r.2]) := by
  have key : ∀ W0 : List va_W, zj_J l G M_X12_swear W0 (zj_ret G M_X12_swear W0 (some (.int r.1)) (fun _ => [w_Mo G a0 r.2])) 0 0 [w_Mo G a0 s0] [some (.ref (a0 0)), some (.int x1), some (.int x2), some (.int x3)] 0 [] := by
    intro W0
    unfold f_X12_swear at hf
    obtain ⟨y1, e1, hf⟩ := zlet_of hf
    refine zr_run [(.aload_n 0, 0, 0, 0, .null), (.iconst 0, 0, 0, 0, .int (0 : Int32)), (.putfield 91, 0, 0, 0, .null)] [] (WW' := [w_Mo G a0 (Mo_s_thrown s0 (0 : Int32))]) (lv' := [some (.ref (a0 0)), some (.int x1), some (.int x2), some (.int x3)]) (pc' := 5) (st' := []) (by decide +kernel) rfl rfl ⟨trivial, trivial, ⟨rfl, rfl, rfl, trivial, rfl, rfl, zw_6_29⟩, trivial⟩ ?_
    refine zr_eq (WW2 := [w_Mo G a0 y1]) (lv2 := [some (.ref (a0 0)), some (.int x1), some (.int x2), some (.int x3)]) (st2 := []) (by rw [e1]) rfl rfl ?_
    obtain ⟨q2, e2, hf⟩ := zbi_of hf
    refine zr_run [(.aload_n 0, 0, 0, 0, .null), (.iload_n 1, 0, 0, 0, .null)] [] (WW' := [w_Mo G a0 y1]) (lv' := [some (.ref (a0 0)), some (.int x1), some (.int x2), some (.int x3)]) (pc' := 7) (st' := [.int x1, .ref (a0 0)]) (by decide +kernel) rfl rfl ⟨trivial, trivial, trivial⟩ ?_
    refine zr_callV (c_X12_isMan l G a0 y1 x1 q2 e2) (WW' := fun _ => [w_Mo G a0 y1]) (st := []) (st' := [.int q2]) [0] rfl rfl (fun _ => Nat.le_of_ble_eq_true rfl) (fun _ => rfl) rfl rfl nm_X12_isMan zw_7_128 zw_7_130 zw_0_76 zw_1_18 zw_7_131 rfl rfl rfl (Nat.le_of_ble_eq_true rfl) ⟨Nat.le_of_ble_eq_true rfl, Nat.le_of_ble_eq_true rfl⟩ (by decide +kernel) (fun _ => ?_)
    refine zr_if_eq (off := 32) (tgt := 42) (by decide +kernel) (by decide) (fun hc => ?_) (fun hc => ?_)
    · have hf := zift hf hc
      refine zr_run [] [0, 1, 2, 3] (WW' := [w_Mo G a0 y1]) (lv' := [none, none, none, none]) (pc' := 42) (st' := []) (by decide +kernel) rfl rfl trivial ?_
      exact t_X12_swear_b42 l G a0 W0 r y1 hf
    · have hf := ziff hf hc
      obtain ⟨q3, e3, hf⟩ := zbi_of hf
      refine zr_run [(.aload_n 0, 0, 0, 0, .null), (.iload_n 2, 0, 0, 0, .null)] [] (WW' := [w_Mo G a0 y1]) (lv' := [some (.ref (a0 0)), some (.int x1), some (.int x2), some (.int x3)]) (pc' := 15) (st' := [.int x2, .ref (a0 0)]) (by decide +kernel) rfl rfl ⟨trivial, trivial, trivial⟩ ?_
      refine zr_callV (c_X12_isPort l G a0 y1 x2 q3 e3) (WW' := fun _ => [w_Mo G a0 y1]) (st := []) (st' := [.int q3]) [0] rfl rfl (fun _ => Nat.le_of_ble_eq_true rfl) (fun _ => rfl) rfl rfl nm_X12_isPort zw_7_152 zw_7_154 zw_0_80 zw_1_18 zw_7_155 rfl rfl rfl (Nat.le_of_ble_eq_true rfl) ⟨Nat.le_of_ble_eq_true rfl, Nat.le_of_ble_eq_true rfl⟩ (by decide +kernel) (fun _ => ?_)
      refine zr_if_eq (off := 24) (tgt := 42) (by decide +kernel) (by decide) (fun hc => ?_) (fun hc => ?_)
      · have hf := zift hf hc
        refine zr_run [] [0, 1, 2, 3] (WW' := [w_Mo G a0 y1]) (lv' := [none, none, none, none]) (pc' := 42) (st' := []) (by decide +kernel) rfl rfl trivial ?_
        exact t_X12_swear_b42 l G a0 W0 r y1 hf
      · have hf := ziff hf hc
        obtain ⟨q4, e4, hf⟩ := zbi_of hf
        refine zr_run [(.iload_n 3, 0, 0, 0, .null), (.iconst 1, 0, 0, 0, .int (1 : Int32)), (.bipush 40, 0, 0, 0, .int (40 : Int32))] [] (WW' := [w_Mo G a0 y1]) (lv' := [some (.ref (a0 0)), some (.int x1), some (.int x2), some (.int x3)]) (pc' := 25) (st' := [.int (40 : Int32), .int (1 : Int32), .int x3]) (by decide +kernel) rfl rfl ⟨trivial, trivial, trivial, trivial⟩ ?_
        refine zr_callS (c_X12_isIn l G x3 (1 : Int32) (40 : Int32) q4 e4) (WW' := fun _ => [w_Mo G a0 y1]) (st := []) (st' := [.int q4]) [] rfl rfl (fun _ => Nat.le_of_ble_eq_true rfl) (fun _ => rfl) rfl rfl nm_X12_isIn zw_7_38 zw_7_39 zw_1_18 zw_7_40 rfl (Nat.le_of_ble_eq_true rfl) ⟨Nat.le_of_ble_eq_true rfl, Nat.le_of_ble_eq_true rfl⟩ (by decide +kernel) (fun _ => ?_)
        refine zr_if_eq (off := 14) (tgt := 42) (by decide +kernel) (by decide) (fun hc => ?_) (fun hc => ?_)
        · have hf := zift hf hc
          refine zr_run [] [0, 1, 2, 3] (WW' := [w_Mo G a0 y1]) (lv' := [none, none, none, none]) (pc' := 42) (st' := []) (by decide +kernel) rfl rfl trivial ?_
          exact t_X12_swear_b42 l G a0 W0 r y1 hf
        · have hf := ziff hf hc
          obtain ⟨q5, e5, hf⟩ := zbi_of hf
          refine zr_run [(.aload_n 0, 0, 0, 0, .null), (.iconst 0, 0, 0, 0, .int (0 : Int32)), (.iload_n 1, 0, 0, 0, .null), (.iload_n 2, 0, 0, 0, .null), (.iload_n 3, 0, 0, 0, .null)] [] (WW' := [w_Mo G a0 y1]) (lv' := [some (.ref (a0 0)), some (.int x1), some (.int x2), some (.int x3)]) (pc' := 36) (st' := [.int x3, .int x2, .int x1, .int (0 : Int32), .ref (a0 0)]) (by decide +kernel) rfl rfl ⟨trivial, trivial, trivial, trivial, trivial, trivial⟩ ?_
          refine zr_callV (c_X12_act l G a0 y1 (0 : Int32) x1 x2 x3 q5 e5) (WW' := fun _ => [w_Mo G a0 q5.2]) (st := []) (st' := [.int q5.1]) [0] rfl rfl (fun _ => Nat.le_of_ble_eq_true rfl) (fun _ => rfl) rfl rfl nm_X12_act zw_7_156 zw_7_158 zw_0_81 zw_1_18 zw_7_159 rfl rfl rfl (Nat.le_of_ble_eq_true rfl) ⟨Nat.le_of_ble_eq_true rfl, Nat.le_of_ble_eq_true rfl⟩ (by decide +kernel) (fun _ => ?_)
          refine zr_goto (off := 4) (tgt := 43) (by decide +kernel) (by decide) ?_
          obtain rfl := Option.some.inj hf
          exact zr_iret (b0 := fun _ => 0) (by decide +kernel) rfl rfl rfl rfl rfl
  exact zj_entry [some (.ref (a0 0)), some (.int x1), some (.int x2), some (.int x3)] (by decide +kernel) rfl (by decide) (Nat.le_of_ble_eq_true rfl) rfl rfl (key _)
def M_X12_order : zj_M := (RX12, cX12_order, 3, (some .int), { frames := 7, cells := 0, slots := 0, locals := 162 }, false)
theorem nm_X12_order : zj_nm yX12_order 2 := ⟨by decide +kernel, by decide +kernel, by decide +kernel⟩
def f_X12_order_b34  (s0 : MoT)   : Option (Int32 × MoT) := some ((-1 : Int32), s0)
def f_X12_order  (s0 : MoT) (x1 : Int32) (x2 : Int32) : Option (Int32 × MoT) := (zlet (Mo_s_thrown s0 (0 : Int32)) fun y1 => ((f_X12_isMan y1 x1).bind fun q2 => (if q2 = 0 then f_X12_order_b34 y1 else ((f_X12_isIn x2 (0 : Int32) (20 : Int32)).bind fun q3 => (if q3 = 0 then f_X12_order_b34 y1 else ((f_X12_act y1 (1 : Int32) x1 x2 (0 : Int32)).bind fun q4 => some (q4.1, q4.2)))))))
set_option maxRecDepth 100000 in
set_option maxHeartbeats 4000000 in
theorem t_X12_order_b34 (l : Launch) (G : zj_G) (a0 : Nat → Nat) (W0 : List va_W) (r : Int32 × MoT) (s0 : MoT)    (hf : f_X12_order_b34 s0 = some r) : zj_J l G M_X12_order W0 (zj_ret G M_X12_order W0 (some (.int r.1)) (fun _ => [w_Mo G a0 r.2])) 0 0 [w_Mo G a0 s0] [none, none, none] 34 [] := by
  unfold f_X12_order_b34 at hf
  refine zr_run [(.iconst (-1), 0, 0, 0, .int (-1 : Int32))] [] (WW' := [w_Mo G a0 s0]) (lv' := [none, none, none]) (pc' := 35) (st' := [.int (-1 : Int32)]) (by decide +kernel) rfl rfl ⟨trivial, trivial⟩ ?_
  obtain rfl := Option.some.inj hf
  exact zr_iret (b0 := fun _ => 0) (by decide +kernel) rfl rfl rfl rfl rfl
set_option maxRecDepth 100000 in
set_option maxHeartbeats 4000000 in
theorem c_X12_order (l : Launch) (G : zj_G) (a0 : Nat → Nat) (s0 : MoT) (x1 : Int32) (x2 : Int32) (r : Int32 × MoT) (hf : f_X12_order s0 x1 x2 = some r) : zj_C l G M_X12_order yX12_order [w_Mo G a0 s0] [.ref (a0 0), .int x1, .int x2] (some (.int r.1)) (fun _ => [w_Mo G a0 r.2]) := by
  have key : ∀ W0 : List va_W, zj_J l G M_X12_order W0 (zj_ret G M_X12_order W0 (some (.int r.1)) (fun _ => [w_Mo G a0 r.2])) 0 0 [w_Mo G a0 s0] [some (.ref (a0 0)), some (.int x1), some (.int x2)] 0 [] := by
    intro W0
    unfold f_X12_order at hf
    obtain ⟨y1, e1, hf⟩ := zlet_of hf
    refine zr_run [(.aload_n 0, 0, 0, 0, .null), (.iconst 0, 0, 0, 0, .int (0 : Int32)), (.putfield 91, 0, 0, 0, .null)] [] (WW' := [w_Mo G a0 (Mo_s_thrown s0 (0 : Int32))]) (lv' := [some (.ref (a0 0)), some (.int x1), some (.int x2)]) (pc' := 5) (st' := []) (by decide +kernel) rfl rfl ⟨trivial, trivial, ⟨rfl, rfl, rfl, trivial, rfl, rfl, zw_6_29⟩, trivial⟩ ?_
    refine zr_eq (WW2 := [w_Mo G a0 y1]) (lv2 := [some (.ref (a0 0)), some (.int x1), some (.int x2)]) (st2 := []) (by rw [e1]) rfl rfl ?_
    obtain ⟨q2, e2, hf⟩ := zbi_of hf
    refine zr_run [(.aload_n 0, 0, 0, 0, .null), (.iload_n 1, 0, 0, 0, .null)] [] (WW' := [w_Mo G a0 y1]) (lv' := [some (.ref (a0 0)), some (.int x1), some (.int x2)]) (pc' := 7) (st' := [.int x1, .ref (a0 0)]) (by decide +kernel) rfl rfl ⟨trivial, trivial, trivial⟩ ?_
    refine zr_callV (c_X12_isMan l G a0 y1 x1 q2 e2) (WW' := fun _ => [w_Mo G a0 y1]) (st := []) (st' := [.int q2]) [0] rfl rfl (fun _ => Nat.le_of_ble_eq_true rfl) (fun _ => rfl) rfl rfl nm_X12_isMan zw_7_128 zw_7_130 zw_0_76 zw_1_18 zw_7_131 rfl rfl rfl (Nat.le_of_ble_eq_true rfl) ⟨Nat.le_of_ble_eq_true rfl, Nat.le_of_ble_eq_true rfl⟩ (by decide +kernel) (fun _ => ?_)
    refine zr_if_eq (off := 24) (tgt := 34) (by decide +kernel) (by decide) (fun hc => ?_) (fun hc => ?_)
    · have hf := zift hf hc
      refine zr_run [] [0, 1, 2] (WW' := [w_Mo G a0 y1]) (lv' := [none, none, none]) (pc' := 34) (st' := []) (by decide +kernel) rfl rfl trivial ?_
      exact t_X12_order_b34 l G a0 W0 r y1 hf
    · have hf := ziff hf hc
      obtain ⟨q3, e3, hf⟩ := zbi_of hf
      refine zr_run [(.iload_n 2, 0, 0, 0, .null), (.iconst 0, 0, 0, 0, .int (0 : Int32)), (.bipush 20, 0, 0, 0, .int (20 : Int32))] [] (WW' := [w_Mo G a0 y1]) (lv' := [some (.ref (a0 0)), some (.int x1), some (.int x2)]) (pc' := 17) (st' := [.int (20 : Int32), .int (0 : Int32), .int x2]) (by decide +kernel) rfl rfl ⟨trivial, trivial, trivial, trivial⟩ ?_
      refine zr_callS (c_X12_isIn l G x2 (0 : Int32) (20 : Int32) q3 e3) (WW' := fun _ => [w_Mo G a0 y1]) (st := []) (st' := [.int q3]) [] rfl rfl (fun _ => Nat.le_of_ble_eq_true rfl) (fun _ => rfl) rfl rfl nm_X12_isIn zw_7_38 zw_7_39 zw_1_18 zw_7_40 rfl (Nat.le_of_ble_eq_true rfl) ⟨Nat.le_of_ble_eq_true rfl, Nat.le_of_ble_eq_true rfl⟩ (by decide +kernel) (fun _ => ?_)
      refine zr_if_eq (off := 14) (tgt := 34) (by decide +kernel) (by decide) (fun hc => ?_) (fun hc => ?_)
      · have hf := zift hf hc
        refine zr_run [] [0, 1, 2] (WW' := [w_Mo G a0 y1]) (lv' := [none, none, none]) (pc' := 34) (st' := []) (by decide +kernel) rfl rfl trivial ?_
        exact t_X12_order_b34 l G a0 W0 r y1 hf
      · have hf := ziff hf hc
        obtain ⟨q4, e4, hf⟩ := zbi_of hf
        refine zr_run [(.aload_n 0, 0, 0, 0, .null), (.iconst 1, 0, 0, 0, .int (1 : Int32)), (.iload_n 1, 0, 0, 0, .null), (.iload_n 2, 0, 0, 0, .null), (.iconst 0, 0, 0, 0, .int (0 : Int32))] [] (WW' := [w_Mo G a0 y1]) (lv' := [some (.ref (a0 0)), some (.int x1), some (.int x2)]) (pc' := 28) (st' := [.int (0 : Int32), .int x2, .int x1, .int (1 : Int32), .ref (a0 0)]) (by decide +kernel) rfl rfl ⟨trivial, trivial, trivial, trivial, trivial, trivial⟩ ?_
        refine zr_callV (c_X12_act l G a0 y1 (1 : Int32) x1 x2 (0 : Int32) q4 e4) (WW' := fun _ => [w_Mo G a0 q4.2]) (st := []) (st' := [.int q4.1]) [0] rfl rfl (fun _ => Nat.le_of_ble_eq_true rfl) (fun _ => rfl) rfl rfl nm_X12_act zw_7_156 zw_7_158 zw_0_81 zw_1_18 zw_7_159 rfl rfl rfl (Nat.le_of_ble_eq_true rfl) ⟨Nat.le_of_ble_eq_true rfl, Nat.le_of_ble_eq_true rfl⟩ (by decide +kernel) (fun _ => ?_)
        refine zr_goto (off := 4) (tgt := 35) (by decide +kernel) (by decide) ?_
        obtain rfl := Option.some.inj hf
        exact zr_iret (b0 := fun _ => 0) (by decide +kernel) rfl rfl rfl rfl rfl
  exact zj_entry [some (.ref (a0 0)), some (.int x1), some (.int x2)] (by decide +kernel) rfl (by decide) (Nat.le_of_ble_eq_true rfl) rfl rfl (key _)
def M_X12_slip : zj_M := (RX12, cX12_slip, 2, (some .int), { frames := 7, cells := 0, slots := 0, locals := 162 }, false)
theorem nm_X12_slip : zj_nm yX12_slip 1 := ⟨by decide +kernel, by decide +kernel, by decide +kernel⟩
def f_X12_slip  (s0 : MoT) (x1 : Int32) : Option (Int32 × MoT) := (zlet (Mo_s_thrown s0 (0 : Int32)) fun y1 => ((f_X12_isMan y1 x1).bind fun q2 => (if q2 = 0 then some ((-1 : Int32), y1) else ((f_X12_act y1 (2 : Int32) x1 (0 : Int32) (0 : Int32)).bind fun q3 => some (q3.1, q3.2)))))
set_option maxRecDepth 100000 in
set_option maxHeartbeats 4000000 in
theorem c_X12_slip (l : Launch) (G : zj_G) (a0 : Nat → Nat) (s0 : MoT) (x1 : Int32) (r : Int32 × MoT) (hf : f_X12_slip s0 x1 = some r) : zj_C l G M_X12_slip yX12_slip [w_Mo G a0 s0] [.ref (a0 0), .int x1] (some (.int r.1)) (fun _ => [w_Mo G a0 r.2]) := by
  have key : ∀ W0 : List va_W, zj_J l G M_X12_slip W0 (zj_ret G M_X12_slip W0 (some (.int r.1)) (fun _ => [w_Mo G a0 r.2])) 0 0 [w_Mo G a0 s0] [some (.ref (a0 0)), some (.int x1)] 0 [] := by
    intro W0
    unfold f_X12_slip at hf
    obtain ⟨y1, e1, hf⟩ := zlet_of hf
    refine zr_run [(.aload_n 0, 0, 0, 0, .null), (.iconst 0, 0, 0, 0, .int (0 : Int32)), (.putfield 91, 0, 0, 0, .null)] [] (WW' := [w_Mo G a0 (Mo_s_thrown s0 (0 : Int32))]) (lv' := [some (.ref (a0 0)), some (.int x1)]) (pc' := 5) (st' := []) (by decide +kernel) rfl rfl ⟨trivial, trivial, ⟨rfl, rfl, rfl, trivial, rfl, rfl, zw_6_29⟩, trivial⟩ ?_
    refine zr_eq (WW2 := [w_Mo G a0 y1]) (lv2 := [some (.ref (a0 0)), some (.int x1)]) (st2 := []) (by rw [e1]) rfl rfl ?_
    obtain ⟨q2, e2, hf⟩ := zbi_of hf
    refine zr_run [(.aload_n 0, 0, 0, 0, .null), (.iload_n 1, 0, 0, 0, .null)] [] (WW' := [w_Mo G a0 y1]) (lv' := [some (.ref (a0 0)), some (.int x1)]) (pc' := 7) (st' := [.int x1, .ref (a0 0)]) (by decide +kernel) rfl rfl ⟨trivial, trivial, trivial⟩ ?_
    refine zr_callV (c_X12_isMan l G a0 y1 x1 q2 e2) (WW' := fun _ => [w_Mo G a0 y1]) (st := []) (st' := [.int q2]) [0] rfl rfl (fun _ => Nat.le_of_ble_eq_true rfl) (fun _ => rfl) rfl rfl nm_X12_isMan zw_7_128 zw_7_130 zw_0_76 zw_1_18 zw_7_131 rfl rfl rfl (Nat.le_of_ble_eq_true rfl) ⟨Nat.le_of_ble_eq_true rfl, Nat.le_of_ble_eq_true rfl⟩ (by decide +kernel) (fun _ => ?_)
    refine zr_if_eq (off := 14) (tgt := 24) (by decide +kernel) (by decide) (fun hc => ?_) (fun hc => ?_)
    · have hf := zift hf hc
      refine zr_run [(.iconst (-1), 0, 0, 0, .int (-1 : Int32))] [] (WW' := [w_Mo G a0 y1]) (lv' := [some (.ref (a0 0)), some (.int x1)]) (pc' := 25) (st' := [.int (-1 : Int32)]) (by decide +kernel) rfl rfl ⟨trivial, trivial⟩ ?_
      obtain rfl := Option.some.inj hf
      exact zr_iret (b0 := fun _ => 0) (by decide +kernel) rfl rfl rfl rfl rfl
    · have hf := ziff hf hc
      obtain ⟨q3, e3, hf⟩ := zbi_of hf
      refine zr_run [(.aload_n 0, 0, 0, 0, .null), (.iconst 2, 0, 0, 0, .int (2 : Int32)), (.iload_n 1, 0, 0, 0, .null), (.iconst 0, 0, 0, 0, .int (0 : Int32)), (.iconst 0, 0, 0, 0, .int (0 : Int32))] [] (WW' := [w_Mo G a0 y1]) (lv' := [some (.ref (a0 0)), some (.int x1)]) (pc' := 18) (st' := [.int (0 : Int32), .int (0 : Int32), .int x1, .int (2 : Int32), .ref (a0 0)]) (by decide +kernel) rfl rfl ⟨trivial, trivial, trivial, trivial, trivial, trivial⟩ ?_
      refine zr_callV (c_X12_act l G a0 y1 (2 : Int32) x1 (0 : Int32) (0 : Int32) q3 e3) (WW' := fun _ => [w_Mo G a0 q3.2]) (st := []) (st' := [.int q3.1]) [0] rfl rfl (fun _ => Nat.le_of_ble_eq_true rfl) (fun _ => rfl) rfl rfl nm_X12_act zw_7_156 zw_7_158 zw_0_81 zw_1_18 zw_7_159 rfl rfl rfl (Nat.le_of_ble_eq_true rfl) ⟨Nat.le_of_ble_eq_true rfl, Nat.le_of_ble_eq_true rfl⟩ (by decide +kernel) (fun _ => ?_)
      refine zr_goto (off := 4) (tgt := 25) (by decide +kernel) (by decide) ?_
      obtain rfl := Option.some.inj hf
      exact zr_iret (b0 := fun _ => 0) (by decide +kernel) rfl rfl rfl rfl rfl
  exact zj_entry [some (.ref (a0 0)), some (.int x1)] (by decide +kernel) rfl (by decide) (Nat.le_of_ble_eq_true rfl) rfl rfl (key _)
def M_X12_enter : zj_M := (RX12, cX12_enter, 2, (some .int), { frames := 7, cells := 0, slots := 0, locals := 162 }, false)
theorem nm_X12_enter : zj_nm yX12_enter 1 := ⟨by decide +kernel, by decide +kernel, by decide +kernel⟩
def f_X12_enter  (s0 : MoT) (x1 : Int32) : Option (Int32 × MoT) := (zlet (Mo_s_thrown s0 (0 : Int32)) fun y1 => ((f_X12_isMan y1 x1).bind fun q2 => (if q2 = 0 then some ((-1 : Int32), y1) else ((f_X12_act y1 (3 : Int32) x1 (0 : Int32) (0 : Int32)).bind fun q3 => some (q3.1, q3.2)))))
set_option maxRecDepth 100000 in
set_option maxHeartbeats 4000000 in
theorem c_X12_enter (l : Launch) (G : zj_G) (a0 : Nat → Nat) (s0 : MoT) (x1 : Int32) (r : Int32 × MoT) (hf : f_X12_enter s0 x1 = some r) : zj_C l G M_X12_enter yX12_enter [w_Mo G a0 s0] [.ref (a0 0), .int x1] (some (.int r.1)) (fun _ => [w_Mo G a0 r.2]) := by
  have key : ∀ W0 : List va_W, zj_J l G M_X12_enter W0 (zj_ret G M_X12_enter W0 (some (.int r.1)) (fun _ => [w_Mo G a0 r.2])) 0 0 [w_Mo G a0 s0] [some (.ref (a0 0)), some (.int x1)] 0 [] := by
    intro W0
    unfold f_X12_enter at hf
    obtain ⟨y1, e1, hf⟩ := zlet_of hf
    refine zr_run [(.aload_n 0, 0, 0, 0, .null), (.iconst 0, 0, 0, 0, .int (0 : Int32)), (.putfield 91, 0, 0, 0, .null)] [] (WW' := [w_Mo G a0 (Mo_s_thrown s0 (0 : Int32))]) (lv' := [some (.ref (a0 0)), some (.int x1)]) (pc' := 5) (st' := []) (by decide +kernel) rfl rfl ⟨trivial, trivial, ⟨rfl, rfl, rfl, trivial, rfl, rfl, zw_6_29⟩, trivial⟩ ?_
    refine zr_eq (WW2 := [w_Mo G a0 y1]) (lv2 := [some (.ref (a0 0)), some (.int x1)]) (st2 := []) (by rw [e1]) rfl rfl ?_
    obtain ⟨q2, e2, hf⟩ := zbi_of hf
    refine zr_run [(.aload_n 0, 0, 0, 0, .null), (.iload_n 1, 0, 0, 0, .null)] [] (WW' := [w_Mo G a0 y1]) (lv' := [some (.ref (a0 0)), some (.int x1)]) (pc' := 7) (st' := [.int x1, .ref (a0 0)]) (by decide +kernel) rfl rfl ⟨trivial, trivial, trivial⟩ ?_
    refine zr_callV (c_X12_isMan l G a0 y1 x1 q2 e2) (WW' := fun _ => [w_Mo G a0 y1]) (st := []) (st' := [.int q2]) [0] rfl rfl (fun _ => Nat.le_of_ble_eq_true rfl) (fun _ => rfl) rfl rfl nm_X12_isMan zw_7_128 zw_7_130 zw_0_76 zw_1_18 zw_7_131 rfl rfl rfl (Nat.le_of_ble_eq_true rfl) ⟨Nat.le_of_ble_eq_true rfl, Nat.le_of_ble_eq_true rfl⟩ (by decide +kernel) (fun _ => ?_)
    refine zr_if_eq (off := 14) (tgt := 24) (by decide +kernel) (by decide) (fun hc => ?_) (fun hc => ?_)
    · have hf := zift hf hc
      refine zr_run [(.iconst (-1), 0, 0, 0, .int (-1 : Int32))] [] (WW' := [w_Mo G a0 y1]) (lv' := [some (.ref (a0 0)), some (.int x1)]) (pc' := 25) (st' := [.int (-1 : Int32)]) (by decide +kernel) rfl rfl ⟨trivial, trivial⟩ ?_
      obtain rfl := Option.some.inj hf
      exact zr_iret (b0 := fun _ => 0) (by decide +kernel) rfl rfl rfl rfl rfl
    · have hf := ziff hf hc
      obtain ⟨q3, e3, hf⟩ := zbi_of hf
      refine zr_run [(.aload_n 0, 0, 0, 0, .null), (.iconst 3, 0, 0, 0, .int (3 : Int32)), (.iload_n 1, 0, 0, 0, .null), (.iconst 0, 0, 0, 0, .int (0 : Int32)), (.iconst 0, 0, 0, 0, .int (0 : Int32))] [] (WW' := [w_Mo G a0 y1]) (lv' := [some (.ref (a0 0)), some (.int x1)]) (pc' := 18) (st' := [.int (0 : Int32), .int (0 : Int32), .int x1, .int (3 : Int32), .ref (a0 0)]) (by decide +kernel) rfl rfl ⟨trivial, trivial, trivial, trivial, trivial, trivial⟩ ?_
      refine zr_callV (c_X12_act l G a0 y1 (3 : Int32) x1 (0 : Int32) (0 : Int32) q3 e3) (WW' := fun _ => [w_Mo G a0 q3.2]) (st := []) (st' := [.int q3.1]) [0] rfl rfl (fun _ => Nat.le_of_ble_eq_true rfl) (fun _ => rfl) rfl rfl nm_X12_act zw_7_156 zw_7_158 zw_0_81 zw_1_18 zw_7_159 rfl rfl rfl (Nat.le_of_ble_eq_true rfl) ⟨Nat.le_of_ble_eq_true rfl, Nat.le_of_ble_eq_true rfl⟩ (by decide +kernel) (fun _ => ?_)
      refine zr_goto (off := 4) (tgt := 25) (by decide +kernel) (by decide) ?_
      obtain rfl := Option.some.inj hf
      exact zr_iret (b0 := fun _ => 0) (by decide +kernel) rfl rfl rfl rfl rfl
  exact zj_entry [some (.ref (a0 0)), some (.int x1)] (by decide +kernel) rfl (by decide) (Nat.le_of_ble_eq_true rfl) rfl rfl (key _)
def M_X12_get : zj_M := (RX12, cX12_get, 3, (some .int), { frames := 7, cells := 0, slots := 0, locals := 162 }, false)
theorem nm_X12_get : zj_nm yX12_get 2 := ⟨by decide +kernel, by decide +kernel, by decide +kernel⟩
def f_X12_get_b34  (s0 : MoT)   : Option (Int32 × MoT) := some ((-1 : Int32), s0)
def f_X12_get  (s0 : MoT) (x1 : Int32) (x2 : Int32) : Option (Int32 × MoT) := (zlet (Mo_s_thrown s0 (0 : Int32)) fun y1 => ((f_X12_isMan y1 x1).bind fun q2 => (if q2 = 0 then f_X12_get_b34 y1 else ((f_X12_isIn x2 (1 : Int32) (99 : Int32)).bind fun q3 => (if q3 = 0 then f_X12_get_b34 y1 else ((f_X12_act y1 (4 : Int32) x1 x2 (0 : Int32)).bind fun q4 => some (q4.1, q4.2)))))))
set_option maxRecDepth 100000 in
set_option maxHeartbeats 4000000 in
theorem t_X12_get_b34 (l : Launch) (G : zj_G) (a0 : Nat → Nat) (W0 : List va_W) (r : Int32 × MoT) (s0 : MoT)    (hf : f_X12_get_b34 s0 = some r) : zj_J l G M_X12_get W0 (zj_ret G M_X12_get W0 (some (.int r.1)) (fun _ => [w_Mo G a0 r.2])) 0 0 [w_Mo G a0 s0] [none, none, none] 34 [] := by
  unfold f_X12_get_b34 at hf
  refine zr_run [(.iconst (-1), 0, 0, 0, .int (-1 : Int32))] [] (WW' := [w_Mo G a0 s0]) (lv' := [none, none, none]) (pc' := 35) (st' := [.int (-1 : Int32)]) (by decide +kernel) rfl rfl ⟨trivial, trivial⟩ ?_
  obtain rfl := Option.some.inj hf
  exact zr_iret (b0 := fun _ => 0) (by decide +kernel) rfl rfl rfl rfl rfl
set_option maxRecDepth 100000 in
set_option maxHeartbeats 4000000 in
theorem c_X12_get (l : Launch) (G : zj_G) (a0 : Nat → Nat) (s0 : MoT) (x1 : Int32) (x2 : Int32) (r : Int32 × MoT) (hf : f_X12_get s0 x1 x2 = some r) : zj_C l G M_X12_get yX12_get [w_Mo G a0 s0] [.ref (a0 0), .int x1, .int x2] (some (.int r.1)) (fun _ => [w_Mo G a0 r.2]) := by
  have key : ∀ W0 : List va_W, zj_J l G M_X12_get W0 (zj_ret G M_X12_get W0 (some (.int r.1)) (fun _ => [w_Mo G a0 r.2])) 0 0 [w_Mo G a0 s0] [some (.ref (a0 0)), some (.int x1), some (.int x2)] 0 [] := by
    intro W0
    unfold f_X12_get at hf
    obtain ⟨y1, e1, hf⟩ := zlet_of hf
    refine zr_run [(.aload_n 0, 0, 0, 0, .null), (.iconst 0, 0, 0, 0, .int (0 : Int32)), (.putfield 91, 0, 0, 0, .null)] [] (WW' := [w_Mo G a0 (Mo_s_thrown s0 (0 : Int32))]) (lv' := [some (.ref (a0 0)), some (.int x1), some (.int x2)]) (pc' := 5) (st' := []) (by decide +kernel) rfl rfl ⟨trivial, trivial, ⟨rfl, rfl, rfl, trivial, rfl, rfl, zw_6_29⟩, trivial⟩ ?_
    refine zr_eq (WW2 := [w_Mo G a0 y1]) (lv2 := [some (.ref (a0 0)), some (.int x1), some (.int x2)]) (st2 := []) (by rw [e1]) rfl rfl ?_
    obtain ⟨q2, e2, hf⟩ := zbi_of hf
    refine zr_run [(.aload_n 0, 0, 0, 0, .null), (.iload_n 1, 0, 0, 0, .null)] [] (WW' := [w_Mo G a0 y1]) (lv' := [some (.ref (a0 0)), some (.int x1), some (.int x2)]) (pc' := 7) (st' := [.int x1, .ref (a0 0)]) (by decide +kernel) rfl rfl ⟨trivial, trivial, trivial⟩ ?_
    refine zr_callV (c_X12_isMan l G a0 y1 x1 q2 e2) (WW' := fun _ => [w_Mo G a0 y1]) (st := []) (st' := [.int q2]) [0] rfl rfl (fun _ => Nat.le_of_ble_eq_true rfl) (fun _ => rfl) rfl rfl nm_X12_isMan zw_7_128 zw_7_130 zw_0_76 zw_1_18 zw_7_131 rfl rfl rfl (Nat.le_of_ble_eq_true rfl) ⟨Nat.le_of_ble_eq_true rfl, Nat.le_of_ble_eq_true rfl⟩ (by decide +kernel) (fun _ => ?_)
    refine zr_if_eq (off := 24) (tgt := 34) (by decide +kernel) (by decide) (fun hc => ?_) (fun hc => ?_)
    · have hf := zift hf hc
      refine zr_run [] [0, 1, 2] (WW' := [w_Mo G a0 y1]) (lv' := [none, none, none]) (pc' := 34) (st' := []) (by decide +kernel) rfl rfl trivial ?_
      exact t_X12_get_b34 l G a0 W0 r y1 hf
    · have hf := ziff hf hc
      obtain ⟨q3, e3, hf⟩ := zbi_of hf
      refine zr_run [(.iload_n 2, 0, 0, 0, .null), (.iconst 1, 0, 0, 0, .int (1 : Int32)), (.bipush 99, 0, 0, 0, .int (99 : Int32))] [] (WW' := [w_Mo G a0 y1]) (lv' := [some (.ref (a0 0)), some (.int x1), some (.int x2)]) (pc' := 17) (st' := [.int (99 : Int32), .int (1 : Int32), .int x2]) (by decide +kernel) rfl rfl ⟨trivial, trivial, trivial, trivial⟩ ?_
      refine zr_callS (c_X12_isIn l G x2 (1 : Int32) (99 : Int32) q3 e3) (WW' := fun _ => [w_Mo G a0 y1]) (st := []) (st' := [.int q3]) [] rfl rfl (fun _ => Nat.le_of_ble_eq_true rfl) (fun _ => rfl) rfl rfl nm_X12_isIn zw_7_38 zw_7_39 zw_1_18 zw_7_40 rfl (Nat.le_of_ble_eq_true rfl) ⟨Nat.le_of_ble_eq_true rfl, Nat.le_of_ble_eq_true rfl⟩ (by decide +kernel) (fun _ => ?_)
      refine zr_if_eq (off := 14) (tgt := 34) (by decide +kernel) (by decide) (fun hc => ?_) (fun hc => ?_)
      · have hf := zift hf hc
        refine zr_run [] [0, 1, 2] (WW' := [w_Mo G a0 y1]) (lv' := [none, none, none]) (pc' := 34) (st' := []) (by decide +kernel) rfl rfl trivial ?_
        exact t_X12_get_b34 l G a0 W0 r y1 hf
      · have hf := ziff hf hc
        obtain ⟨q4, e4, hf⟩ := zbi_of hf
        refine zr_run [(.aload_n 0, 0, 0, 0, .null), (.iconst 4, 0, 0, 0, .int (4 : Int32)), (.iload_n 1, 0, 0, 0, .null), (.iload_n 2, 0, 0, 0, .null), (.iconst 0, 0, 0, 0, .int (0 : Int32))] [] (WW' := [w_Mo G a0 y1]) (lv' := [some (.ref (a0 0)), some (.int x1), some (.int x2)]) (pc' := 28) (st' := [.int (0 : Int32), .int x2, .int x1, .int (4 : Int32), .ref (a0 0)]) (by decide +kernel) rfl rfl ⟨trivial, trivial, trivial, trivial, trivial, trivial⟩ ?_
        refine zr_callV (c_X12_act l G a0 y1 (4 : Int32) x1 x2 (0 : Int32) q4 e4) (WW' := fun _ => [w_Mo G a0 q4.2]) (st := []) (st' := [.int q4.1]) [0] rfl rfl (fun _ => Nat.le_of_ble_eq_true rfl) (fun _ => rfl) rfl rfl nm_X12_act zw_7_156 zw_7_158 zw_0_81 zw_1_18 zw_7_159 rfl rfl rfl (Nat.le_of_ble_eq_true rfl) ⟨Nat.le_of_ble_eq_true rfl, Nat.le_of_ble_eq_true rfl⟩ (by decide +kernel) (fun _ => ?_)
        refine zr_goto (off := 4) (tgt := 35) (by decide +kernel) (by decide) ?_
        obtain rfl := Option.some.inj hf
        exact zr_iret (b0 := fun _ => 0) (by decide +kernel) rfl rfl rfl rfl rfl
  exact zj_entry [some (.ref (a0 0)), some (.int x1), some (.int x2)] (by decide +kernel) rfl (by decide) (Nat.le_of_ble_eq_true rfl) rfl rfl (key _)
def M_X12_undo : zj_M := (RX12, cX12_undo, 2, (some .int), { frames := 0, cells := 0, slots := 0, locals := 0 }, false)
theorem nm_X12_undo : zj_nm yX12_undo 0 := ⟨by decide +kernel, by decide +kernel, by decide +kernel⟩
def f_X12_undo_H26  (s0 : MoT) (k26 : MoT → Int32 → Option (Int32 × MoT)) (x1 : Int32) : Option (Int32 × MoT) := (if x1 < (73 : Int32) then (if zb_in (((73 : Int32) * (Mo_snapMany s0)) + x1) 584 = true then (zlet ((Mo_snaps s0) (((73 : Int32) * (Mo_snapMany s0)) + x1).toNatClampNeg) fun y4 => (if zb_in ((443 : Int32) + x1) 758 = true then (zlet (Mo_s_now s0 ((upd (Mo_now s0) ((443 : Int32) + x1).toNatClampNeg y4))) fun y6 => k26 y6 (x1 + (1 : Int32))) else none)) else none) else some ((Mo_snapMany s0), s0))
def f_X12_undo_L26    : Nat → MoT → Int32 → Option (Int32 × MoT)
  | 0 => fun _ _ => none
  | n + 1 => fun s0 x1 => f_X12_undo_H26 s0 (f_X12_undo_L26  n) x1
def f_X12_undo  (s0 : MoT)  : Option (Int32 × MoT) := (zlet (Mo_s_thrown s0 (0 : Int32)) fun y1 => (if (Mo_snapMany y1) = 0 then some ((-1 : Int32), y1) else (zlet (Mo_s_snapMany y1 ((Mo_snapMany y1) - (1 : Int32))) fun y2 => f_X12_undo_L26 zFU y2 (0 : Int32))))
set_option maxRecDepth 100000 in
set_option maxHeartbeats 4000000 in
theorem t_X12_undo_H26 (l : Launch) (G : zj_G) (a0 : Nat → Nat) (W0 : List va_W) (r : Int32 × MoT) (s0 : MoT) (k26 : MoT → Int32 → Option (Int32 × MoT)) (hk26 : ∀ (s0 : MoT) (x1 : Int32), k26 s0 x1 = some r → zj_J l G M_X12_undo W0 (zj_ret G M_X12_undo W0 (some (.int r.1)) (fun _ => [w_Mo G a0 r.2])) 0 0 [w_Mo G a0 s0] [some (.ref (a0 0)), some (.int x1)] 26 []) (x1 : Int32) (hf : f_X12_undo_H26 s0 k26 x1 = some r) : zj_J l G M_X12_undo W0 (zj_ret G M_X12_undo W0 (some (.int r.1)) (fun _ => [w_Mo G a0 r.2])) 0 0 [w_Mo G a0 s0] [some (.ref (a0 0)), some (.int x1)] 26 [] := by
  unfold f_X12_undo_H26 at hf
  refine zr_run [(.iload_n 1, 0, 0, 0, .null), (.bipush 73, 0, 0, 0, .int (73 : Int32))] [] (WW' := [w_Mo G a0 s0]) (lv' := [some (.ref (a0 0)), some (.int x1)]) (pc' := 29) (st' := [.int (73 : Int32), .int x1]) (by decide +kernel) rfl rfl ⟨trivial, trivial, trivial⟩ ?_
  refine zr_icmp_ge (off := 33) (tgt := 62) (by decide +kernel) (by decide) (fun hc => ?_) (fun hc => ?_)
  · have hf := zift hf hc
    obtain ⟨h3, hf⟩ := zck_of hf
    obtain ⟨y4, e4, hf⟩ := zlet_of hf
    refine zr_run [(.aload_n 0, 0, 0, 0, .null), (.getfield 13, 0, 0, 14, .null), (.sipush 443, 0, 0, 0, .int (443 : Int32)), (.iload_n 1, 0, 0, 0, .null), (.iadd, 0, 0, 0, .null), (.aload_n 0, 0, 0, 0, .null), (.getfield 22, 0, 0, 17, .null), (.bipush 73, 0, 0, 0, .int (73 : Int32)), (.aload_n 0, 0, 0, 0, .null), (.getfield 241, 0, 0, 23, .null), (.imul, 0, 0, 0, .null), (.iload_n 1, 0, 0, 0, .null), (.iadd, 0, 0, 0, .null), (.iaload, 0, 5, 0, .null)] [] (WW' := [w_Mo G a0 s0]) (lv' := [some (.ref (a0 0)), some (.int x1)]) (pc' := 55) (st' := [.int ((Mo_snaps s0) (((73 : Int32) * (Mo_snapMany s0)) + x1).toNatClampNeg), .int ((443 : Int32) + x1), .ref (a0 2)]) (by decide +kernel) rfl rfl ⟨trivial, ⟨rfl, rfl, zw_6_43⟩, trivial, trivial, trivial, trivial, ⟨rfl, rfl, zw_6_46⟩, trivial, trivial, ⟨rfl, rfl, zw_6_52⟩, trivial, trivial, trivial, ⟨rfl, rfl, h3⟩, trivial⟩ ?_
    refine zr_eq (WW2 := [w_Mo G a0 s0]) (lv2 := [some (.ref (a0 0)), some (.int x1)]) (st2 := [.int y4, .int ((443 : Int32) + x1), .ref (a0 2)]) rfl rfl (by rw [e4]) ?_
    obtain ⟨h5, hf⟩ := zck_of hf
    obtain ⟨y6, e6, hf⟩ := zlet_of hf
    refine zr_run [(.iastore, 0, 2, 0, .null)] [] (WW' := [w_Mo G a0 (Mo_s_now s0 ((upd (Mo_now s0) ((443 : Int32) + x1).toNatClampNeg y4)))]) (lv' := [some (.ref (a0 0)), some (.int x1)]) (pc' := 56) (st' := []) (by decide +kernel) rfl rfl ⟨⟨rfl, rfl, h5⟩, trivial⟩ ?_
    refine zr_eq (WW2 := [w_Mo G a0 y6]) (lv2 := [some (.ref (a0 0)), some (.int x1)]) (st2 := []) (by rw [e6]) rfl rfl ?_
    refine zr_run [(.iinc 1 1, 0, 0, 0, .int (1 : Int32))] [] (WW' := [w_Mo G a0 y6]) (lv' := [some (.ref (a0 0)), some (.int (x1 + (1 : Int32)))]) (pc' := 59) (st' := []) (by decide +kernel) rfl rfl ⟨trivial, trivial⟩ ?_
    refine zr_goto (off := -33) (tgt := 26) (by decide +kernel) (by decide) ?_
    exact hk26 y6 (x1 + (1 : Int32)) hf
  · have hf := ziff hf hc
    refine zr_run [(.aload_n 0, 0, 0, 0, .null), (.getfield 241, 0, 0, 23, .null)] [] (WW' := [w_Mo G a0 s0]) (lv' := [some (.ref (a0 0)), some (.int x1)]) (pc' := 66) (st' := [.int (Mo_snapMany s0)]) (by decide +kernel) rfl rfl ⟨trivial, ⟨rfl, rfl, zw_6_52⟩, trivial⟩ ?_
    obtain rfl := Option.some.inj hf
    exact zr_iret (b0 := fun _ => 0) (by decide +kernel) rfl rfl rfl rfl rfl
theorem t_X12_undo_L26 (l : Launch) (G : zj_G) (a0 : Nat → Nat) (W0 : List va_W) (r : Int32 × MoT)    : ∀ (n : Nat) (s0 : MoT) (x1 : Int32), f_X12_undo_L26 n s0 x1 = some r → zj_J l G M_X12_undo W0 (zj_ret G M_X12_undo W0 (some (.int r.1)) (fun _ => [w_Mo G a0 r.2])) 0 0 [w_Mo G a0 s0] [some (.ref (a0 0)), some (.int x1)] 26 [] := by
  intro n
  induction n with
  | zero => intro s0 x1 hf; exact nomatch (show none = some r from hf)
  | succ n ih => intro s0 x1 hf; exact t_X12_undo_H26 l G a0 W0 r s0  (f_X12_undo_L26 n)  ih x1  hf
set_option maxRecDepth 100000 in
set_option maxHeartbeats 4000000 in
theorem c_X12_undo (l : Launch) (G : zj_G) (a0 : Nat → Nat) (s0 : MoT)  (r : Int32 × MoT) (hf : f_X12_undo s0 = some r) : zj_C l G M_X12_undo yX12_undo [w_Mo G a0 s0] [.ref (a0 0)] (some (.int r.1)) (fun _ => [w_Mo G a0 r.2]) := by
  have key : ∀ W0 : List va_W, zj_J l G M_X12_undo W0 (zj_ret G M_X12_undo W0 (some (.int r.1)) (fun _ => [w_Mo G a0 r.2])) 0 0 [w_Mo G a0 s0] [some (.ref (a0 0)), none] 0 [] := by
    intro W0
    unfold f_X12_undo at hf
    obtain ⟨y1, e1, hf⟩ := zlet_of hf
    refine zr_run [(.aload_n 0, 0, 0, 0, .null), (.iconst 0, 0, 0, 0, .int (0 : Int32)), (.putfield 91, 0, 0, 0, .null)] [] (WW' := [w_Mo G a0 (Mo_s_thrown s0 (0 : Int32))]) (lv' := [some (.ref (a0 0)), none]) (pc' := 5) (st' := []) (by decide +kernel) rfl rfl ⟨trivial, trivial, ⟨rfl, rfl, rfl, trivial, rfl, rfl, zw_6_29⟩, trivial⟩ ?_
    refine zr_eq (WW2 := [w_Mo G a0 y1]) (lv2 := [some (.ref (a0 0)), none]) (st2 := []) (by rw [e1]) rfl rfl ?_
    refine zr_run [(.aload_n 0, 0, 0, 0, .null), (.getfield 241, 0, 0, 23, .null)] [] (WW' := [w_Mo G a0 y1]) (lv' := [some (.ref (a0 0)), none]) (pc' := 9) (st' := [.int (Mo_snapMany y1)]) (by decide +kernel) rfl rfl ⟨trivial, ⟨rfl, rfl, zw_6_52⟩, trivial⟩ ?_
    refine zr_if_ne (off := 5) (tgt := 14) (by decide +kernel) (by decide) (fun hc => ?_) (fun hc => ?_)
    · have hf := zift hf hc
      refine zr_run [(.iconst (-1), 0, 0, 0, .int (-1 : Int32))] [] (WW' := [w_Mo G a0 y1]) (lv' := [some (.ref (a0 0)), none]) (pc' := 13) (st' := [.int (-1 : Int32)]) (by decide +kernel) rfl rfl ⟨trivial, trivial⟩ ?_
      obtain rfl := Option.some.inj hf
      exact zr_iret (b0 := fun _ => 0) (by decide +kernel) rfl rfl rfl rfl rfl
    · have hf := ziff hf hc
      obtain ⟨y2, e2, hf⟩ := zlet_of hf
      refine zr_run [(.aload_n 0, 0, 0, 0, .null), (.dup, 0, 0, 0, .null), (.getfield 241, 0, 0, 23, .null), (.iconst 1, 0, 0, 0, .int (1 : Int32)), (.isub, 0, 0, 0, .null), (.putfield 241, 0, 0, 23, .null)] [] (WW' := [w_Mo G a0 (Mo_s_snapMany y1 ((Mo_snapMany y1) - (1 : Int32)))]) (lv' := [some (.ref (a0 0)), none]) (pc' := 24) (st' := []) (by decide +kernel) rfl rfl ⟨trivial, trivial, ⟨rfl, rfl, zw_6_52⟩, trivial, trivial, ⟨rfl, rfl, rfl, trivial, rfl, rfl, zw_6_52⟩, trivial⟩ ?_
      refine zr_eq (WW2 := [w_Mo G a0 y2]) (lv2 := [some (.ref (a0 0)), none]) (st2 := []) (by rw [e2]) rfl rfl ?_
      refine zr_run [(.iconst 0, 0, 0, 0, .int (0 : Int32)), (.istore_n 1, 0, 0, 0, .null)] [] (WW' := [w_Mo G a0 y2]) (lv' := [some (.ref (a0 0)), some (.int (0 : Int32))]) (pc' := 26) (st' := []) (by decide +kernel) rfl rfl ⟨trivial, trivial, trivial⟩ ?_
      exact t_X12_undo_L26 l G a0 W0 r zFU y2 (0 : Int32) hf
  exact zj_entry [some (.ref (a0 0)), none] (by decide +kernel) rfl (by decide) (Nat.le_of_ble_eq_true rfl) rfl rfl (key _)
def M_X12_draw : zj_M := (RX12, cX12_draw, 2, (some .int), { frames := 0, cells := 0, slots := 0, locals := 0 }, false)
theorem nm_X12_draw : zj_nm yX12_draw 1 := ⟨by decide +kernel, by decide +kernel, by decide +kernel⟩
def f_X12_draw  (s0 : MoT) (x1 : Int32) : Option (Int32 × MoT) := (zlet (((Mo_seed s0) * (1103515245 : Int32)) + (12345 : Int32)) fun y1 => (zlet (Mo_s_seed s0 y1) fun y2 => (if zb_nz x1 = true then some ((zr_rem (zr_ushr (Mo_seed y2) (8 : Int32)) x1), y2) else none)))
set_option maxRecDepth 100000 in
set_option maxHeartbeats 4000000 in
theorem c_X12_draw (l : Launch) (G : zj_G) (a0 : Nat → Nat) (s0 : MoT) (x1 : Int32) (r : Int32 × MoT) (hf : f_X12_draw s0 x1 = some r) : zj_C l G M_X12_draw yX12_draw [w_Mo G a0 s0] [.ref (a0 0), .int x1] (some (.int r.1)) (fun _ => [w_Mo G a0 r.2]) := by
  have key : ∀ W0 : List va_W, zj_J l G M_X12_draw W0 (zj_ret G M_X12_draw W0 (some (.int r.1)) (fun _ => [w_Mo G a0 r.2])) 0 0 [w_Mo G a0 s0] [some (.ref (a0 0)), some (.int x1)] 0 [] := by
    intro W0
    unfold f_X12_draw at hf
    obtain ⟨y1, e1, hf⟩ := zlet_of hf
    refine zr_run [(.aload_n 0, 0, 0, 0, .null), (.aload_n 0, 0, 0, 0, .null), (.getfield 311, 0, 0, 26, .null), (.ldc_w 314, 0, 0, 0, .int (1103515245 : Int32)), (.imul, 0, 0, 0, .null), (.sipush 12345, 0, 0, 0, .int (12345 : Int32)), (.iadd, 0, 0, 0, .null)] [] (WW' := [w_Mo G a0 s0]) (lv' := [some (.ref (a0 0)), some (.int x1)]) (pc' := 13) (st' := [.int (((Mo_seed s0) * (1103515245 : Int32)) + (12345 : Int32)), .ref (a0 0)]) (by decide +kernel) rfl rfl ⟨trivial, trivial, ⟨rfl, rfl, zw_6_55⟩, zw_7_228, trivial, trivial, trivial, trivial⟩ ?_
    refine zr_eq (WW2 := [w_Mo G a0 s0]) (lv2 := [some (.ref (a0 0)), some (.int x1)]) (st2 := [.int y1, .ref (a0 0)]) rfl rfl (by rw [e1]) ?_
    obtain ⟨y2, e2, hf⟩ := zlet_of hf
    refine zr_run [(.putfield 311, 0, 0, 26, .null)] [] (WW' := [w_Mo G a0 (Mo_s_seed s0 y1)]) (lv' := [some (.ref (a0 0)), some (.int x1)]) (pc' := 16) (st' := []) (by decide +kernel) rfl rfl ⟨⟨rfl, rfl, rfl, trivial, rfl, rfl, zw_6_55⟩, trivial⟩ ?_
    refine zr_eq (WW2 := [w_Mo G a0 y2]) (lv2 := [some (.ref (a0 0)), some (.int x1)]) (st2 := []) (by rw [e2]) rfl rfl ?_
    obtain ⟨h3, hf⟩ := zck_of hf
    refine zr_run [(.aload_n 0, 0, 0, 0, .null), (.getfield 311, 0, 0, 26, .null), (.bipush 8, 0, 0, 0, .int (8 : Int32)), (.iushr, 0, 0, 0, .null), (.iload_n 1, 0, 0, 0, .null), (.irem, 0, 0, 0, .null)] [] (WW' := [w_Mo G a0 y2]) (lv' := [some (.ref (a0 0)), some (.int x1)]) (pc' := 25) (st' := [.int (zr_rem (zr_ushr (Mo_seed y2) (8 : Int32)) x1)]) (by decide +kernel) rfl rfl ⟨trivial, ⟨rfl, rfl, zw_6_55⟩, trivial, trivial, trivial, h3, trivial⟩ ?_
    obtain rfl := Option.some.inj hf
    exact zr_iret (b0 := fun _ => 0) (by decide +kernel) rfl rfl rfl rfl rfl
  exact zj_entry [some (.ref (a0 0)), some (.int x1)] (by decide +kernel) rfl (by decide) (Nat.le_of_ble_eq_true rfl) rfl rfl (key _)
def M_X12_waits : zj_M := (RX12, cX12_waits, 4, none, { frames := 1, cells := 0, slots := 0, locals := 21 }, false)
theorem nm_X12_waits : zj_nm yX12_waits 1 := ⟨by decide +kernel, by decide +kernel, by decide +kernel⟩
def f_X12_waits_b97  (s0 : MoT)  (x1 : Int32) : Option (MoT) := (if zb_in ((504 : Int32) + x1) 758 = true then (if zb_in ((504 : Int32) + x1) 758 = true then (zlet (Mo_s_now s0 ((upd (Mo_now s0) ((504 : Int32) + x1).toNatClampNeg (((Mo_now s0) ((504 : Int32) + x1).toNatClampNeg) + (1 : Int32))))) fun y6 => some y6) else none) else none)
def f_X12_waits_b34  (s0 : MoT)  (x1 : Int32) (x2 : Int32) (z0 : Int32) : Option (MoT) := (if z0 = 0 then f_X12_waits_b97 s0 x1 else (if zb_in ((450 : Int32) + x1) 758 = true then (if zb_in ((24 : Int32) + x2) 758 = true then (if ((Mo_now s0) ((450 : Int32) + x1).toNatClampNeg) < ((Mo_now s0) ((24 : Int32) + x2).toNatClampNeg) then f_X12_waits_b97 s0 x1 else (if zb_in ((450 : Int32) + x1) 758 = true then (if zb_in ((24 : Int32) + x2) 758 = true then (if zb_in ((450 : Int32) + x1) 758 = true then (zlet (Mo_s_now s0 ((upd (Mo_now s0) ((450 : Int32) + x1).toNatClampNeg (((Mo_now s0) ((450 : Int32) + x1).toNatClampNeg) - ((Mo_now s0) ((24 : Int32) + x2).toNatClampNeg))))) fun y12 => (if zb_in ((444 : Int32) + x1) 758 = true then (zlet (Mo_s_now y12 ((upd (Mo_now y12) ((444 : Int32) + x1).toNatClampNeg (3 : Int32)))) fun y14 => some y14) else none)) else none) else none) else none)) else none) else none))
def f_X12_waits  (s0 : MoT) (x1 : Int32) : Option (MoT) := (if zb_in ((462 : Int32) + x1) 758 = true then ((f_X12_draw s0 (12 : Int32)).bind fun q2 => (if zb_in ((14 : Int32) + ((Mo_now s0) ((462 : Int32) + x1).toNatClampNeg)) 758 = true then (if q2.1 < ((Mo_now q2.2) ((14 : Int32) + ((Mo_now s0) ((462 : Int32) + x1).toNatClampNeg)).toNatClampNeg) then f_X12_waits_b34 q2.2 x1 ((Mo_now s0) ((462 : Int32) + x1).toNatClampNeg) (1 : Int32) else f_X12_waits_b34 q2.2 x1 ((Mo_now s0) ((462 : Int32) + x1).toNatClampNeg) (0 : Int32)) else none)) else none)
set_option maxRecDepth 100000 in
set_option maxHeartbeats 4000000 in
theorem t_X12_waits_b97 (l : Launch) (G : zj_G) (a0 : Nat → Nat) (W0 : List va_W) (r : MoT) (s0 : MoT)   (x1 : Int32) (hf : f_X12_waits_b97 s0 x1 = some r) : zj_J l G M_X12_waits W0 (zj_ret G M_X12_waits W0 (none) (fun _ => [w_Mo G a0 r])) 0 0 [w_Mo G a0 s0] [some (.ref (a0 0)), some (.int x1), none, none] 97 [] := by
  unfold f_X12_waits_b97 at hf
  obtain ⟨h4, hf⟩ := zck_of hf
  obtain ⟨h5, hf⟩ := zck_of hf
  obtain ⟨y6, e6, hf⟩ := zlet_of hf
  refine zr_run [(.aload_n 0, 0, 0, 0, .null), (.getfield 13, 0, 0, 14, .null), (.sipush 504, 0, 0, 0, .int (504 : Int32)), (.iload_n 1, 0, 0, 0, .null), (.iadd, 0, 0, 0, .null), (.dup2, 0, 0, 0, .null), (.iaload, 0, 2, 0, .null), (.iconst 1, 0, 0, 0, .int (1 : Int32)), (.iadd, 0, 0, 0, .null), (.iastore, 0, 2, 0, .null)] [] (WW' := [w_Mo G a0 (Mo_s_now s0 ((upd (Mo_now s0) ((504 : Int32) + x1).toNatClampNeg (((Mo_now s0) ((504 : Int32) + x1).toNatClampNeg) + (1 : Int32)))))]) (lv' := [some (.ref (a0 0)), some (.int x1), none, none]) (pc' := 111) (st' := []) (by decide +kernel) rfl rfl ⟨trivial, ⟨rfl, rfl, zw_6_43⟩, trivial, trivial, trivial, trivial, ⟨rfl, rfl, h4⟩, trivial, trivial, ⟨rfl, rfl, h5⟩, trivial⟩ ?_
  refine zr_eq (WW2 := [w_Mo G a0 y6]) (lv2 := [some (.ref (a0 0)), some (.int x1), none, none]) (st2 := []) (by rw [e6]) rfl rfl ?_
  obtain rfl := Option.some.inj hf
  exact zr_vret (b0 := fun _ => 0) (by decide +kernel) rfl rfl rfl rfl rfl
set_option maxRecDepth 100000 in
set_option maxHeartbeats 4000000 in
theorem t_X12_waits_b34 (l : Launch) (G : zj_G) (a0 : Nat → Nat) (W0 : List va_W) (r : MoT) (s0 : MoT)   (x1 : Int32) (x2 : Int32) (z0 : Int32) (hf : f_X12_waits_b34 s0 x1 x2 z0 = some r) : zj_J l G M_X12_waits W0 (zj_ret G M_X12_waits W0 (none) (fun _ => [w_Mo G a0 r])) 0 0 [w_Mo G a0 s0] [some (.ref (a0 0)), some (.int x1), some (.int x2), none] 34 [.int z0] := by
  unfold f_X12_waits_b34 at hf
  refine zr_run [(.istore_n 3, 0, 0, 0, .null), (.iload_n 3, 0, 0, 0, .null)] [] (WW' := [w_Mo G a0 s0]) (lv' := [some (.ref (a0 0)), some (.int x1), some (.int x2), some (.int z0)]) (pc' := 36) (st' := [.int z0]) (by decide +kernel) rfl rfl ⟨trivial, trivial, trivial⟩ ?_
  refine zr_if_eq (off := 61) (tgt := 97) (by decide +kernel) (by decide) (fun hc => ?_) (fun hc => ?_)
  · have hf := zift hf hc
    refine zr_run [] [2, 3] (WW' := [w_Mo G a0 s0]) (lv' := [some (.ref (a0 0)), some (.int x1), none, none]) (pc' := 97) (st' := []) (by decide +kernel) rfl rfl trivial ?_
    exact t_X12_waits_b97 l G a0 W0 r s0 x1 hf
  · have hf := ziff hf hc
    obtain ⟨h7, hf⟩ := zck_of hf
    obtain ⟨h8, hf⟩ := zck_of hf
    refine zr_run [(.aload_n 0, 0, 0, 0, .null), (.getfield 13, 0, 0, 14, .null), (.sipush 450, 0, 0, 0, .int (450 : Int32)), (.iload_n 1, 0, 0, 0, .null), (.iadd, 0, 0, 0, .null), (.iaload, 0, 2, 0, .null), (.aload_n 0, 0, 0, 0, .null), (.getfield 13, 0, 0, 14, .null), (.bipush 24, 0, 0, 0, .int (24 : Int32)), (.iload_n 2, 0, 0, 0, .null), (.iadd, 0, 0, 0, .null), (.iaload, 0, 2, 0, .null)] [] (WW' := [w_Mo G a0 s0]) (lv' := [some (.ref (a0 0)), some (.int x1), some (.int x2), some (.int z0)]) (pc' := 58) (st' := [.int ((Mo_now s0) ((24 : Int32) + x2).toNatClampNeg), .int ((Mo_now s0) ((450 : Int32) + x1).toNatClampNeg)]) (by decide +kernel) rfl rfl ⟨trivial, ⟨rfl, rfl, zw_6_43⟩, trivial, trivial, trivial, ⟨rfl, rfl, h7⟩, trivial, ⟨rfl, rfl, zw_6_43⟩, trivial, trivial, trivial, ⟨rfl, rfl, h8⟩, trivial⟩ ?_
    refine zr_icmp_lt (off := 39) (tgt := 97) (by decide +kernel) (by decide) (fun hc => ?_) (fun hc => ?_)
    · have hf := zift hf hc
      refine zr_run [] [2, 3] (WW' := [w_Mo G a0 s0]) (lv' := [some (.ref (a0 0)), some (.int x1), none, none]) (pc' := 97) (st' := []) (by decide +kernel) rfl rfl trivial ?_
      exact t_X12_waits_b97 l G a0 W0 r s0 x1 hf
    · have hf := ziff hf hc
      obtain ⟨h9, hf⟩ := zck_of hf
      obtain ⟨h10, hf⟩ := zck_of hf
      obtain ⟨h11, hf⟩ := zck_of hf
      obtain ⟨y12, e12, hf⟩ := zlet_of hf
      refine zr_run [(.aload_n 0, 0, 0, 0, .null), (.getfield 13, 0, 0, 14, .null), (.sipush 450, 0, 0, 0, .int (450 : Int32)), (.iload_n 1, 0, 0, 0, .null), (.iadd, 0, 0, 0, .null), (.dup2, 0, 0, 0, .null), (.iaload, 0, 2, 0, .null), (.aload_n 0, 0, 0, 0, .null), (.getfield 13, 0, 0, 14, .null), (.bipush 24, 0, 0, 0, .int (24 : Int32)), (.iload_n 2, 0, 0, 0, .null), (.iadd, 0, 0, 0, .null), (.iaload, 0, 2, 0, .null), (.isub, 0, 0, 0, .null), (.iastore, 0, 2, 0, .null)] [] (WW' := [w_Mo G a0 (Mo_s_now s0 ((upd (Mo_now s0) ((450 : Int32) + x1).toNatClampNeg (((Mo_now s0) ((450 : Int32) + x1).toNatClampNeg) - ((Mo_now s0) ((24 : Int32) + x2).toNatClampNeg)))))]) (lv' := [some (.ref (a0 0)), some (.int x1), some (.int x2), some (.int z0)]) (pc' := 83) (st' := []) (by decide +kernel) rfl rfl ⟨trivial, ⟨rfl, rfl, zw_6_43⟩, trivial, trivial, trivial, trivial, ⟨rfl, rfl, h9⟩, trivial, ⟨rfl, rfl, zw_6_43⟩, trivial, trivial, trivial, ⟨rfl, rfl, h10⟩, trivial, ⟨rfl, rfl, h11⟩, trivial⟩ ?_
      refine zr_eq (WW2 := [w_Mo G a0 y12]) (lv2 := [some (.ref (a0 0)), some (.int x1), some (.int x2), some (.int z0)]) (st2 := []) (by rw [e12]) rfl rfl ?_
      obtain ⟨h13, hf⟩ := zck_of hf
      obtain ⟨y14, e14, hf⟩ := zlet_of hf
      refine zr_run [(.aload_n 0, 0, 0, 0, .null), (.getfield 13, 0, 0, 14, .null), (.sipush 444, 0, 0, 0, .int (444 : Int32)), (.iload_n 1, 0, 0, 0, .null), (.iadd, 0, 0, 0, .null), (.iconst 3, 0, 0, 0, .int (3 : Int32)), (.iastore, 0, 2, 0, .null)] [] (WW' := [w_Mo G a0 (Mo_s_now y12 ((upd (Mo_now y12) ((444 : Int32) + x1).toNatClampNeg (3 : Int32))))]) (lv' := [some (.ref (a0 0)), some (.int x1), some (.int x2), some (.int z0)]) (pc' := 94) (st' := []) (by decide +kernel) rfl rfl ⟨trivial, ⟨rfl, rfl, zw_6_43⟩, trivial, trivial, trivial, trivial, ⟨rfl, rfl, h13⟩, trivial⟩ ?_
      refine zr_eq (WW2 := [w_Mo G a0 y14]) (lv2 := [some (.ref (a0 0)), some (.int x1), some (.int x2), some (.int z0)]) (st2 := []) (by rw [e14]) rfl rfl ?_
      refine zr_goto (off := 17) (tgt := 111) (by decide +kernel) (by decide) ?_
      obtain rfl := Option.some.inj hf
      exact zr_vret (b0 := fun _ => 0) (by decide +kernel) rfl rfl rfl rfl rfl
set_option maxRecDepth 100000 in
set_option maxHeartbeats 4000000 in
theorem c_X12_waits (l : Launch) (G : zj_G) (a0 : Nat → Nat) (s0 : MoT) (x1 : Int32) (r : MoT) (hf : f_X12_waits s0 x1 = some r) : zj_C l G M_X12_waits yX12_waits [w_Mo G a0 s0] [.ref (a0 0), .int x1] (none) (fun _ => [w_Mo G a0 r]) := by
  have key : ∀ W0 : List va_W, zj_J l G M_X12_waits W0 (zj_ret G M_X12_waits W0 (none) (fun _ => [w_Mo G a0 r])) 0 0 [w_Mo G a0 s0] [some (.ref (a0 0)), some (.int x1), none, none] 0 [] := by
    intro W0
    unfold f_X12_waits at hf
    obtain ⟨h1, hf⟩ := zck_of hf
    obtain ⟨q2, e2, hf⟩ := zbi_of hf
    refine zr_run [(.aload_n 0, 0, 0, 0, .null), (.getfield 13, 0, 0, 14, .null), (.sipush 462, 0, 0, 0, .int (462 : Int32)), (.iload_n 1, 0, 0, 0, .null), (.iadd, 0, 0, 0, .null), (.iaload, 0, 2, 0, .null), (.istore_n 2, 0, 0, 0, .null), (.aload_n 0, 0, 0, 0, .null), (.bipush 12, 0, 0, 0, .int (12 : Int32))] [] (WW' := [w_Mo G a0 s0]) (lv' := [some (.ref (a0 0)), some (.int x1), some (.int ((Mo_now s0) ((462 : Int32) + x1).toNatClampNeg)), none]) (pc' := 14) (st' := [.int (12 : Int32), .ref (a0 0)]) (by decide +kernel) rfl rfl ⟨trivial, ⟨rfl, rfl, zw_6_43⟩, trivial, trivial, trivial, ⟨rfl, rfl, h1⟩, trivial, trivial, trivial, trivial⟩ ?_
    refine zr_callV (c_X12_draw l G a0 s0 (12 : Int32) q2 e2) (WW' := fun _ => [w_Mo G a0 q2.2]) (st := []) (st' := [.int q2.1]) [0] rfl rfl (fun _ => Nat.le_of_ble_eq_true rfl) (fun _ => rfl) rfl rfl nm_X12_draw zw_7_224 zw_7_226 zw_0_92 zw_1_18 zw_7_227 rfl rfl rfl (Nat.le_of_ble_eq_true rfl) ⟨Nat.le_of_ble_eq_true rfl, Nat.le_of_ble_eq_true rfl⟩ (by decide +kernel) (fun _ => ?_)
    obtain ⟨h3, hf⟩ := zck_of hf
    refine zr_run [(.aload_n 0, 0, 0, 0, .null), (.getfield 13, 0, 0, 14, .null), (.bipush 14, 0, 0, 0, .int (14 : Int32)), (.iload_n 2, 0, 0, 0, .null), (.iadd, 0, 0, 0, .null), (.iaload, 0, 2, 0, .null)] [] (WW' := [w_Mo G a0 q2.2]) (lv' := [some (.ref (a0 0)), some (.int x1), some (.int ((Mo_now s0) ((462 : Int32) + x1).toNatClampNeg)), none]) (pc' := 26) (st' := [.int ((Mo_now q2.2) ((14 : Int32) + ((Mo_now s0) ((462 : Int32) + x1).toNatClampNeg)).toNatClampNeg), .int q2.1]) (by decide +kernel) rfl rfl ⟨trivial, ⟨rfl, rfl, zw_6_43⟩, trivial, trivial, trivial, ⟨rfl, rfl, h3⟩, trivial⟩ ?_
    refine zr_icmp_ge (off := 7) (tgt := 33) (by decide +kernel) (by decide) (fun hc => ?_) (fun hc => ?_)
    · have hf := zift hf hc
      refine zr_run [(.iconst 1, 0, 0, 0, .int (1 : Int32))] [] (WW' := [w_Mo G a0 q2.2]) (lv' := [some (.ref (a0 0)), some (.int x1), some (.int ((Mo_now s0) ((462 : Int32) + x1).toNatClampNeg)), none]) (pc' := 30) (st' := [.int (1 : Int32)]) (by decide +kernel) rfl rfl ⟨trivial, trivial⟩ ?_
      refine zr_goto (off := 4) (tgt := 34) (by decide +kernel) (by decide) ?_
      exact t_X12_waits_b34 l G a0 W0 r q2.2 x1 ((Mo_now s0) ((462 : Int32) + x1).toNatClampNeg) (1 : Int32) hf
    · have hf := ziff hf hc
      refine zr_run [(.iconst 0, 0, 0, 0, .int (0 : Int32))] [] (WW' := [w_Mo G a0 q2.2]) (lv' := [some (.ref (a0 0)), some (.int x1), some (.int ((Mo_now s0) ((462 : Int32) + x1).toNatClampNeg)), none]) (pc' := 34) (st' := [.int (0 : Int32)]) (by decide +kernel) rfl rfl ⟨trivial, trivial⟩ ?_
      exact t_X12_waits_b34 l G a0 W0 r q2.2 x1 ((Mo_now s0) ((462 : Int32) + x1).toNatClampNeg) (0 : Int32) hf
  exact zj_entry [some (.ref (a0 0)), some (.int x1), none, none] (by decide +kernel) rfl (by decide) (Nat.le_of_ble_eq_true rfl) rfl rfl (key _)
def M_X12_hasFord : zj_M := (RX12, cX12_hasFord, 4, (some .boolean), { frames := 3, cells := 0, slots := 0, locals := 70 }, false)
theorem nm_X12_hasFord : zj_nm yX12_hasFord 2 := ⟨by decide +kernel, by decide +kernel, by decide +kernel⟩
def f_X12_hasFord_H2  (s0 : MoT) (k2 : MoT → Int32 → Int32 → Int32 → Option (Int32 × MoT)) (x1 : Int32) (x2 : Int32) (x3 : Int32) : Option (Int32 × MoT) := (if x2 < x3 then some ((0 : Int32), s0) else (if zb_in ((474 : Int32) + x1) 758 = true then ((f_X12_layThere_ s0 x1 (((Mo_now s0) ((474 : Int32) + x1).toNatClampNeg) + x3)).bind fun q2 => (if zb_in ((176 : Int32) + (Mo_roadThere q2)) 758 = true then (if ((Mo_now q2) ((176 : Int32) + (Mo_roadThere q2)).toNatClampNeg) = (1 : Int32) then some ((1 : Int32), q2) else k2 q2 x1 x2 (x3 + (1 : Int32))) else none)) else none))
def f_X12_hasFord_L2    : Nat → MoT → Int32 → Int32 → Int32 → Option (Int32 × MoT)
  | 0 => fun _ _ _ _ => none
  | n + 1 => fun s0 x1 x2 x3 => f_X12_hasFord_H2 s0 (f_X12_hasFord_L2  n) x1 x2 x3
def f_X12_hasFord  (s0 : MoT) (x1 : Int32) (x2 : Int32) : Option (Int32 × MoT) := f_X12_hasFord_L2 zFU s0 x1 x2 (1 : Int32)
set_option maxRecDepth 100000 in
set_option maxHeartbeats 4000000 in
theorem t_X12_hasFord_H2 (l : Launch) (G : zj_G) (a0 : Nat → Nat) (W0 : List va_W) (r : Int32 × MoT) (s0 : MoT) (k2 : MoT → Int32 → Int32 → Int32 → Option (Int32 × MoT)) (hk2 : ∀ (s0 : MoT) (x1 : Int32) (x2 : Int32) (x3 : Int32), k2 s0 x1 x2 x3 = some r → zj_J l G M_X12_hasFord W0 (zj_ret G M_X12_hasFord W0 (some (.int r.1)) (fun _ => [w_Mo G a0 r.2])) 0 0 [w_Mo G a0 s0] [some (.ref (a0 0)), some (.int x1), some (.int x2), some (.int x3)] 2 []) (x1 : Int32) (x2 : Int32) (x3 : Int32) (hf : f_X12_hasFord_H2 s0 k2 x1 x2 x3 = some r) : zj_J l G M_X12_hasFord W0 (zj_ret G M_X12_hasFord W0 (some (.int r.1)) (fun _ => [w_Mo G a0 r.2])) 0 0 [w_Mo G a0 s0] [some (.ref (a0 0)), some (.int x1), some (.int x2), some (.int x3)] 2 [] := by
  unfold f_X12_hasFord_H2 at hf
  refine zr_run [(.iload_n 3, 0, 0, 0, .null), (.iload_n 2, 0, 0, 0, .null)] [] (WW' := [w_Mo G a0 s0]) (lv' := [some (.ref (a0 0)), some (.int x1), some (.int x2), some (.int x3)]) (pc' := 4) (st' := [.int x2, .int x3]) (by decide +kernel) rfl rfl ⟨trivial, trivial, trivial⟩ ?_
  refine zr_icmp_gt (off := 45) (tgt := 49) (by decide +kernel) (by decide) (fun hc => ?_) (fun hc => ?_)
  · have hf := zift hf hc
    refine zr_run [(.iconst 0, 0, 0, 0, .int (0 : Int32))] [] (WW' := [w_Mo G a0 s0]) (lv' := [some (.ref (a0 0)), some (.int x1), some (.int x2), some (.int x3)]) (pc' := 50) (st' := [.int (0 : Int32)]) (by decide +kernel) rfl rfl ⟨trivial, trivial⟩ ?_
    obtain rfl := Option.some.inj hf
    exact zr_zret (by decide) (b0 := fun _ => 0) (by decide +kernel) rfl rfl rfl rfl rfl
  · have hf := ziff hf hc
    obtain ⟨h1, hf⟩ := zck_of hf
    obtain ⟨q2, e2, hf⟩ := zbi_of hf
    refine zr_run [(.aload_n 0, 0, 0, 0, .null), (.iload_n 1, 0, 0, 0, .null), (.aload_n 0, 0, 0, 0, .null), (.getfield 13, 0, 0, 14, .null), (.sipush 474, 0, 0, 0, .int (474 : Int32)), (.iload_n 1, 0, 0, 0, .null), (.iadd, 0, 0, 0, .null), (.iaload, 0, 2, 0, .null), (.iload_n 3, 0, 0, 0, .null), (.iadd, 0, 0, 0, .null)] [] (WW' := [w_Mo G a0 s0]) (lv' := [some (.ref (a0 0)), some (.int x1), some (.int x2), some (.int x3)]) (pc' := 21) (st' := [.int (((Mo_now s0) ((474 : Int32) + x1).toNatClampNeg) + x3), .int x1, .ref (a0 0)]) (by decide +kernel) rfl rfl ⟨trivial, trivial, trivial, ⟨rfl, rfl, zw_6_43⟩, trivial, trivial, trivial, ⟨rfl, rfl, h1⟩, trivial, trivial, trivial⟩ ?_
    refine zr_callV (c_X12_layThere_ l G a0 s0 x1 (((Mo_now s0) ((474 : Int32) + x1).toNatClampNeg) + x3) q2 e2) (WW' := fun _ => [w_Mo G a0 q2]) (st := []) (st' := []) [0] rfl rfl (fun _ => Nat.le_of_ble_eq_true rfl) (fun _ => rfl) rfl rfl nm_X12_layThere_ zw_7_104 zw_7_106 zw_0_72 zw_1_18 zw_7_107 rfl rfl rfl (Nat.le_of_ble_eq_true rfl) ⟨Nat.le_of_ble_eq_true rfl, Nat.le_of_ble_eq_true rfl⟩ (by decide +kernel) (fun _ => ?_)
    obtain ⟨h3, hf⟩ := zck_of hf
    refine zr_run [(.aload_n 0, 0, 0, 0, .null), (.getfield 13, 0, 0, 14, .null), (.sipush 176, 0, 0, 0, .int (176 : Int32)), (.aload_n 0, 0, 0, 0, .null), (.getfield 247, 0, 0, 24, .null), (.iadd, 0, 0, 0, .null), (.iaload, 0, 2, 0, .null), (.iconst 1, 0, 0, 0, .int (1 : Int32))] [] (WW' := [w_Mo G a0 q2]) (lv' := [some (.ref (a0 0)), some (.int x1), some (.int x2), some (.int x3)]) (pc' := 38) (st' := [.int (1 : Int32), .int ((Mo_now q2) ((176 : Int32) + (Mo_roadThere q2)).toNatClampNeg)]) (by decide +kernel) rfl rfl ⟨trivial, ⟨rfl, rfl, zw_6_43⟩, trivial, trivial, ⟨rfl, rfl, zw_6_53⟩, trivial, ⟨rfl, rfl, h3⟩, trivial, trivial⟩ ?_
    refine zr_icmp_ne (off := 5) (tgt := 43) (by decide +kernel) (by decide) (fun hc => ?_) (fun hc => ?_)
    · have hf := zift hf hc
      refine zr_run [(.iconst 1, 0, 0, 0, .int (1 : Int32))] [] (WW' := [w_Mo G a0 q2]) (lv' := [some (.ref (a0 0)), some (.int x1), some (.int x2), some (.int x3)]) (pc' := 42) (st' := [.int (1 : Int32)]) (by decide +kernel) rfl rfl ⟨trivial, trivial⟩ ?_
      obtain rfl := Option.some.inj hf
      exact zr_zret (by decide) (b0 := fun _ => 0) (by decide +kernel) rfl rfl rfl rfl rfl
    · have hf := ziff hf hc
      refine zr_run [(.iinc 3 1, 0, 0, 0, .int (1 : Int32))] [] (WW' := [w_Mo G a0 q2]) (lv' := [some (.ref (a0 0)), some (.int x1), some (.int x2), some (.int (x3 + (1 : Int32)))]) (pc' := 46) (st' := []) (by decide +kernel) rfl rfl ⟨trivial, trivial⟩ ?_
      refine zr_goto (off := -44) (tgt := 2) (by decide +kernel) (by decide) ?_
      exact hk2 q2 x1 x2 (x3 + (1 : Int32)) hf
theorem t_X12_hasFord_L2 (l : Launch) (G : zj_G) (a0 : Nat → Nat) (W0 : List va_W) (r : Int32 × MoT)    : ∀ (n : Nat) (s0 : MoT) (x1 : Int32) (x2 : Int32) (x3 : Int32), f_X12_hasFord_L2 n s0 x1 x2 x3 = some r → zj_J l G M_X12_hasFord W0 (zj_ret G M_X12_hasFord W0 (some (.int r.1)) (fun _ => [w_Mo G a0 r.2])) 0 0 [w_Mo G a0 s0] [some (.ref (a0 0)), some (.int x1), some (.int x2), some (.int x3)] 2 [] := by
  intro n
  induction n with
  | zero => intro s0 x1 x2 x3 hf; exact nomatch (show none = some r from hf)
  | succ n ih => intro s0 x1 x2 x3 hf; exact t_X12_hasFord_H2 l G a0 W0 r s0  (f_X12_hasFord_L2 n)  ih x1 x2 x3  hf
set_option maxRecDepth 100000 in
set_option maxHeartbeats 4000000 in
theorem c_X12_hasFord (l : Launch) (G : zj_G) (a0 : Nat → Nat) (s0 : MoT) (x1 : Int32) (x2 : Int32) (r : Int32 × MoT) (hf : f_X12_hasFord s0 x1 x2 = some r) : zj_C l G M_X12_hasFord yX12_hasFord [w_Mo G a0 s0] [.ref (a0 0), .int x1, .int x2] (some (.int r.1)) (fun _ => [w_Mo G a0 r.2]) := by
  have key : ∀ W0 : List va_W, zj_J l G M_X12_hasFord W0 (zj_ret G M_X12_hasFord W0 (some (.int r.1)) (fun _ => [w_Mo G a0 r.2])) 0 0 [w_Mo G a0 s0] [some (.ref (a0 0)), some (.int x1), some (.int x2), none] 0 [] := by
    intro W0
    unfold f_X12_hasFord at hf
    refine zr_run [(.iconst 1, 0, 0, 0, .int (1 : Int32)), (.istore_n 3, 0, 0, 0, .null)] [] (WW' := [w_Mo G a0 s0]) (lv' := [some (.ref (a0 0)), some (.int x1), some (.int x2), some (.int (1 : Int32))]) (pc' := 2) (st' := []) (by decide +kernel) rfl rfl ⟨trivial, trivial, trivial⟩ ?_
    exact t_X12_hasFord_L2 l G a0 W0 r zFU s0 x1 x2 (1 : Int32) hf
  exact zj_entry [some (.ref (a0 0)), some (.int x1), some (.int x2), none] (by decide +kernel) rfl (by decide) (Nat.le_of_ble_eq_true rfl) rfl rfl (key _)
def M_X12_dangerAt : zj_M := (RX12, cX12_dangerAt, 3, (some .int), { frames := 3, cells := 0, slots := 0, locals := 70 }, false)
theorem nm_X12_dangerAt : zj_nm yX12_dangerAt 2 := ⟨by decide +kernel, by decide +kernel, by decide +kernel⟩
def f_X12_dangerAt  (s0 : MoT) (x1 : Int32) (x2 : Int32) : Option (Int32 × MoT) := ((f_X12_layThere_ s0 x1 x2).bind fun q1 => (if (Mo_placeThere q1) = (-1 : Int32) then ((f_X12_has ((Mo_now q1) (242 : Int32).toNatClampNeg) x1).bind fun q2 => (if q2 = 0 then (if zb_in ((160 : Int32) + (Mo_roadThere q1)) 758 = true then some (((Mo_now q1) ((160 : Int32) + (Mo_roadThere q1)).toNatClampNeg), q1) else none) else (if zb_in ((160 : Int32) + (Mo_roadThere q1)) 758 = true then some ((((Mo_now q1) ((160 : Int32) + (Mo_roadThere q1)).toNatClampNeg) / (2 : Int32)), q1) else none))) else some ((-1 : Int32), q1)))
set_option maxRecDepth 100000 in
set_option maxHeartbeats 4000000 in
theorem c_X12_dangerAt (l : Launch) (G : zj_G) (a0 : Nat → Nat) (s0 : MoT) (x1 : Int32) (x2 : Int32) (r : Int32 × MoT) (hf : f_X12_dangerAt s0 x1 x2 = some r) : zj_C l G M_X12_dangerAt yX12_dangerAt [w_Mo G a0 s0] [.ref (a0 0), .int x1, .int x2] (some (.int r.1)) (fun _ => [w_Mo G a0 r.2]) := by
  have key : ∀ W0 : List va_W, zj_J l G M_X12_dangerAt W0 (zj_ret G M_X12_dangerAt W0 (some (.int r.1)) (fun _ => [w_Mo G a0 r.2])) 0 0 [w_Mo G a0 s0] [some (.ref (a0 0)), some (.int x1), some (.int x2)] 0 [] := by
    intro W0
    unfold f_X12_dangerAt at hf
    obtain ⟨q1, e1, hf⟩ := zbi_of hf
    refine zr_run [(.aload_n 0, 0, 0, 0, .null), (.iload_n 1, 0, 0, 0, .null), (.iload_n 2, 0, 0, 0, .null)] [] (WW' := [w_Mo G a0 s0]) (lv' := [some (.ref (a0 0)), some (.int x1), some (.int x2)]) (pc' := 3) (st' := [.int x2, .int x1, .ref (a0 0)]) (by decide +kernel) rfl rfl ⟨trivial, trivial, trivial, trivial⟩ ?_
    refine zr_callV (c_X12_layThere_ l G a0 s0 x1 x2 q1 e1) (WW' := fun _ => [w_Mo G a0 q1]) (st := []) (st' := []) [0] rfl rfl (fun _ => Nat.le_of_ble_eq_true rfl) (fun _ => rfl) rfl rfl nm_X12_layThere_ zw_7_104 zw_7_106 zw_0_72 zw_1_18 zw_7_107 rfl rfl rfl (Nat.le_of_ble_eq_true rfl) ⟨Nat.le_of_ble_eq_true rfl, Nat.le_of_ble_eq_true rfl⟩ (by decide +kernel) (fun _ => ?_)
    refine zr_run [(.aload_n 0, 0, 0, 0, .null), (.getfield 256, 0, 0, 25, .null), (.iconst (-1), 0, 0, 0, .int (-1 : Int32))] [] (WW' := [w_Mo G a0 q1]) (lv' := [some (.ref (a0 0)), some (.int x1), some (.int x2)]) (pc' := 11) (st' := [.int (-1 : Int32), .int (Mo_placeThere q1)]) (by decide +kernel) rfl rfl ⟨trivial, ⟨rfl, rfl, zw_6_54⟩, trivial, trivial⟩ ?_
    refine zr_icmp_eq (off := 5) (tgt := 16) (by decide +kernel) (by decide) (fun hc => ?_) (fun hc => ?_)
    · have hf := zift hf hc
      obtain ⟨q2, e2, hf⟩ := zbi_of hf
      refine zr_run [(.aload_n 0, 0, 0, 0, .null), (.getfield 13, 0, 0, 14, .null), (.sipush 242, 0, 0, 0, .int (242 : Int32)), (.iaload, 0, 2, 0, .null), (.iload_n 1, 0, 0, 0, .null)] [] (WW' := [w_Mo G a0 q1]) (lv' := [some (.ref (a0 0)), some (.int x1), some (.int x2)]) (pc' := 25) (st' := [.int x1, .int ((Mo_now q1) (242 : Int32).toNatClampNeg)]) (by decide +kernel) rfl rfl ⟨trivial, ⟨rfl, rfl, zw_6_43⟩, trivial, ⟨rfl, rfl, (by decide)⟩, trivial, trivial⟩ ?_
      refine zr_callS (c_X12_has l G ((Mo_now q1) (242 : Int32).toNatClampNeg) x1 q2 e2) (WW' := fun _ => [w_Mo G a0 q1]) (st := []) (st' := [.int q2]) [] rfl rfl (fun _ => Nat.le_of_ble_eq_true rfl) (fun _ => rfl) rfl rfl nm_X12_has zw_7_61 zw_7_62 zw_1_18 zw_7_63 rfl (Nat.le_of_ble_eq_true rfl) ⟨Nat.le_of_ble_eq_true rfl, Nat.le_of_ble_eq_true rfl⟩ (by decide +kernel) (fun _ => ?_)
      refine zr_if_eq (off := 21) (tgt := 49) (by decide +kernel) (by decide) (fun hc => ?_) (fun hc => ?_)
      · have hf := zift hf hc
        obtain ⟨h3, hf⟩ := zck_of hf
        refine zr_run [(.aload_n 0, 0, 0, 0, .null), (.getfield 13, 0, 0, 14, .null), (.sipush 160, 0, 0, 0, .int (160 : Int32)), (.aload_n 0, 0, 0, 0, .null), (.getfield 247, 0, 0, 24, .null), (.iadd, 0, 0, 0, .null), (.iaload, 0, 2, 0, .null)] [] (WW' := [w_Mo G a0 q1]) (lv' := [some (.ref (a0 0)), some (.int x1), some (.int x2)]) (pc' := 62) (st' := [.int ((Mo_now q1) ((160 : Int32) + (Mo_roadThere q1)).toNatClampNeg)]) (by decide +kernel) rfl rfl ⟨trivial, ⟨rfl, rfl, zw_6_43⟩, trivial, trivial, ⟨rfl, rfl, zw_6_53⟩, trivial, ⟨rfl, rfl, h3⟩, trivial⟩ ?_
        obtain rfl := Option.some.inj hf
        exact zr_iret (b0 := fun _ => 0) (by decide +kernel) rfl rfl rfl rfl rfl
      · have hf := ziff hf hc
        obtain ⟨h4, hf⟩ := zck_of hf
        refine zr_run [(.aload_n 0, 0, 0, 0, .null), (.getfield 13, 0, 0, 14, .null), (.sipush 160, 0, 0, 0, .int (160 : Int32)), (.aload_n 0, 0, 0, 0, .null), (.getfield 247, 0, 0, 24, .null), (.iadd, 0, 0, 0, .null), (.iaload, 0, 2, 0, .null), (.iconst 2, 0, 0, 0, .int (2 : Int32)), (.idiv, 0, 0, 0, .null)] [] (WW' := [w_Mo G a0 q1]) (lv' := [some (.ref (a0 0)), some (.int x1), some (.int x2)]) (pc' := 46) (st' := [.int (((Mo_now q1) ((160 : Int32) + (Mo_roadThere q1)).toNatClampNeg) / (2 : Int32))]) (by decide +kernel) rfl rfl ⟨trivial, ⟨rfl, rfl, zw_6_43⟩, trivial, trivial, ⟨rfl, rfl, zw_6_53⟩, trivial, ⟨rfl, rfl, h4⟩, trivial, (by decide), trivial⟩ ?_
        refine zr_goto (off := 16) (tgt := 62) (by decide +kernel) (by decide) ?_
        obtain rfl := Option.some.inj hf
        exact zr_iret (b0 := fun _ => 0) (by decide +kernel) rfl rfl rfl rfl rfl
    · have hf := ziff hf hc
      refine zr_run [(.iconst (-1), 0, 0, 0, .int (-1 : Int32))] [] (WW' := [w_Mo G a0 q1]) (lv' := [some (.ref (a0 0)), some (.int x1), some (.int x2)]) (pc' := 15) (st' := [.int (-1 : Int32)]) (by decide +kernel) rfl rfl ⟨trivial, trivial⟩ ?_
      obtain rfl := Option.some.inj hf
      exact zr_iret (b0 := fun _ => 0) (by decide +kernel) rfl rfl rfl rfl rfl
  exact zj_entry [some (.ref (a0 0)), some (.int x1), some (.int x2)] (by decide +kernel) rfl (by decide) (Nat.le_of_ble_eq_true rfl) rfl rfl (key _)
def M_X12_walks : zj_M := (RX12, cX12_walks, 5, none, { frames := 4, cells := 0, slots := 0, locals := 93 }, false)
theorem nm_X12_walks : zj_nm yX12_walks 1 := ⟨by decide +kernel, by decide +kernel, by decide +kernel⟩
def f_X12_walks_b239  (s0 : MoT)  (x1 : Int32) : Option (MoT) := (if zb_in ((486 : Int32) + x1) 758 = true then (if zb_in ((486 : Int32) + x1) 758 = true then (zlet (Mo_s_now s0 ((upd (Mo_now s0) ((486 : Int32) + x1).toNatClampNeg (((Mo_now s0) ((486 : Int32) + x1).toNatClampNeg) - (1 : Int32))))) fun y25 => (if zb_in ((486 : Int32) + x1) 758 = true then (if ((Mo_now y25) ((486 : Int32) + x1).toNatClampNeg) = 0 then (if zb_in ((444 : Int32) + x1) 758 = true then (zlet (Mo_s_now y25 ((upd (Mo_now y25) ((444 : Int32) + x1).toNatClampNeg (4 : Int32)))) fun y28 => some y28) else none) else some y25) else none)) else none) else none)
def f_X12_walks_b104  (s0 : MoT)  (x1 : Int32) (x2 : Int32) : Option (MoT) := (if zb_in ((498 : Int32) + x1) 758 = true then (if ((Mo_now s0) ((498 : Int32) + x1).toNatClampNeg) = (2 : Int32) then (if zb_in ((444 : Int32) + x1) 758 = true then (zlet (Mo_s_now s0 ((upd (Mo_now s0) ((444 : Int32) + x1).toNatClampNeg (4 : Int32)))) fun y10 => some y10) else none) else (if zb_in ((474 : Int32) + x1) 758 = true then (if zb_in ((474 : Int32) + x1) 758 = true then (zlet (Mo_s_now s0 ((upd (Mo_now s0) ((474 : Int32) + x1).toNatClampNeg (((Mo_now s0) ((474 : Int32) + x1).toNatClampNeg) + x2)))) fun y13 => (if zb_in ((510 : Int32) + x1) 758 = true then (if zb_in ((510 : Int32) + x1) 758 = true then (zlet (Mo_s_now y13 ((upd (Mo_now y13) ((510 : Int32) + x1).toNatClampNeg (((Mo_now y13) ((510 : Int32) + x1).toNatClampNeg) + x2)))) fun y16 => (if zb_in ((474 : Int32) + x1) 758 = true then (if zb_in ((480 : Int32) + x1) 758 = true then (if ((Mo_now y16) ((474 : Int32) + x1).toNatClampNeg) = ((Mo_now y16) ((480 : Int32) + x1).toNatClampNeg) then (if zb_in ((444 : Int32) + x1) 758 = true then (zlet (Mo_s_now y16 ((upd (Mo_now y16) ((444 : Int32) + x1).toNatClampNeg (2 : Int32)))) fun y20 => some y20) else none) else (if zb_in ((474 : Int32) + x1) 758 = true then ((f_X12_dangerAt y16 x1 ((Mo_now y16) ((474 : Int32) + x1).toNatClampNeg)).bind fun q22 => (if q22.1 = (-1 : Int32) then f_X12_walks_b239 q22.2 x1 else ((f_X12_draw q22.2 (12 : Int32)).bind fun q29 => (if q29.1 < q22.1 then (if zb_in ((444 : Int32) + x1) 758 = true then (zlet (Mo_s_now q29.2 ((upd (Mo_now q29.2) ((444 : Int32) + x1).toNatClampNeg (5 : Int32)))) fun y31 => some y31) else none) else f_X12_walks_b239 q29.2 x1)))) else none)) else none) else none)) else none) else none)) else none) else none)) else none)
def f_X12_walks_b62  (s0 : MoT)  (x1 : Int32) (x2 : Int32) (z0 : Int32) : Option (MoT) := (if z0 = 0 then (if 0 < x2 then (if zb_in ((498 : Int32) + x1) 758 = true then (zlet (Mo_s_now s0 ((upd (Mo_now s0) ((498 : Int32) + x1).toNatClampNeg (0 : Int32)))) fun y7 => f_X12_walks_b104 y7 x1 x2) else none) else (if zb_in ((498 : Int32) + x1) 758 = true then (if zb_in ((498 : Int32) + x1) 758 = true then (zlet (Mo_s_now s0 ((upd (Mo_now s0) ((498 : Int32) + x1).toNatClampNeg (((Mo_now s0) ((498 : Int32) + x1).toNatClampNeg) + (1 : Int32))))) fun y34 => f_X12_walks_b104 y34 x1 x2) else none) else none)) else f_X12_walks_b104 s0 x1 (0 : Int32))
def f_X12_walks_b61  (s0 : MoT)  (x1 : Int32) (x2 : Int32) : Option (MoT) := f_X12_walks_b62 s0 x1 x2 (0 : Int32)
def f_X12_walks  (s0 : MoT) (x1 : Int32) : Option (MoT) := (if zb_in ((492 : Int32) + x1) 758 = true then (if zb_in ((480 : Int32) + x1) 758 = true then (if zb_in ((474 : Int32) + x1) 758 = true then ((f_X12_least ((Mo_now s0) ((492 : Int32) + x1).toNatClampNeg) (((Mo_now s0) ((480 : Int32) + x1).toNatClampNeg) - ((Mo_now s0) ((474 : Int32) + x1).toNatClampNeg))).bind fun q4 => (if 0 < q4 then ((f_X12_hasFord s0 x1 q4).bind fun q5 => (if q5.1 = 0 then f_X12_walks_b61 q5.2 x1 q4 else ((f_X12_draw q5.2 (6 : Int32)).bind fun q35 => (if q35.1 = 0 then f_X12_walks_b62 q35.2 x1 q4 (1 : Int32) else f_X12_walks_b61 q35.2 x1 q4)))) else f_X12_walks_b61 s0 x1 q4)) else none) else none) else none)
set_option maxRecDepth 100000 in
set_option maxHeartbeats 4000000 in
theorem t_X12_walks_b239 (l : Launch) (G : zj_G) (a0 : Nat → Nat) (W0 : List va_W) (r : MoT) (s0 : MoT)   (x1 : Int32) (hf : f_X12_walks_b239 s0 x1 = some r) : zj_J l G M_X12_walks W0 (zj_ret G M_X12_walks W0 (none) (fun _ => [w_Mo G a0 r])) 0 0 [w_Mo G a0 s0] [some (.ref (a0 0)), some (.int x1), none, none, none] 239 [] := by
  unfold f_X12_walks_b239 at hf
  obtain ⟨h23, hf⟩ := zck_of hf
  obtain ⟨h24, hf⟩ := zck_of hf
  obtain ⟨y25, e25, hf⟩ := zlet_of hf
  refine zr_run [(.aload_n 0, 0, 0, 0, .null), (.getfield 13, 0, 0, 14, .null), (.sipush 486, 0, 0, 0, .int (486 : Int32)), (.iload_n 1, 0, 0, 0, .null), (.iadd, 0, 0, 0, .null), (.dup2, 0, 0, 0, .null), (.iaload, 0, 2, 0, .null), (.iconst 1, 0, 0, 0, .int (1 : Int32)), (.isub, 0, 0, 0, .null), (.iastore, 0, 2, 0, .null)] [] (WW' := [w_Mo G a0 (Mo_s_now s0 ((upd (Mo_now s0) ((486 : Int32) + x1).toNatClampNeg (((Mo_now s0) ((486 : Int32) + x1).toNatClampNeg) - (1 : Int32)))))]) (lv' := [some (.ref (a0 0)), some (.int x1), none, none, none]) (pc' := 253) (st' := []) (by decide +kernel) rfl rfl ⟨trivial, ⟨rfl, rfl, zw_6_43⟩, trivial, trivial, trivial, trivial, ⟨rfl, rfl, h23⟩, trivial, trivial, ⟨rfl, rfl, h24⟩, trivial⟩ ?_
  refine zr_eq (WW2 := [w_Mo G a0 y25]) (lv2 := [some (.ref (a0 0)), some (.int x1), none, none, none]) (st2 := []) (by rw [e25]) rfl rfl ?_
  obtain ⟨h26, hf⟩ := zck_of hf
  refine zr_run [(.aload_n 0, 0, 0, 0, .null), (.getfield 13, 0, 0, 14, .null), (.sipush 486, 0, 0, 0, .int (486 : Int32)), (.iload_n 1, 0, 0, 0, .null), (.iadd, 0, 0, 0, .null), (.iaload, 0, 2, 0, .null)] [] (WW' := [w_Mo G a0 y25]) (lv' := [some (.ref (a0 0)), some (.int x1), none, none, none]) (pc' := 263) (st' := [.int ((Mo_now y25) ((486 : Int32) + x1).toNatClampNeg)]) (by decide +kernel) rfl rfl ⟨trivial, ⟨rfl, rfl, zw_6_43⟩, trivial, trivial, trivial, ⟨rfl, rfl, h26⟩, trivial⟩ ?_
  refine zr_if_ne (off := 14) (tgt := 277) (by decide +kernel) (by decide) (fun hc => ?_) (fun hc => ?_)
  · have hf := zift hf hc
    obtain ⟨h27, hf⟩ := zck_of hf
    obtain ⟨y28, e28, hf⟩ := zlet_of hf
    refine zr_run [(.aload_n 0, 0, 0, 0, .null), (.getfield 13, 0, 0, 14, .null), (.sipush 444, 0, 0, 0, .int (444 : Int32)), (.iload_n 1, 0, 0, 0, .null), (.iadd, 0, 0, 0, .null), (.iconst 4, 0, 0, 0, .int (4 : Int32)), (.iastore, 0, 2, 0, .null)] [] (WW' := [w_Mo G a0 (Mo_s_now y25 ((upd (Mo_now y25) ((444 : Int32) + x1).toNatClampNeg (4 : Int32))))]) (lv' := [some (.ref (a0 0)), some (.int x1), none, none, none]) (pc' := 277) (st' := []) (by decide +kernel) rfl rfl ⟨trivial, ⟨rfl, rfl, zw_6_43⟩, trivial, trivial, trivial, trivial, ⟨rfl, rfl, h27⟩, trivial⟩ ?_
    refine zr_eq (WW2 := [w_Mo G a0 y28]) (lv2 := [some (.ref (a0 0)), some (.int x1), none, none, none]) (st2 := []) (by rw [e28]) rfl rfl ?_
    obtain rfl := Option.some.inj hf
    exact zr_vret (b0 := fun _ => 0) (by decide +kernel) rfl rfl rfl rfl rfl
  · have hf := ziff hf hc
    obtain rfl := Option.some.inj hf
    exact zr_vret (b0 := fun _ => 0) (by decide +kernel) rfl rfl rfl rfl rfl
set_option maxRecDepth 100000 in
set_option maxHeartbeats 4000000 in
theorem t_X12_walks_b104 (l : Launch) (G : zj_G) (a0 : Nat → Nat) (W0 : List va_W) (r : MoT) (s0 : MoT)   (x1 : Int32) (x2 : Int32) (hf : f_X12_walks_b104 s0 x1 x2 = some r) : zj_J l G M_X12_walks W0 (zj_ret G M_X12_walks W0 (none) (fun _ => [w_Mo G a0 r])) 0 0 [w_Mo G a0 s0] [some (.ref (a0 0)), some (.int x1), some (.int x2), none, none] 104 [] := by
  unfold f_X12_walks_b104 at hf
  obtain ⟨h8, hf⟩ := zck_of hf
  refine zr_run [(.aload_n 0, 0, 0, 0, .null), (.getfield 13, 0, 0, 14, .null), (.sipush 498, 0, 0, 0, .int (498 : Int32)), (.iload_n 1, 0, 0, 0, .null), (.iadd, 0, 0, 0, .null), (.iaload, 0, 2, 0, .null), (.iconst 2, 0, 0, 0, .int (2 : Int32))] [] (WW' := [w_Mo G a0 s0]) (lv' := [some (.ref (a0 0)), some (.int x1), some (.int x2), none, none]) (pc' := 115) (st' := [.int (2 : Int32), .int ((Mo_now s0) ((498 : Int32) + x1).toNatClampNeg)]) (by decide +kernel) rfl rfl ⟨trivial, ⟨rfl, rfl, zw_6_43⟩, trivial, trivial, trivial, ⟨rfl, rfl, h8⟩, trivial, trivial⟩ ?_
  refine zr_icmp_ne (off := 15) (tgt := 130) (by decide +kernel) (by decide) (fun hc => ?_) (fun hc => ?_)
  · have hf := zift hf hc
    obtain ⟨h9, hf⟩ := zck_of hf
    obtain ⟨y10, e10, hf⟩ := zlet_of hf
    refine zr_run [(.aload_n 0, 0, 0, 0, .null), (.getfield 13, 0, 0, 14, .null), (.sipush 444, 0, 0, 0, .int (444 : Int32)), (.iload_n 1, 0, 0, 0, .null), (.iadd, 0, 0, 0, .null), (.iconst 4, 0, 0, 0, .int (4 : Int32)), (.iastore, 0, 2, 0, .null)] [] (WW' := [w_Mo G a0 (Mo_s_now s0 ((upd (Mo_now s0) ((444 : Int32) + x1).toNatClampNeg (4 : Int32))))]) (lv' := [some (.ref (a0 0)), some (.int x1), some (.int x2), none, none]) (pc' := 129) (st' := []) (by decide +kernel) rfl rfl ⟨trivial, ⟨rfl, rfl, zw_6_43⟩, trivial, trivial, trivial, trivial, ⟨rfl, rfl, h9⟩, trivial⟩ ?_
    refine zr_eq (WW2 := [w_Mo G a0 y10]) (lv2 := [some (.ref (a0 0)), some (.int x1), some (.int x2), none, none]) (st2 := []) (by rw [e10]) rfl rfl ?_
    obtain rfl := Option.some.inj hf
    exact zr_vret (b0 := fun _ => 0) (by decide +kernel) rfl rfl rfl rfl rfl
  · have hf := ziff hf hc
    obtain ⟨h11, hf⟩ := zck_of hf
    obtain ⟨h12, hf⟩ := zck_of hf
    obtain ⟨y13, e13, hf⟩ := zlet_of hf
    refine zr_run [(.aload_n 0, 0, 0, 0, .null), (.getfield 13, 0, 0, 14, .null), (.sipush 474, 0, 0, 0, .int (474 : Int32)), (.iload_n 1, 0, 0, 0, .null), (.iadd, 0, 0, 0, .null), (.dup2, 0, 0, 0, .null), (.iaload, 0, 2, 0, .null), (.iload_n 2, 0, 0, 0, .null), (.iadd, 0, 0, 0, .null), (.iastore, 0, 2, 0, .null)] [] (WW' := [w_Mo G a0 (Mo_s_now s0 ((upd (Mo_now s0) ((474 : Int32) + x1).toNatClampNeg (((Mo_now s0) ((474 : Int32) + x1).toNatClampNeg) + x2))))]) (lv' := [some (.ref (a0 0)), some (.int x1), some (.int x2), none, none]) (pc' := 144) (st' := []) (by decide +kernel) rfl rfl ⟨trivial, ⟨rfl, rfl, zw_6_43⟩, trivial, trivial, trivial, trivial, ⟨rfl, rfl, h11⟩, trivial, trivial, ⟨rfl, rfl, h12⟩, trivial⟩ ?_
    refine zr_eq (WW2 := [w_Mo G a0 y13]) (lv2 := [some (.ref (a0 0)), some (.int x1), some (.int x2), none, none]) (st2 := []) (by rw [e13]) rfl rfl ?_
    obtain ⟨h14, hf⟩ := zck_of hf
    obtain ⟨h15, hf⟩ := zck_of hf
    obtain ⟨y16, e16, hf⟩ := zlet_of hf
    refine zr_run [(.aload_n 0, 0, 0, 0, .null), (.getfield 13, 0, 0, 14, .null), (.sipush 510, 0, 0, 0, .int (510 : Int32)), (.iload_n 1, 0, 0, 0, .null), (.iadd, 0, 0, 0, .null), (.dup2, 0, 0, 0, .null), (.iaload, 0, 2, 0, .null), (.iload_n 2, 0, 0, 0, .null), (.iadd, 0, 0, 0, .null), (.iastore, 0, 2, 0, .null)] [] (WW' := [w_Mo G a0 (Mo_s_now y13 ((upd (Mo_now y13) ((510 : Int32) + x1).toNatClampNeg (((Mo_now y13) ((510 : Int32) + x1).toNatClampNeg) + x2))))]) (lv' := [some (.ref (a0 0)), some (.int x1), some (.int x2), none, none]) (pc' := 158) (st' := []) (by decide +kernel) rfl rfl ⟨trivial, ⟨rfl, rfl, zw_6_43⟩, trivial, trivial, trivial, trivial, ⟨rfl, rfl, h14⟩, trivial, trivial, ⟨rfl, rfl, h15⟩, trivial⟩ ?_
    refine zr_eq (WW2 := [w_Mo G a0 y16]) (lv2 := [some (.ref (a0 0)), some (.int x1), some (.int x2), none, none]) (st2 := []) (by rw [e16]) rfl rfl ?_
    obtain ⟨h17, hf⟩ := zck_of hf
    obtain ⟨h18, hf⟩ := zck_of hf
    refine zr_run [(.aload_n 0, 0, 0, 0, .null), (.getfield 13, 0, 0, 14, .null), (.sipush 474, 0, 0, 0, .int (474 : Int32)), (.iload_n 1, 0, 0, 0, .null), (.iadd, 0, 0, 0, .null), (.iaload, 0, 2, 0, .null), (.aload_n 0, 0, 0, 0, .null), (.getfield 13, 0, 0, 14, .null), (.sipush 480, 0, 0, 0, .int (480 : Int32)), (.iload_n 1, 0, 0, 0, .null), (.iadd, 0, 0, 0, .null), (.iaload, 0, 2, 0, .null)] [] (WW' := [w_Mo G a0 y16]) (lv' := [some (.ref (a0 0)), some (.int x1), some (.int x2), none, none]) (pc' := 178) (st' := [.int ((Mo_now y16) ((480 : Int32) + x1).toNatClampNeg), .int ((Mo_now y16) ((474 : Int32) + x1).toNatClampNeg)]) (by decide +kernel) rfl rfl ⟨trivial, ⟨rfl, rfl, zw_6_43⟩, trivial, trivial, trivial, ⟨rfl, rfl, h17⟩, trivial, ⟨rfl, rfl, zw_6_43⟩, trivial, trivial, trivial, ⟨rfl, rfl, h18⟩, trivial⟩ ?_
    refine zr_icmp_ne (off := 15) (tgt := 193) (by decide +kernel) (by decide) (fun hc => ?_) (fun hc => ?_)
    · have hf := zift hf hc
      obtain ⟨h19, hf⟩ := zck_of hf
      obtain ⟨y20, e20, hf⟩ := zlet_of hf
      refine zr_run [(.aload_n 0, 0, 0, 0, .null), (.getfield 13, 0, 0, 14, .null), (.sipush 444, 0, 0, 0, .int (444 : Int32)), (.iload_n 1, 0, 0, 0, .null), (.iadd, 0, 0, 0, .null), (.iconst 2, 0, 0, 0, .int (2 : Int32)), (.iastore, 0, 2, 0, .null)] [] (WW' := [w_Mo G a0 (Mo_s_now y16 ((upd (Mo_now y16) ((444 : Int32) + x1).toNatClampNeg (2 : Int32))))]) (lv' := [some (.ref (a0 0)), some (.int x1), some (.int x2), none, none]) (pc' := 192) (st' := []) (by decide +kernel) rfl rfl ⟨trivial, ⟨rfl, rfl, zw_6_43⟩, trivial, trivial, trivial, trivial, ⟨rfl, rfl, h19⟩, trivial⟩ ?_
      refine zr_eq (WW2 := [w_Mo G a0 y20]) (lv2 := [some (.ref (a0 0)), some (.int x1), some (.int x2), none, none]) (st2 := []) (by rw [e20]) rfl rfl ?_
      obtain rfl := Option.some.inj hf
      exact zr_vret (b0 := fun _ => 0) (by decide +kernel) rfl rfl rfl rfl rfl
    · have hf := ziff hf hc
      obtain ⟨h21, hf⟩ := zck_of hf
      obtain ⟨q22, e22, hf⟩ := zbi_of hf
      refine zr_run [(.aload_n 0, 0, 0, 0, .null), (.iload_n 1, 0, 0, 0, .null), (.aload_n 0, 0, 0, 0, .null), (.getfield 13, 0, 0, 14, .null), (.sipush 474, 0, 0, 0, .int (474 : Int32)), (.iload_n 1, 0, 0, 0, .null), (.iadd, 0, 0, 0, .null), (.iaload, 0, 2, 0, .null)] [] (WW' := [w_Mo G a0 y16]) (lv' := [some (.ref (a0 0)), some (.int x1), some (.int x2), none, none]) (pc' := 205) (st' := [.int ((Mo_now y16) ((474 : Int32) + x1).toNatClampNeg), .int x1, .ref (a0 0)]) (by decide +kernel) rfl rfl ⟨trivial, trivial, trivial, ⟨rfl, rfl, zw_6_43⟩, trivial, trivial, trivial, ⟨rfl, rfl, h21⟩, trivial⟩ ?_
      refine zr_callV (c_X12_dangerAt l G a0 y16 x1 ((Mo_now y16) ((474 : Int32) + x1).toNatClampNeg) q22 e22) (WW' := fun _ => [w_Mo G a0 q22.2]) (st := []) (st' := [.int q22.1]) [0] rfl rfl (fun _ => Nat.le_of_ble_eq_true rfl) (fun _ => rfl) rfl rfl nm_X12_dangerAt zw_7_237 zw_7_239 zw_0_95 zw_1_18 zw_8_0 rfl rfl rfl (Nat.le_of_ble_eq_true rfl) ⟨Nat.le_of_ble_eq_true rfl, Nat.le_of_ble_eq_true rfl⟩ (by decide +kernel) (fun _ => ?_)
      refine zr_run [(.istore 4, 0, 0, 0, .null), (.iload 4, 0, 0, 0, .null), (.iconst (-1), 0, 0, 0, .int (-1 : Int32))] [] (WW' := [w_Mo G a0 q22.2]) (lv' := [some (.ref (a0 0)), some (.int x1), some (.int x2), none, some (.int q22.1)]) (pc' := 213) (st' := [.int (-1 : Int32), .int q22.1]) (by decide +kernel) rfl rfl ⟨trivial, trivial, trivial, trivial⟩ ?_
      refine zr_icmp_eq (off := 26) (tgt := 239) (by decide +kernel) (by decide) (fun hc => ?_) (fun hc => ?_)
      · have hf := zift hf hc
        refine zr_run [] [2, 4] (WW' := [w_Mo G a0 q22.2]) (lv' := [some (.ref (a0 0)), some (.int x1), none, none, none]) (pc' := 239) (st' := []) (by decide +kernel) rfl rfl trivial ?_
        exact t_X12_walks_b239 l G a0 W0 r q22.2 x1 hf
      · have hf := ziff hf hc
        obtain ⟨q29, e29, hf⟩ := zbi_of hf
        refine zr_run [(.aload_n 0, 0, 0, 0, .null), (.bipush 12, 0, 0, 0, .int (12 : Int32))] [] (WW' := [w_Mo G a0 q22.2]) (lv' := [some (.ref (a0 0)), some (.int x1), some (.int x2), none, some (.int q22.1)]) (pc' := 219) (st' := [.int (12 : Int32), .ref (a0 0)]) (by decide +kernel) rfl rfl ⟨trivial, trivial, trivial⟩ ?_
        refine zr_callV (c_X12_draw l G a0 q22.2 (12 : Int32) q29 e29) (WW' := fun _ => [w_Mo G a0 q29.2]) (st := []) (st' := [.int q29.1]) [0] rfl rfl (fun _ => Nat.le_of_ble_eq_true rfl) (fun _ => rfl) rfl rfl nm_X12_draw zw_7_224 zw_7_226 zw_0_92 zw_1_18 zw_7_227 rfl rfl rfl (Nat.le_of_ble_eq_true rfl) ⟨Nat.le_of_ble_eq_true rfl, Nat.le_of_ble_eq_true rfl⟩ (by decide +kernel) (fun _ => ?_)
        refine zr_run [(.iload 4, 0, 0, 0, .null)] [] (WW' := [w_Mo G a0 q29.2]) (lv' := [some (.ref (a0 0)), some (.int x1), some (.int x2), none, some (.int q22.1)]) (pc' := 224) (st' := [.int q22.1, .int q29.1]) (by decide +kernel) rfl rfl ⟨trivial, trivial⟩ ?_
        refine zr_icmp_ge (off := 15) (tgt := 239) (by decide +kernel) (by decide) (fun hc => ?_) (fun hc => ?_)
        · have hf := zift hf hc
          obtain ⟨h30, hf⟩ := zck_of hf
          obtain ⟨y31, e31, hf⟩ := zlet_of hf
          refine zr_run [(.aload_n 0, 0, 0, 0, .null), (.getfield 13, 0, 0, 14, .null), (.sipush 444, 0, 0, 0, .int (444 : Int32)), (.iload_n 1, 0, 0, 0, .null), (.iadd, 0, 0, 0, .null), (.iconst 5, 0, 0, 0, .int (5 : Int32)), (.iastore, 0, 2, 0, .null)] [] (WW' := [w_Mo G a0 (Mo_s_now q29.2 ((upd (Mo_now q29.2) ((444 : Int32) + x1).toNatClampNeg (5 : Int32))))]) (lv' := [some (.ref (a0 0)), some (.int x1), some (.int x2), none, some (.int q22.1)]) (pc' := 238) (st' := []) (by decide +kernel) rfl rfl ⟨trivial, ⟨rfl, rfl, zw_6_43⟩, trivial, trivial, trivial, trivial, ⟨rfl, rfl, h30⟩, trivial⟩ ?_
          refine zr_eq (WW2 := [w_Mo G a0 y31]) (lv2 := [some (.ref (a0 0)), some (.int x1), some (.int x2), none, some (.int q22.1)]) (st2 := []) (by rw [e31]) rfl rfl ?_
          obtain rfl := Option.some.inj hf
          exact zr_vret (b0 := fun _ => 0) (by decide +kernel) rfl rfl rfl rfl rfl
        · have hf := ziff hf hc
          refine zr_run [] [2, 4] (WW' := [w_Mo G a0 q29.2]) (lv' := [some (.ref (a0 0)), some (.int x1), none, none, none]) (pc' := 239) (st' := []) (by decide +kernel) rfl rfl trivial ?_
          exact t_X12_walks_b239 l G a0 W0 r q29.2 x1 hf
set_option maxRecDepth 100000 in
set_option maxHeartbeats 4000000 in
theorem t_X12_walks_b62 (l : Launch) (G : zj_G) (a0 : Nat → Nat) (W0 : List va_W) (r : MoT) (s0 : MoT)   (x1 : Int32) (x2 : Int32) (z0 : Int32) (hf : f_X12_walks_b62 s0 x1 x2 z0 = some r) : zj_J l G M_X12_walks W0 (zj_ret G M_X12_walks W0 (none) (fun _ => [w_Mo G a0 r])) 0 0 [w_Mo G a0 s0] [some (.ref (a0 0)), some (.int x1), some (.int x2), none, none] 62 [.int z0] := by
  unfold f_X12_walks_b62 at hf
  refine zr_run [(.istore_n 3, 0, 0, 0, .null), (.iload_n 3, 0, 0, 0, .null)] [] (WW' := [w_Mo G a0 s0]) (lv' := [some (.ref (a0 0)), some (.int x1), some (.int x2), some (.int z0), none]) (pc' := 64) (st' := [.int z0]) (by decide +kernel) rfl rfl ⟨trivial, trivial, trivial⟩ ?_
  refine zr_if_eq (off := 8) (tgt := 72) (by decide +kernel) (by decide) (fun hc => ?_) (fun hc => ?_)
  · have hf := zift hf hc
    refine zr_run [(.iload_n 2, 0, 0, 0, .null)] [] (WW' := [w_Mo G a0 s0]) (lv' := [some (.ref (a0 0)), some (.int x1), some (.int x2), some (.int z0), none]) (pc' := 73) (st' := [.int x2]) (by decide +kernel) rfl rfl ⟨trivial, trivial⟩ ?_
    refine zr_if_le (off := 17) (tgt := 90) (by decide +kernel) (by decide) (fun hc => ?_) (fun hc => ?_)
    · have hf := zift hf hc
      obtain ⟨h6, hf⟩ := zck_of hf
      obtain ⟨y7, e7, hf⟩ := zlet_of hf
      refine zr_run [(.aload_n 0, 0, 0, 0, .null), (.getfield 13, 0, 0, 14, .null), (.sipush 498, 0, 0, 0, .int (498 : Int32)), (.iload_n 1, 0, 0, 0, .null), (.iadd, 0, 0, 0, .null), (.iconst 0, 0, 0, 0, .int (0 : Int32)), (.iastore, 0, 2, 0, .null)] [] (WW' := [w_Mo G a0 (Mo_s_now s0 ((upd (Mo_now s0) ((498 : Int32) + x1).toNatClampNeg (0 : Int32))))]) (lv' := [some (.ref (a0 0)), some (.int x1), some (.int x2), some (.int z0), none]) (pc' := 87) (st' := []) (by decide +kernel) rfl rfl ⟨trivial, ⟨rfl, rfl, zw_6_43⟩, trivial, trivial, trivial, trivial, ⟨rfl, rfl, h6⟩, trivial⟩ ?_
      refine zr_eq (WW2 := [w_Mo G a0 y7]) (lv2 := [some (.ref (a0 0)), some (.int x1), some (.int x2), some (.int z0), none]) (st2 := []) (by rw [e7]) rfl rfl ?_
      refine zr_goto (off := 17) (tgt := 104) (by decide +kernel) (by decide) ?_
      refine zr_run [] [3] (WW' := [w_Mo G a0 y7]) (lv' := [some (.ref (a0 0)), some (.int x1), some (.int x2), none, none]) (pc' := 104) (st' := []) (by decide +kernel) rfl rfl trivial ?_
      exact t_X12_walks_b104 l G a0 W0 r y7 x1 x2 hf
    · have hf := ziff hf hc
      obtain ⟨h32, hf⟩ := zck_of hf
      obtain ⟨h33, hf⟩ := zck_of hf
      obtain ⟨y34, e34, hf⟩ := zlet_of hf
      refine zr_run [(.aload_n 0, 0, 0, 0, .null), (.getfield 13, 0, 0, 14, .null), (.sipush 498, 0, 0, 0, .int (498 : Int32)), (.iload_n 1, 0, 0, 0, .null), (.iadd, 0, 0, 0, .null), (.dup2, 0, 0, 0, .null), (.iaload, 0, 2, 0, .null), (.iconst 1, 0, 0, 0, .int (1 : Int32)), (.iadd, 0, 0, 0, .null), (.iastore, 0, 2, 0, .null)] [] (WW' := [w_Mo G a0 (Mo_s_now s0 ((upd (Mo_now s0) ((498 : Int32) + x1).toNatClampNeg (((Mo_now s0) ((498 : Int32) + x1).toNatClampNeg) + (1 : Int32)))))]) (lv' := [some (.ref (a0 0)), some (.int x1), some (.int x2), some (.int z0), none]) (pc' := 104) (st' := []) (by decide +kernel) rfl rfl ⟨trivial, ⟨rfl, rfl, zw_6_43⟩, trivial, trivial, trivial, trivial, ⟨rfl, rfl, h32⟩, trivial, trivial, ⟨rfl, rfl, h33⟩, trivial⟩ ?_
      refine zr_eq (WW2 := [w_Mo G a0 y34]) (lv2 := [some (.ref (a0 0)), some (.int x1), some (.int x2), some (.int z0), none]) (st2 := []) (by rw [e34]) rfl rfl ?_
      refine zr_run [] [3] (WW' := [w_Mo G a0 y34]) (lv' := [some (.ref (a0 0)), some (.int x1), some (.int x2), none, none]) (pc' := 104) (st' := []) (by decide +kernel) rfl rfl trivial ?_
      exact t_X12_walks_b104 l G a0 W0 r y34 x1 x2 hf
  · have hf := ziff hf hc
    refine zr_run [(.iconst 0, 0, 0, 0, .int (0 : Int32)), (.istore_n 2, 0, 0, 0, .null)] [] (WW' := [w_Mo G a0 s0]) (lv' := [some (.ref (a0 0)), some (.int x1), some (.int (0 : Int32)), some (.int z0), none]) (pc' := 69) (st' := []) (by decide +kernel) rfl rfl ⟨trivial, trivial, trivial⟩ ?_
    refine zr_goto (off := 35) (tgt := 104) (by decide +kernel) (by decide) ?_
    refine zr_run [] [3] (WW' := [w_Mo G a0 s0]) (lv' := [some (.ref (a0 0)), some (.int x1), some (.int (0 : Int32)), none, none]) (pc' := 104) (st' := []) (by decide +kernel) rfl rfl trivial ?_
    exact t_X12_walks_b104 l G a0 W0 r s0 x1 (0 : Int32) hf
set_option maxRecDepth 100000 in
set_option maxHeartbeats 4000000 in
theorem t_X12_walks_b61 (l : Launch) (G : zj_G) (a0 : Nat → Nat) (W0 : List va_W) (r : MoT) (s0 : MoT)   (x1 : Int32) (x2 : Int32) (hf : f_X12_walks_b61 s0 x1 x2 = some r) : zj_J l G M_X12_walks W0 (zj_ret G M_X12_walks W0 (none) (fun _ => [w_Mo G a0 r])) 0 0 [w_Mo G a0 s0] [some (.ref (a0 0)), some (.int x1), some (.int x2), none, none] 61 [] := by
  unfold f_X12_walks_b61 at hf
  refine zr_run [(.iconst 0, 0, 0, 0, .int (0 : Int32))] [] (WW' := [w_Mo G a0 s0]) (lv' := [some (.ref (a0 0)), some (.int x1), some (.int x2), none, none]) (pc' := 62) (st' := [.int (0 : Int32)]) (by decide +kernel) rfl rfl ⟨trivial, trivial⟩ ?_
  exact t_X12_walks_b62 l G a0 W0 r s0 x1 x2 (0 : Int32) hf
set_option maxRecDepth 100000 in
set_option maxHeartbeats 4000000 in
theorem c_X12_walks (l : Launch) (G : zj_G) (a0 : Nat → Nat) (s0 : MoT) (x1 : Int32) (r : MoT) (hf : f_X12_walks s0 x1 = some r) : zj_C l G M_X12_walks yX12_walks [w_Mo G a0 s0] [.ref (a0 0), .int x1] (none) (fun _ => [w_Mo G a0 r]) := by
  have key : ∀ W0 : List va_W, zj_J l G M_X12_walks W0 (zj_ret G M_X12_walks W0 (none) (fun _ => [w_Mo G a0 r])) 0 0 [w_Mo G a0 s0] [some (.ref (a0 0)), some (.int x1), none, none, none] 0 [] := by
    intro W0
    unfold f_X12_walks at hf
    obtain ⟨h1, hf⟩ := zck_of hf
    obtain ⟨h2, hf⟩ := zck_of hf
    obtain ⟨h3, hf⟩ := zck_of hf
    obtain ⟨q4, e4, hf⟩ := zbi_of hf
    refine zr_run [(.aload_n 0, 0, 0, 0, .null), (.getfield 13, 0, 0, 14, .null), (.sipush 492, 0, 0, 0, .int (492 : Int32)), (.iload_n 1, 0, 0, 0, .null), (.iadd, 0, 0, 0, .null), (.iaload, 0, 2, 0, .null), (.aload_n 0, 0, 0, 0, .null), (.getfield 13, 0, 0, 14, .null), (.sipush 480, 0, 0, 0, .int (480 : Int32)), (.iload_n 1, 0, 0, 0, .null), (.iadd, 0, 0, 0, .null), (.iaload, 0, 2, 0, .null), (.aload_n 0, 0, 0, 0, .null), (.getfield 13, 0, 0, 14, .null), (.sipush 474, 0, 0, 0, .int (474 : Int32)), (.iload_n 1, 0, 0, 0, .null), (.iadd, 0, 0, 0, .null), (.iaload, 0, 2, 0, .null), (.isub, 0, 0, 0, .null)] [] (WW' := [w_Mo G a0 s0]) (lv' := [some (.ref (a0 0)), some (.int x1), none, none, none]) (pc' := 31) (st' := [.int (((Mo_now s0) ((480 : Int32) + x1).toNatClampNeg) - ((Mo_now s0) ((474 : Int32) + x1).toNatClampNeg)), .int ((Mo_now s0) ((492 : Int32) + x1).toNatClampNeg)]) (by decide +kernel) rfl rfl ⟨trivial, ⟨rfl, rfl, zw_6_43⟩, trivial, trivial, trivial, ⟨rfl, rfl, h1⟩, trivial, ⟨rfl, rfl, zw_6_43⟩, trivial, trivial, trivial, ⟨rfl, rfl, h2⟩, trivial, ⟨rfl, rfl, zw_6_43⟩, trivial, trivial, trivial, ⟨rfl, rfl, h3⟩, trivial, trivial⟩ ?_
    refine zr_callS (c_X12_least l G ((Mo_now s0) ((492 : Int32) + x1).toNatClampNeg) (((Mo_now s0) ((480 : Int32) + x1).toNatClampNeg) - ((Mo_now s0) ((474 : Int32) + x1).toNatClampNeg)) q4 e4) (WW' := fun _ => [w_Mo G a0 s0]) (st := []) (st' := [.int q4]) [] rfl rfl (fun _ => Nat.le_of_ble_eq_true rfl) (fun _ => rfl) rfl rfl nm_X12_least zw_7_81 zw_7_82 zw_1_18 zw_7_83 rfl (Nat.le_of_ble_eq_true rfl) ⟨Nat.le_of_ble_eq_true rfl, Nat.le_of_ble_eq_true rfl⟩ (by decide +kernel) (fun _ => ?_)
    refine zr_run [(.istore_n 2, 0, 0, 0, .null), (.iload_n 2, 0, 0, 0, .null)] [] (WW' := [w_Mo G a0 s0]) (lv' := [some (.ref (a0 0)), some (.int x1), some (.int q4), none, none]) (pc' := 36) (st' := [.int q4]) (by decide +kernel) rfl rfl ⟨trivial, trivial, trivial⟩ ?_
    refine zr_if_le (off := 25) (tgt := 61) (by decide +kernel) (by decide) (fun hc => ?_) (fun hc => ?_)
    · have hf := zift hf hc
      obtain ⟨q5, e5, hf⟩ := zbi_of hf
      refine zr_run [(.aload_n 0, 0, 0, 0, .null), (.iload_n 1, 0, 0, 0, .null), (.iload_n 2, 0, 0, 0, .null)] [] (WW' := [w_Mo G a0 s0]) (lv' := [some (.ref (a0 0)), some (.int x1), some (.int q4), none, none]) (pc' := 42) (st' := [.int q4, .int x1, .ref (a0 0)]) (by decide +kernel) rfl rfl ⟨trivial, trivial, trivial, trivial⟩ ?_
      refine zr_callV (c_X12_hasFord l G a0 s0 x1 q4 q5 e5) (WW' := fun _ => [w_Mo G a0 q5.2]) (st := []) (st' := [.int q5.1]) [0] rfl rfl (fun _ => Nat.le_of_ble_eq_true rfl) (fun _ => rfl) rfl rfl nm_X12_hasFord zw_7_233 zw_7_235 zw_0_94 zw_1_18 zw_7_236 rfl rfl rfl (Nat.le_of_ble_eq_true rfl) ⟨Nat.le_of_ble_eq_true rfl, Nat.le_of_ble_eq_true rfl⟩ (by decide +kernel) (fun _ => ?_)
      refine zr_if_eq (off := 16) (tgt := 61) (by decide +kernel) (by decide) (fun hc => ?_) (fun hc => ?_)
      · have hf := zift hf hc
        exact t_X12_walks_b61 l G a0 W0 r q5.2 x1 q4 hf
      · have hf := ziff hf hc
        obtain ⟨q35, e35, hf⟩ := zbi_of hf
        refine zr_run [(.aload_n 0, 0, 0, 0, .null), (.bipush 6, 0, 0, 0, .int (6 : Int32))] [] (WW' := [w_Mo G a0 q5.2]) (lv' := [some (.ref (a0 0)), some (.int x1), some (.int q4), none, none]) (pc' := 51) (st' := [.int (6 : Int32), .ref (a0 0)]) (by decide +kernel) rfl rfl ⟨trivial, trivial, trivial⟩ ?_
        refine zr_callV (c_X12_draw l G a0 q5.2 (6 : Int32) q35 e35) (WW' := fun _ => [w_Mo G a0 q35.2]) (st := []) (st' := [.int q35.1]) [0] rfl rfl (fun _ => Nat.le_of_ble_eq_true rfl) (fun _ => rfl) rfl rfl nm_X12_draw zw_7_224 zw_7_226 zw_0_92 zw_1_18 zw_7_227 rfl rfl rfl (Nat.le_of_ble_eq_true rfl) ⟨Nat.le_of_ble_eq_true rfl, Nat.le_of_ble_eq_true rfl⟩ (by decide +kernel) (fun _ => ?_)
        refine zr_if_ne (off := 7) (tgt := 61) (by decide +kernel) (by decide) (fun hc => ?_) (fun hc => ?_)
        · have hf := zift hf hc
          refine zr_run [(.iconst 1, 0, 0, 0, .int (1 : Int32))] [] (WW' := [w_Mo G a0 q35.2]) (lv' := [some (.ref (a0 0)), some (.int x1), some (.int q4), none, none]) (pc' := 58) (st' := [.int (1 : Int32)]) (by decide +kernel) rfl rfl ⟨trivial, trivial⟩ ?_
          refine zr_goto (off := 4) (tgt := 62) (by decide +kernel) (by decide) ?_
          exact t_X12_walks_b62 l G a0 W0 r q35.2 x1 q4 (1 : Int32) hf
        · have hf := ziff hf hc
          exact t_X12_walks_b61 l G a0 W0 r q35.2 x1 q4 hf
    · have hf := ziff hf hc
      exact t_X12_walks_b61 l G a0 W0 r s0 x1 q4 hf
  exact zj_entry [some (.ref (a0 0)), some (.int x1), none, none, none] (by decide +kernel) rfl (by decide) (Nat.le_of_ble_eq_true rfl) rfl rfl (key _)
def M_X12_oneDay : zj_M := (RX12, cX12_oneDay, 2, none, { frames := 5, cells := 0, slots := 0, locals := 117 }, false)
theorem nm_X12_oneDay : zj_nm yX12_oneDay 0 := ⟨by decide +kernel, by decide +kernel, by decide +kernel⟩
def f_X12_oneDay_b53  (s0 : MoT) (k2 : MoT → Int32 → Option (MoT)) (x1 : Int32) : Option (MoT) := k2 s0 (x1 + (1 : Int32))
def f_X12_oneDay_H2  (s0 : MoT) (k2 : MoT → Int32 → Option (MoT)) (x1 : Int32) : Option (MoT) := (if x1 < ((Mo_now s0) (2 : Int32).toNatClampNeg) then (if zb_in ((444 : Int32) + x1) 758 = true then (if ((Mo_now s0) ((444 : Int32) + x1).toNatClampNeg) = (2 : Int32) then ((f_X12_waits s0 x1).bind fun q2 => f_X12_oneDay_b53 q2 k2 x1) else (if zb_in ((444 : Int32) + x1) 758 = true then (if ((Mo_now s0) ((444 : Int32) + x1).toNatClampNeg) = (1 : Int32) then ((f_X12_walks s0 x1).bind fun q4 => f_X12_oneDay_b53 q4 k2 x1) else f_X12_oneDay_b53 s0 k2 x1) else none)) else none) else (zlet (Mo_s_now s0 ((upd (Mo_now s0) (443 : Int32).toNatClampNeg (((Mo_now s0) (443 : Int32).toNatClampNeg) + (1 : Int32))))) fun y5 => some y5))
def f_X12_oneDay_L2    : Nat → MoT → Int32 → Option (MoT)
  | 0 => fun _ _ => none
  | n + 1 => fun s0 x1 => f_X12_oneDay_H2 s0 (f_X12_oneDay_L2  n) x1
def f_X12_oneDay  (s0 : MoT)  : Option (MoT) := f_X12_oneDay_L2 zFU s0 (0 : Int32)
set_option maxRecDepth 100000 in
set_option maxHeartbeats 4000000 in
theorem t_X12_oneDay_b53 (l : Launch) (G : zj_G) (a0 : Nat → Nat) (W0 : List va_W) (r : MoT) (s0 : MoT) (k2 : MoT → Int32 → Option (MoT)) (hk2 : ∀ (s0 : MoT) (x1 : Int32), k2 s0 x1 = some r → zj_J l G M_X12_oneDay W0 (zj_ret G M_X12_oneDay W0 (none) (fun _ => [w_Mo G a0 r])) 0 0 [w_Mo G a0 s0] [some (.ref (a0 0)), some (.int x1)] 2 []) (x1 : Int32) (hf : f_X12_oneDay_b53 s0 k2 x1 = some r) : zj_J l G M_X12_oneDay W0 (zj_ret G M_X12_oneDay W0 (none) (fun _ => [w_Mo G a0 r])) 0 0 [w_Mo G a0 s0] [some (.ref (a0 0)), some (.int x1)] 53 [] := by
  unfold f_X12_oneDay_b53 at hf
  refine zr_run [(.iinc 1 1, 0, 0, 0, .int (1 : Int32))] [] (WW' := [w_Mo G a0 s0]) (lv' := [some (.ref (a0 0)), some (.int (x1 + (1 : Int32)))]) (pc' := 56) (st' := []) (by decide +kernel) rfl rfl ⟨trivial, trivial⟩ ?_
  refine zr_goto (off := -54) (tgt := 2) (by decide +kernel) (by decide) ?_
  exact hk2 s0 (x1 + (1 : Int32)) hf
set_option maxRecDepth 100000 in
set_option maxHeartbeats 4000000 in
theorem t_X12_oneDay_H2 (l : Launch) (G : zj_G) (a0 : Nat → Nat) (W0 : List va_W) (r : MoT) (s0 : MoT) (k2 : MoT → Int32 → Option (MoT)) (hk2 : ∀ (s0 : MoT) (x1 : Int32), k2 s0 x1 = some r → zj_J l G M_X12_oneDay W0 (zj_ret G M_X12_oneDay W0 (none) (fun _ => [w_Mo G a0 r])) 0 0 [w_Mo G a0 s0] [some (.ref (a0 0)), some (.int x1)] 2 []) (x1 : Int32) (hf : f_X12_oneDay_H2 s0 k2 x1 = some r) : zj_J l G M_X12_oneDay W0 (zj_ret G M_X12_oneDay W0 (none) (fun _ => [w_Mo G a0 r])) 0 0 [w_Mo G a0 s0] [some (.ref (a0 0)), some (.int x1)] 2 [] := by
  unfold f_X12_oneDay_H2 at hf
  refine zr_run [(.iload_n 1, 0, 0, 0, .null), (.aload_n 0, 0, 0, 0, .null), (.getfield 13, 0, 0, 14, .null), (.iconst 2, 0, 0, 0, .int (2 : Int32)), (.iaload, 0, 2, 0, .null)] [] (WW' := [w_Mo G a0 s0]) (lv' := [some (.ref (a0 0)), some (.int x1)]) (pc' := 9) (st' := [.int ((Mo_now s0) (2 : Int32).toNatClampNeg), .int x1]) (by decide +kernel) rfl rfl ⟨trivial, trivial, ⟨rfl, rfl, zw_6_43⟩, trivial, ⟨rfl, rfl, (by decide)⟩, trivial⟩ ?_
  refine zr_icmp_ge (off := 50) (tgt := 59) (by decide +kernel) (by decide) (fun hc => ?_) (fun hc => ?_)
  · have hf := zift hf hc
    obtain ⟨h1, hf⟩ := zck_of hf
    refine zr_run [(.aload_n 0, 0, 0, 0, .null), (.getfield 13, 0, 0, 14, .null), (.sipush 444, 0, 0, 0, .int (444 : Int32)), (.iload_n 1, 0, 0, 0, .null), (.iadd, 0, 0, 0, .null), (.iaload, 0, 2, 0, .null), (.iconst 2, 0, 0, 0, .int (2 : Int32))] [] (WW' := [w_Mo G a0 s0]) (lv' := [some (.ref (a0 0)), some (.int x1)]) (pc' := 23) (st' := [.int (2 : Int32), .int ((Mo_now s0) ((444 : Int32) + x1).toNatClampNeg)]) (by decide +kernel) rfl rfl ⟨trivial, ⟨rfl, rfl, zw_6_43⟩, trivial, trivial, trivial, ⟨rfl, rfl, h1⟩, trivial, trivial⟩ ?_
    refine zr_icmp_ne (off := 11) (tgt := 34) (by decide +kernel) (by decide) (fun hc => ?_) (fun hc => ?_)
    · have hf := zift hf hc
      obtain ⟨q2, e2, hf⟩ := zbi_of hf
      refine zr_run [(.aload_n 0, 0, 0, 0, .null), (.iload_n 1, 0, 0, 0, .null)] [] (WW' := [w_Mo G a0 s0]) (lv' := [some (.ref (a0 0)), some (.int x1)]) (pc' := 28) (st' := [.int x1, .ref (a0 0)]) (by decide +kernel) rfl rfl ⟨trivial, trivial, trivial⟩ ?_
      refine zr_callV (c_X12_waits l G a0 s0 x1 q2 e2) (WW' := fun _ => [w_Mo G a0 q2]) (st := []) (st' := []) [0] rfl rfl (fun _ => Nat.le_of_ble_eq_true rfl) (fun _ => rfl) rfl rfl nm_X12_waits zw_7_220 zw_7_222 zw_0_91 zw_1_18 zw_7_223 rfl rfl rfl (Nat.le_of_ble_eq_true rfl) ⟨Nat.le_of_ble_eq_true rfl, Nat.le_of_ble_eq_true rfl⟩ (by decide +kernel) (fun _ => ?_)
      refine zr_goto (off := 22) (tgt := 53) (by decide +kernel) (by decide) ?_
      exact t_X12_oneDay_b53 l G a0 W0 r q2 k2 hk2 x1 hf
    · have hf := ziff hf hc
      obtain ⟨h3, hf⟩ := zck_of hf
      refine zr_run [(.aload_n 0, 0, 0, 0, .null), (.getfield 13, 0, 0, 14, .null), (.sipush 444, 0, 0, 0, .int (444 : Int32)), (.iload_n 1, 0, 0, 0, .null), (.iadd, 0, 0, 0, .null), (.iaload, 0, 2, 0, .null), (.iconst 1, 0, 0, 0, .int (1 : Int32))] [] (WW' := [w_Mo G a0 s0]) (lv' := [some (.ref (a0 0)), some (.int x1)]) (pc' := 45) (st' := [.int (1 : Int32), .int ((Mo_now s0) ((444 : Int32) + x1).toNatClampNeg)]) (by decide +kernel) rfl rfl ⟨trivial, ⟨rfl, rfl, zw_6_43⟩, trivial, trivial, trivial, ⟨rfl, rfl, h3⟩, trivial, trivial⟩ ?_
      refine zr_icmp_ne (off := 8) (tgt := 53) (by decide +kernel) (by decide) (fun hc => ?_) (fun hc => ?_)
      · have hf := zift hf hc
        obtain ⟨q4, e4, hf⟩ := zbi_of hf
        refine zr_run [(.aload_n 0, 0, 0, 0, .null), (.iload_n 1, 0, 0, 0, .null)] [] (WW' := [w_Mo G a0 s0]) (lv' := [some (.ref (a0 0)), some (.int x1)]) (pc' := 50) (st' := [.int x1, .ref (a0 0)]) (by decide +kernel) rfl rfl ⟨trivial, trivial, trivial⟩ ?_
        refine zr_callV (c_X12_walks l G a0 s0 x1 q4 e4) (WW' := fun _ => [w_Mo G a0 q4]) (st := []) (st' := []) [0] rfl rfl (fun _ => Nat.le_of_ble_eq_true rfl) (fun _ => rfl) rfl rfl nm_X12_walks zw_7_229 zw_7_231 zw_0_93 zw_1_18 zw_7_232 rfl rfl rfl (Nat.le_of_ble_eq_true rfl) ⟨Nat.le_of_ble_eq_true rfl, Nat.le_of_ble_eq_true rfl⟩ (by decide +kernel) (fun _ => ?_)
        exact t_X12_oneDay_b53 l G a0 W0 r q4 k2 hk2 x1 hf
      · have hf := ziff hf hc
        exact t_X12_oneDay_b53 l G a0 W0 r s0 k2 hk2 x1 hf
  · have hf := ziff hf hc
    obtain ⟨y5, e5, hf⟩ := zlet_of hf
    refine zr_run [(.aload_n 0, 0, 0, 0, .null), (.getfield 13, 0, 0, 14, .null), (.sipush 443, 0, 0, 0, .int (443 : Int32)), (.dup2, 0, 0, 0, .null), (.iaload, 0, 2, 0, .null), (.iconst 1, 0, 0, 0, .int (1 : Int32)), (.iadd, 0, 0, 0, .null), (.iastore, 0, 2, 0, .null)] [] (WW' := [w_Mo G a0 (Mo_s_now s0 ((upd (Mo_now s0) (443 : Int32).toNatClampNeg (((Mo_now s0) (443 : Int32).toNatClampNeg) + (1 : Int32)))))]) (lv' := [some (.ref (a0 0)), some (.int x1)]) (pc' := 71) (st' := []) (by decide +kernel) rfl rfl ⟨trivial, ⟨rfl, rfl, zw_6_43⟩, trivial, trivial, ⟨rfl, rfl, (by decide)⟩, trivial, trivial, ⟨rfl, rfl, (by decide)⟩, trivial⟩ ?_
    refine zr_eq (WW2 := [w_Mo G a0 y5]) (lv2 := [some (.ref (a0 0)), some (.int x1)]) (st2 := []) (by rw [e5]) rfl rfl ?_
    obtain rfl := Option.some.inj hf
    exact zr_vret (b0 := fun _ => 0) (by decide +kernel) rfl rfl rfl rfl rfl
theorem t_X12_oneDay_L2 (l : Launch) (G : zj_G) (a0 : Nat → Nat) (W0 : List va_W) (r : MoT)    : ∀ (n : Nat) (s0 : MoT) (x1 : Int32), f_X12_oneDay_L2 n s0 x1 = some r → zj_J l G M_X12_oneDay W0 (zj_ret G M_X12_oneDay W0 (none) (fun _ => [w_Mo G a0 r])) 0 0 [w_Mo G a0 s0] [some (.ref (a0 0)), some (.int x1)] 2 [] := by
  intro n
  induction n with
  | zero => intro s0 x1 hf; exact nomatch (show none = some r from hf)
  | succ n ih => intro s0 x1 hf; exact t_X12_oneDay_H2 l G a0 W0 r s0  (f_X12_oneDay_L2 n)  ih x1  hf
set_option maxRecDepth 100000 in
set_option maxHeartbeats 4000000 in
theorem c_X12_oneDay (l : Launch) (G : zj_G) (a0 : Nat → Nat) (s0 : MoT)  (r : MoT) (hf : f_X12_oneDay s0 = some r) : zj_C l G M_X12_oneDay yX12_oneDay [w_Mo G a0 s0] [.ref (a0 0)] (none) (fun _ => [w_Mo G a0 r]) := by
  have key : ∀ W0 : List va_W, zj_J l G M_X12_oneDay W0 (zj_ret G M_X12_oneDay W0 (none) (fun _ => [w_Mo G a0 r])) 0 0 [w_Mo G a0 s0] [some (.ref (a0 0)), none] 0 [] := by
    intro W0
    unfold f_X12_oneDay at hf
    refine zr_run [(.iconst 0, 0, 0, 0, .int (0 : Int32)), (.istore_n 1, 0, 0, 0, .null)] [] (WW' := [w_Mo G a0 s0]) (lv' := [some (.ref (a0 0)), some (.int (0 : Int32))]) (pc' := 2) (st' := []) (by decide +kernel) rfl rfl ⟨trivial, trivial, trivial⟩ ?_
    exact t_X12_oneDay_L2 l G a0 W0 r zFU s0 (0 : Int32) hf
  exact zj_entry [some (.ref (a0 0)), none] (by decide +kernel) rfl (by decide) (Nat.le_of_ble_eq_true rfl) rfl rfl (key _)
def M_X12_passDays : zj_M := (RX12, cX12_passDays, 5, (some .int), { frames := 6, cells := 0, slots := 0, locals := 138 }, false)
theorem nm_X12_passDays : zj_nm yX12_passDays 2 := ⟨by decide +kernel, by decide +kernel, by decide +kernel⟩
def f_X12_passDays_H25  (s0 : MoT) (k25 : MoT → Int32 → Int32 → Option (Int32 × MoT)) (x3 : Int32) (x4 : Int32) : Option (Int32 × MoT) := (if x4 < x3 then ((f_X12_oneDay s0).bind fun q3 => k25 q3 x3 (x4 + (1 : Int32))) else some (x3, s0))
def f_X12_passDays_L25    : Nat → MoT → Int32 → Int32 → Option (Int32 × MoT)
  | 0 => fun _ _ _ => none
  | n + 1 => fun s0 x3 x4 => f_X12_passDays_H25 s0 (f_X12_passDays_L25  n) x3 x4
def f_X12_passDays  (s0 : MoT) (x1 : Int32) (x2 : Int32) : Option (Int32 × MoT) := (zlet (Mo_s_seed s0 x2) fun y1 => ((f_X12_least x1 ((400 : Int32) - ((Mo_now y1) (443 : Int32).toNatClampNeg))).bind fun q2 => f_X12_passDays_L25 zFU y1 q2 (0 : Int32)))
set_option maxRecDepth 100000 in
set_option maxHeartbeats 4000000 in
theorem t_X12_passDays_H25 (l : Launch) (G : zj_G) (a0 : Nat → Nat) (W0 : List va_W) (r : Int32 × MoT) (s0 : MoT) (k25 : MoT → Int32 → Int32 → Option (Int32 × MoT)) (hk25 : ∀ (s0 : MoT) (x3 : Int32) (x4 : Int32), k25 s0 x3 x4 = some r → zj_J l G M_X12_passDays W0 (zj_ret G M_X12_passDays W0 (some (.int r.1)) (fun _ => [w_Mo G a0 r.2])) 0 0 [w_Mo G a0 s0] [some (.ref (a0 0)), none, none, some (.int x3), some (.int x4)] 25 []) (x3 : Int32) (x4 : Int32) (hf : f_X12_passDays_H25 s0 k25 x3 x4 = some r) : zj_J l G M_X12_passDays W0 (zj_ret G M_X12_passDays W0 (some (.int r.1)) (fun _ => [w_Mo G a0 r.2])) 0 0 [w_Mo G a0 s0] [some (.ref (a0 0)), none, none, some (.int x3), some (.int x4)] 25 [] := by
  unfold f_X12_passDays_H25 at hf
  refine zr_run [(.iload 4, 0, 0, 0, .null), (.iload_n 3, 0, 0, 0, .null)] [] (WW' := [w_Mo G a0 s0]) (lv' := [some (.ref (a0 0)), none, none, some (.int x3), some (.int x4)]) (pc' := 28) (st' := [.int x3, .int x4]) (by decide +kernel) rfl rfl ⟨trivial, trivial, trivial⟩ ?_
  refine zr_icmp_ge (off := 13) (tgt := 41) (by decide +kernel) (by decide) (fun hc => ?_) (fun hc => ?_)
  · have hf := zift hf hc
    obtain ⟨q3, e3, hf⟩ := zbi_of hf
    refine zr_run [(.aload_n 0, 0, 0, 0, .null)] [] (WW' := [w_Mo G a0 s0]) (lv' := [some (.ref (a0 0)), none, none, some (.int x3), some (.int x4)]) (pc' := 32) (st' := [.ref (a0 0)]) (by decide +kernel) rfl rfl ⟨trivial, trivial⟩ ?_
    refine zr_callV (c_X12_oneDay l G a0 s0 q3 e3) (WW' := fun _ => [w_Mo G a0 q3]) (st := []) (st' := []) [0] rfl rfl (fun _ => Nat.le_of_ble_eq_true rfl) (fun _ => rfl) rfl rfl nm_X12_oneDay zw_7_216 zw_7_218 zw_0_90 zw_1_18 zw_7_219 rfl rfl rfl (Nat.le_of_ble_eq_true rfl) ⟨Nat.le_of_ble_eq_true rfl, Nat.le_of_ble_eq_true rfl⟩ (by decide +kernel) (fun _ => ?_)
    refine zr_run [(.iinc 4 1, 0, 0, 0, .int (1 : Int32))] [] (WW' := [w_Mo G a0 q3]) (lv' := [some (.ref (a0 0)), none, none, some (.int x3), some (.int (x4 + (1 : Int32)))]) (pc' := 38) (st' := []) (by decide +kernel) rfl rfl ⟨trivial, trivial⟩ ?_
    refine zr_goto (off := -13) (tgt := 25) (by decide +kernel) (by decide) ?_
    exact hk25 q3 x3 (x4 + (1 : Int32)) hf
  · have hf := ziff hf hc
    refine zr_run [(.iload_n 3, 0, 0, 0, .null)] [] (WW' := [w_Mo G a0 s0]) (lv' := [some (.ref (a0 0)), none, none, some (.int x3), some (.int x4)]) (pc' := 42) (st' := [.int x3]) (by decide +kernel) rfl rfl ⟨trivial, trivial⟩ ?_
    obtain rfl := Option.some.inj hf
    exact zr_iret (b0 := fun _ => 0) (by decide +kernel) rfl rfl rfl rfl rfl
theorem t_X12_passDays_L25 (l : Launch) (G : zj_G) (a0 : Nat → Nat) (W0 : List va_W) (r : Int32 × MoT)    : ∀ (n : Nat) (s0 : MoT) (x3 : Int32) (x4 : Int32), f_X12_passDays_L25 n s0 x3 x4 = some r → zj_J l G M_X12_passDays W0 (zj_ret G M_X12_passDays W0 (some (.int r.1)) (fun _ => [w_Mo G a0 r.2])) 0 0 [w_Mo G a0 s0] [some (.ref (a0 0)), none, none, some (.int x3), some (.int x4)] 25 [] := by
  intro n
  induction n with
  | zero => intro s0 x3 x4 hf; exact nomatch (show none = some r from hf)
  | succ n ih => intro s0 x3 x4 hf; exact t_X12_passDays_H25 l G a0 W0 r s0  (f_X12_passDays_L25 n)  ih x3 x4  hf
set_option maxRecDepth 100000 in
set_option maxHeartbeats 4000000 in
theorem c_X12_passDays (l : Launch) (G : zj_G) (a0 : Nat → Nat) (s0 : MoT) (x1 : Int32) (x2 : Int32) (r : Int32 × MoT) (hf : f_X12_passDays s0 x1 x2 = some r) : zj_C l G M_X12_passDays yX12_passDays [w_Mo G a0 s0] [.ref (a0 0), .int x1, .int x2] (some (.int r.1)) (fun _ => [w_Mo G a0 r.2]) := by
  have key : ∀ W0 : List va_W, zj_J l G M_X12_passDays W0 (zj_ret G M_X12_passDays W0 (some (.int r.1)) (fun _ => [w_Mo G a0 r.2])) 0 0 [w_Mo G a0 s0] [some (.ref (a0 0)), some (.int x1), some (.int x2), none, none] 0 [] := by
    intro W0
    unfold f_X12_passDays at hf
    obtain ⟨y1, e1, hf⟩ := zlet_of hf
    refine zr_run [(.aload_n 0, 0, 0, 0, .null), (.iload_n 2, 0, 0, 0, .null), (.putfield 311, 0, 0, 26, .null)] [] (WW' := [w_Mo G a0 (Mo_s_seed s0 x2)]) (lv' := [some (.ref (a0 0)), some (.int x1), some (.int x2), none, none]) (pc' := 5) (st' := []) (by decide +kernel) rfl rfl ⟨trivial, trivial, ⟨rfl, rfl, rfl, trivial, rfl, rfl, zw_6_55⟩, trivial⟩ ?_
    refine zr_eq (WW2 := [w_Mo G a0 y1]) (lv2 := [some (.ref (a0 0)), some (.int x1), some (.int x2), none, none]) (st2 := []) (by rw [e1]) rfl rfl ?_
    obtain ⟨q2, e2, hf⟩ := zbi_of hf
    refine zr_run [(.iload_n 1, 0, 0, 0, .null), (.sipush 400, 0, 0, 0, .int (400 : Int32)), (.aload_n 0, 0, 0, 0, .null), (.getfield 13, 0, 0, 14, .null), (.sipush 443, 0, 0, 0, .int (443 : Int32)), (.iaload, 0, 2, 0, .null), (.isub, 0, 0, 0, .null)] [] (WW' := [w_Mo G a0 y1]) (lv' := [some (.ref (a0 0)), some (.int x1), some (.int x2), none, none]) (pc' := 18) (st' := [.int ((400 : Int32) - ((Mo_now y1) (443 : Int32).toNatClampNeg)), .int x1]) (by decide +kernel) rfl rfl ⟨trivial, trivial, trivial, ⟨rfl, rfl, zw_6_43⟩, trivial, ⟨rfl, rfl, (by decide)⟩, trivial, trivial⟩ ?_
    refine zr_callS (c_X12_least l G x1 ((400 : Int32) - ((Mo_now y1) (443 : Int32).toNatClampNeg)) q2 e2) (WW' := fun _ => [w_Mo G a0 y1]) (st := []) (st' := [.int q2]) [] rfl rfl (fun _ => Nat.le_of_ble_eq_true rfl) (fun _ => rfl) rfl rfl nm_X12_least zw_7_81 zw_7_82 zw_1_18 zw_7_83 rfl (Nat.le_of_ble_eq_true rfl) ⟨Nat.le_of_ble_eq_true rfl, Nat.le_of_ble_eq_true rfl⟩ (by decide +kernel) (fun _ => ?_)
    refine zr_run [(.istore_n 3, 0, 0, 0, .null), (.iconst 0, 0, 0, 0, .int (0 : Int32)), (.istore 4, 0, 0, 0, .null)] [1, 2] (WW' := [w_Mo G a0 y1]) (lv' := [some (.ref (a0 0)), none, none, some (.int q2), some (.int (0 : Int32))]) (pc' := 25) (st' := []) (by decide +kernel) rfl rfl ⟨trivial, trivial, trivial, trivial⟩ ?_
    exact t_X12_passDays_L25 l G a0 W0 r zFU y1 q2 (0 : Int32) hf
  exact zj_entry [some (.ref (a0 0)), some (.int x1), some (.int x2), none, none] (by decide +kernel) rfl (by decide) (Nat.le_of_ble_eq_true rfl) rfl rfl (key _)
def M_X12_days : zj_M := (RX12, cX12_days, 3, (some .int), { frames := 7, cells := 0, slots := 0, locals := 162 }, false)
theorem nm_X12_days : zj_nm yX12_days 2 := ⟨by decide +kernel, by decide +kernel, by decide +kernel⟩
def f_X12_days  (s0 : MoT) (x1 : Int32) (x2 : Int32) : Option (Int32 × MoT) := (zlet (Mo_s_thrown s0 (0 : Int32)) fun y1 => ((f_X12_isIn x1 (1 : Int32) (30 : Int32)).bind fun q2 => (if q2 = 0 then some ((-1 : Int32), y1) else (if ((Mo_now y1) (443 : Int32).toNatClampNeg) = (400 : Int32) then some ((0 : Int32), y1) else ((f_X12_snap y1).bind fun q3 => ((f_X12_passDays q3 x1 x2).bind fun q4 => some (q4.1, q4.2)))))))
set_option maxRecDepth 100000 in
set_option maxHeartbeats 4000000 in
theorem c_X12_days (l : Launch) (G : zj_G) (a0 : Nat → Nat) (s0 : MoT) (x1 : Int32) (x2 : Int32) (r : Int32 × MoT) (hf : f_X12_days s0 x1 x2 = some r) : zj_C l G M_X12_days yX12_days [w_Mo G a0 s0] [.ref (a0 0), .int x1, .int x2] (some (.int r.1)) (fun _ => [w_Mo G a0 r.2]) := by
  have key : ∀ W0 : List va_W, zj_J l G M_X12_days W0 (zj_ret G M_X12_days W0 (some (.int r.1)) (fun _ => [w_Mo G a0 r.2])) 0 0 [w_Mo G a0 s0] [some (.ref (a0 0)), some (.int x1), some (.int x2)] 0 [] := by
    intro W0
    unfold f_X12_days at hf
    obtain ⟨y1, e1, hf⟩ := zlet_of hf
    refine zr_run [(.aload_n 0, 0, 0, 0, .null), (.iconst 0, 0, 0, 0, .int (0 : Int32)), (.putfield 91, 0, 0, 0, .null)] [] (WW' := [w_Mo G a0 (Mo_s_thrown s0 (0 : Int32))]) (lv' := [some (.ref (a0 0)), some (.int x1), some (.int x2)]) (pc' := 5) (st' := []) (by decide +kernel) rfl rfl ⟨trivial, trivial, ⟨rfl, rfl, rfl, trivial, rfl, rfl, zw_6_29⟩, trivial⟩ ?_
    refine zr_eq (WW2 := [w_Mo G a0 y1]) (lv2 := [some (.ref (a0 0)), some (.int x1), some (.int x2)]) (st2 := []) (by rw [e1]) rfl rfl ?_
    obtain ⟨q2, e2, hf⟩ := zbi_of hf
    refine zr_run [(.iload_n 1, 0, 0, 0, .null), (.iconst 1, 0, 0, 0, .int (1 : Int32)), (.bipush 30, 0, 0, 0, .int (30 : Int32))] [] (WW' := [w_Mo G a0 y1]) (lv' := [some (.ref (a0 0)), some (.int x1), some (.int x2)]) (pc' := 9) (st' := [.int (30 : Int32), .int (1 : Int32), .int x1]) (by decide +kernel) rfl rfl ⟨trivial, trivial, trivial, trivial⟩ ?_
    refine zr_callS (c_X12_isIn l G x1 (1 : Int32) (30 : Int32) q2 e2) (WW' := fun _ => [w_Mo G a0 y1]) (st := []) (st' := [.int q2]) [] rfl rfl (fun _ => Nat.le_of_ble_eq_true rfl) (fun _ => rfl) rfl rfl nm_X12_isIn zw_7_38 zw_7_39 zw_1_18 zw_7_40 rfl (Nat.le_of_ble_eq_true rfl) ⟨Nat.le_of_ble_eq_true rfl, Nat.le_of_ble_eq_true rfl⟩ (by decide +kernel) (fun _ => ?_)
    refine zr_if_ne (off := 5) (tgt := 17) (by decide +kernel) (by decide) (fun hc => ?_) (fun hc => ?_)
    · have hf := zift hf hc
      refine zr_run [(.iconst (-1), 0, 0, 0, .int (-1 : Int32))] [] (WW' := [w_Mo G a0 y1]) (lv' := [some (.ref (a0 0)), some (.int x1), some (.int x2)]) (pc' := 16) (st' := [.int (-1 : Int32)]) (by decide +kernel) rfl rfl ⟨trivial, trivial⟩ ?_
      obtain rfl := Option.some.inj hf
      exact zr_iret (b0 := fun _ => 0) (by decide +kernel) rfl rfl rfl rfl rfl
    · have hf := ziff hf hc
      refine zr_run [(.aload_n 0, 0, 0, 0, .null), (.getfield 13, 0, 0, 14, .null), (.sipush 443, 0, 0, 0, .int (443 : Int32)), (.iaload, 0, 2, 0, .null), (.sipush 400, 0, 0, 0, .int (400 : Int32))] [] (WW' := [w_Mo G a0 y1]) (lv' := [some (.ref (a0 0)), some (.int x1), some (.int x2)]) (pc' := 28) (st' := [.int (400 : Int32), .int ((Mo_now y1) (443 : Int32).toNatClampNeg)]) (by decide +kernel) rfl rfl ⟨trivial, ⟨rfl, rfl, zw_6_43⟩, trivial, ⟨rfl, rfl, (by decide)⟩, trivial, trivial⟩ ?_
      refine zr_icmp_ne (off := 5) (tgt := 33) (by decide +kernel) (by decide) (fun hc => ?_) (fun hc => ?_)
      · have hf := zift hf hc
        refine zr_run [(.iconst 0, 0, 0, 0, .int (0 : Int32))] [] (WW' := [w_Mo G a0 y1]) (lv' := [some (.ref (a0 0)), some (.int x1), some (.int x2)]) (pc' := 32) (st' := [.int (0 : Int32)]) (by decide +kernel) rfl rfl ⟨trivial, trivial⟩ ?_
        obtain rfl := Option.some.inj hf
        exact zr_iret (b0 := fun _ => 0) (by decide +kernel) rfl rfl rfl rfl rfl
      · have hf := ziff hf hc
        obtain ⟨q3, e3, hf⟩ := zbi_of hf
        refine zr_run [(.aload_n 0, 0, 0, 0, .null)] [] (WW' := [w_Mo G a0 y1]) (lv' := [some (.ref (a0 0)), some (.int x1), some (.int x2)]) (pc' := 34) (st' := [.ref (a0 0)]) (by decide +kernel) rfl rfl ⟨trivial, trivial⟩ ?_
        refine zr_callV (c_X12_snap l G a0 y1 q3 e3) (WW' := fun _ => [w_Mo G a0 q3]) (st := []) (st' := []) [0] rfl rfl (fun _ => Nat.le_of_ble_eq_true rfl) (fun _ => rfl) rfl rfl nm_X12_snap zw_7_172 zw_7_174 zw_0_85 zw_1_18 zw_7_175 rfl rfl rfl (Nat.le_of_ble_eq_true rfl) ⟨Nat.le_of_ble_eq_true rfl, Nat.le_of_ble_eq_true rfl⟩ (by decide +kernel) (fun _ => ?_)
        obtain ⟨q4, e4, hf⟩ := zbi_of hf
        refine zr_run [(.aload_n 0, 0, 0, 0, .null), (.iload_n 1, 0, 0, 0, .null), (.iload_n 2, 0, 0, 0, .null)] [] (WW' := [w_Mo G a0 q3]) (lv' := [some (.ref (a0 0)), some (.int x1), some (.int x2)]) (pc' := 40) (st' := [.int x2, .int x1, .ref (a0 0)]) (by decide +kernel) rfl rfl ⟨trivial, trivial, trivial, trivial⟩ ?_
        refine zr_callV (c_X12_passDays l G a0 q3 x1 x2 q4 e4) (WW' := fun _ => [w_Mo G a0 q4.2]) (st := []) (st' := [.int q4.1]) [0] rfl rfl (fun _ => Nat.le_of_ble_eq_true rfl) (fun _ => rfl) rfl rfl nm_X12_passDays zw_7_212 zw_7_214 zw_0_89 zw_1_18 zw_7_215 rfl rfl rfl (Nat.le_of_ble_eq_true rfl) ⟨Nat.le_of_ble_eq_true rfl, Nat.le_of_ble_eq_true rfl⟩ (by decide +kernel) (fun _ => ?_)
        obtain rfl := Option.some.inj hf
        exact zr_iret (b0 := fun _ => 0) (by decide +kernel) rfl rfl rfl rfl rfl
  exact zj_entry [some (.ref (a0 0)), some (.int x1), some (.int x2)] (by decide +kernel) rfl (by decide) (Nat.le_of_ble_eq_true rfl) rfl rfl (key _)
def M_X12_far : zj_M := (RX12, cX12_far, 3, (some .int), { frames := 2, cells := 0, slots := 0, locals := 43 }, false)
theorem nm_X12_far : zj_nm yX12_far 2 := ⟨by decide +kernel, by decide +kernel, by decide +kernel⟩
def f_X12_far_b41  (s0 : MoT)   : Option (Int32 × MoT) := some ((-1 : Int32), s0)
def f_X12_far  (s0 : MoT) (x1 : Int32) (x2 : Int32) : Option (Int32 × MoT) := (zlet (Mo_s_thrown s0 (0 : Int32)) fun y1 => ((f_X12_isPlace y1 x1).bind fun q2 => (if q2 = 0 then f_X12_far_b41 y1 else ((f_X12_isPlace y1 x2).bind fun q3 => (if q3 = 0 then f_X12_far_b41 y1 else ((f_X12_farOf y1 x1 x2).bind fun q4 => (if q4 < (100000 : Int32) then ((f_X12_farOf y1 x1 x2).bind fun q5 => some (q5, y1)) else f_X12_far_b41 y1)))))))
set_option maxRecDepth 100000 in
set_option maxHeartbeats 4000000 in
theorem t_X12_far_b41 (l : Launch) (G : zj_G) (a0 : Nat → Nat) (W0 : List va_W) (r : Int32 × MoT) (s0 : MoT)    (hf : f_X12_far_b41 s0 = some r) : zj_J l G M_X12_far W0 (zj_ret G M_X12_far W0 (some (.int r.1)) (fun _ => [w_Mo G a0 r.2])) 0 0 [w_Mo G a0 s0] [none, none, none] 41 [] := by
  unfold f_X12_far_b41 at hf
  refine zr_run [(.iconst (-1), 0, 0, 0, .int (-1 : Int32))] [] (WW' := [w_Mo G a0 s0]) (lv' := [none, none, none]) (pc' := 42) (st' := [.int (-1 : Int32)]) (by decide +kernel) rfl rfl ⟨trivial, trivial⟩ ?_
  obtain rfl := Option.some.inj hf
  exact zr_iret (b0 := fun _ => 0) (by decide +kernel) rfl rfl rfl rfl rfl
set_option maxRecDepth 100000 in
set_option maxHeartbeats 4000000 in
theorem c_X12_far (l : Launch) (G : zj_G) (a0 : Nat → Nat) (s0 : MoT) (x1 : Int32) (x2 : Int32) (r : Int32 × MoT) (hf : f_X12_far s0 x1 x2 = some r) : zj_C l G M_X12_far yX12_far [w_Mo G a0 s0] [.ref (a0 0), .int x1, .int x2] (some (.int r.1)) (fun _ => [w_Mo G a0 r.2]) := by
  have key : ∀ W0 : List va_W, zj_J l G M_X12_far W0 (zj_ret G M_X12_far W0 (some (.int r.1)) (fun _ => [w_Mo G a0 r.2])) 0 0 [w_Mo G a0 s0] [some (.ref (a0 0)), some (.int x1), some (.int x2)] 0 [] := by
    intro W0
    unfold f_X12_far at hf
    obtain ⟨y1, e1, hf⟩ := zlet_of hf
    refine zr_run [(.aload_n 0, 0, 0, 0, .null), (.iconst 0, 0, 0, 0, .int (0 : Int32)), (.putfield 91, 0, 0, 0, .null)] [] (WW' := [w_Mo G a0 (Mo_s_thrown s0 (0 : Int32))]) (lv' := [some (.ref (a0 0)), some (.int x1), some (.int x2)]) (pc' := 5) (st' := []) (by decide +kernel) rfl rfl ⟨trivial, trivial, ⟨rfl, rfl, rfl, trivial, rfl, rfl, zw_6_29⟩, trivial⟩ ?_
    refine zr_eq (WW2 := [w_Mo G a0 y1]) (lv2 := [some (.ref (a0 0)), some (.int x1), some (.int x2)]) (st2 := []) (by rw [e1]) rfl rfl ?_
    obtain ⟨q2, e2, hf⟩ := zbi_of hf
    refine zr_run [(.aload_n 0, 0, 0, 0, .null), (.iload_n 1, 0, 0, 0, .null)] [] (WW' := [w_Mo G a0 y1]) (lv' := [some (.ref (a0 0)), some (.int x1), some (.int x2)]) (pc' := 7) (st' := [.int x1, .ref (a0 0)]) (by decide +kernel) rfl rfl ⟨trivial, trivial, trivial⟩ ?_
    refine zr_callV (c_X12_isPlace l G a0 y1 x1 q2 e2) (WW' := fun _ => [w_Mo G a0 y1]) (st := []) (st' := [.int q2]) [0] rfl rfl (fun _ => Nat.le_of_ble_eq_true rfl) (fun _ => rfl) rfl rfl nm_X12_isPlace zw_7_96 zw_7_98 zw_0_70 zw_1_18 zw_7_99 rfl rfl rfl (Nat.le_of_ble_eq_true rfl) ⟨Nat.le_of_ble_eq_true rfl, Nat.le_of_ble_eq_true rfl⟩ (by decide +kernel) (fun _ => ?_)
    refine zr_if_eq (off := 31) (tgt := 41) (by decide +kernel) (by decide) (fun hc => ?_) (fun hc => ?_)
    · have hf := zift hf hc
      refine zr_run [] [0, 1, 2] (WW' := [w_Mo G a0 y1]) (lv' := [none, none, none]) (pc' := 41) (st' := []) (by decide +kernel) rfl rfl trivial ?_
      exact t_X12_far_b41 l G a0 W0 r y1 hf
    · have hf := ziff hf hc
      obtain ⟨q3, e3, hf⟩ := zbi_of hf
      refine zr_run [(.aload_n 0, 0, 0, 0, .null), (.iload_n 2, 0, 0, 0, .null)] [] (WW' := [w_Mo G a0 y1]) (lv' := [some (.ref (a0 0)), some (.int x1), some (.int x2)]) (pc' := 15) (st' := [.int x2, .ref (a0 0)]) (by decide +kernel) rfl rfl ⟨trivial, trivial, trivial⟩ ?_
      refine zr_callV (c_X12_isPlace l G a0 y1 x2 q3 e3) (WW' := fun _ => [w_Mo G a0 y1]) (st := []) (st' := [.int q3]) [0] rfl rfl (fun _ => Nat.le_of_ble_eq_true rfl) (fun _ => rfl) rfl rfl nm_X12_isPlace zw_7_96 zw_7_98 zw_0_70 zw_1_18 zw_7_99 rfl rfl rfl (Nat.le_of_ble_eq_true rfl) ⟨Nat.le_of_ble_eq_true rfl, Nat.le_of_ble_eq_true rfl⟩ (by decide +kernel) (fun _ => ?_)
      refine zr_if_eq (off := 23) (tgt := 41) (by decide +kernel) (by decide) (fun hc => ?_) (fun hc => ?_)
      · have hf := zift hf hc
        refine zr_run [] [0, 1, 2] (WW' := [w_Mo G a0 y1]) (lv' := [none, none, none]) (pc' := 41) (st' := []) (by decide +kernel) rfl rfl trivial ?_
        exact t_X12_far_b41 l G a0 W0 r y1 hf
      · have hf := ziff hf hc
        obtain ⟨q4, e4, hf⟩ := zbi_of hf
        refine zr_run [(.aload_n 0, 0, 0, 0, .null), (.iload_n 1, 0, 0, 0, .null), (.iload_n 2, 0, 0, 0, .null)] [] (WW' := [w_Mo G a0 y1]) (lv' := [some (.ref (a0 0)), some (.int x1), some (.int x2)]) (pc' := 24) (st' := [.int x2, .int x1, .ref (a0 0)]) (by decide +kernel) rfl rfl ⟨trivial, trivial, trivial, trivial⟩ ?_
        refine zr_callV (c_X12_farOf l G a0 y1 x1 x2 q4 e4) (WW' := fun _ => [w_Mo G a0 y1]) (st := []) (st' := [.int q4]) [0] rfl rfl (fun _ => Nat.le_of_ble_eq_true rfl) (fun _ => rfl) rfl rfl nm_X12_farOf zw_7_164 zw_7_166 zw_0_83 zw_1_18 zw_7_167 rfl rfl rfl (Nat.le_of_ble_eq_true rfl) ⟨Nat.le_of_ble_eq_true rfl, Nat.le_of_ble_eq_true rfl⟩ (by decide +kernel) (fun _ => ?_)
        refine zr_run [(.ldc 218, 0, 0, 0, .int (100000 : Int32))] [] (WW' := [w_Mo G a0 y1]) (lv' := [some (.ref (a0 0)), some (.int x1), some (.int x2)]) (pc' := 29) (st' := [.int (100000 : Int32), .int q4]) (by decide +kernel) rfl rfl ⟨zw_7_80, trivial⟩ ?_
        refine zr_icmp_ge (off := 12) (tgt := 41) (by decide +kernel) (by decide) (fun hc => ?_) (fun hc => ?_)
        · have hf := zift hf hc
          obtain ⟨q5, e5, hf⟩ := zbi_of hf
          refine zr_run [(.aload_n 0, 0, 0, 0, .null), (.iload_n 1, 0, 0, 0, .null), (.iload_n 2, 0, 0, 0, .null)] [] (WW' := [w_Mo G a0 y1]) (lv' := [some (.ref (a0 0)), some (.int x1), some (.int x2)]) (pc' := 35) (st' := [.int x2, .int x1, .ref (a0 0)]) (by decide +kernel) rfl rfl ⟨trivial, trivial, trivial, trivial⟩ ?_
          refine zr_callV (c_X12_farOf l G a0 y1 x1 x2 q5 e5) (WW' := fun _ => [w_Mo G a0 y1]) (st := []) (st' := [.int q5]) [0] rfl rfl (fun _ => Nat.le_of_ble_eq_true rfl) (fun _ => rfl) rfl rfl nm_X12_farOf zw_7_164 zw_7_166 zw_0_83 zw_1_18 zw_7_167 rfl rfl rfl (Nat.le_of_ble_eq_true rfl) ⟨Nat.le_of_ble_eq_true rfl, Nat.le_of_ble_eq_true rfl⟩ (by decide +kernel) (fun _ => ?_)
          refine zr_goto (off := 4) (tgt := 42) (by decide +kernel) (by decide) ?_
          obtain rfl := Option.some.inj hf
          exact zr_iret (b0 := fun _ => 0) (by decide +kernel) rfl rfl rfl rfl rfl
        · have hf := ziff hf hc
          refine zr_run [] [0, 1, 2] (WW' := [w_Mo G a0 y1]) (lv' := [none, none, none]) (pc' := 41) (st' := []) (by decide +kernel) rfl rfl trivial ?_
          exact t_X12_far_b41 l G a0 W0 r y1 hf
  exact zj_entry [some (.ref (a0 0)), some (.int x1), some (.int x2)] (by decide +kernel) rfl (by decide) (Nat.le_of_ble_eq_true rfl) rfl rfl (key _)
def M_X12_way : zj_M := (RX12, cX12_way, 3, (some .int), { frames := 2, cells := 0, slots := 0, locals := 43 }, false)
theorem nm_X12_way : zj_nm yX12_way 2 := ⟨by decide +kernel, by decide +kernel, by decide +kernel⟩
def f_X12_way_H46  (s0 : MoT) (k46 : MoT → Int32 → Option (Int32 × MoT)) (x2 : Int32) : Option (Int32 × MoT) := (if zb_in ((Mo_goingMany s0) - (1 : Int32)) 10 = true then (if ((Mo_going s0) ((Mo_goingMany s0) - (1 : Int32)).toNatClampNeg) = x2 then some ((Mo_goingMany s0), s0) else (if zb_in ((Mo_goingMany s0) - (1 : Int32)) 10 = true then ((f_X12_nextOf s0 ((Mo_going s0) ((Mo_goingMany s0) - (1 : Int32)).toNatClampNeg) x2).bind fun q9 => (if zb_in (Mo_goingMany s0) 10 = true then (zlet (Mo_s_going s0 ((upd (Mo_going s0) (Mo_goingMany s0).toNatClampNeg q9))) fun y11 => (zlet (Mo_s_goingMany y11 ((Mo_goingMany y11) + (1 : Int32))) fun y12 => k46 y12 x2)) else none)) else none)) else none)
def f_X12_way_L46    : Nat → MoT → Int32 → Option (Int32 × MoT)
  | 0 => fun _ _ => none
  | n + 1 => fun s0 x2 => f_X12_way_H46 s0 (f_X12_way_L46  n) x2
def f_X12_way  (s0 : MoT) (x1 : Int32) (x2 : Int32) : Option (Int32 × MoT) := (zlet (Mo_s_thrown s0 (0 : Int32)) fun y1 => ((f_X12_isPlace y1 x1).bind fun q2 => (if q2 = 0 then some ((-1 : Int32), y1) else ((f_X12_isPlace y1 x2).bind fun q3 => (if q3 = 0 then some ((-1 : Int32), y1) else ((f_X12_farOf y1 x1 x2).bind fun q4 => (if q4 < (100000 : Int32) then (zlet (Mo_s_goingMany y1 (1 : Int32)) fun y5 => (zlet (Mo_s_going y5 ((upd (Mo_going y5) (0 : Int32).toNatClampNeg x1))) fun y6 => f_X12_way_L46 zFU y6 x2)) else some ((-1 : Int32), y1))))))))
set_option maxRecDepth 100000 in
set_option maxHeartbeats 4000000 in
theorem t_X12_way_H46 (l : Launch) (G : zj_G) (a0 : Nat → Nat) (W0 : List va_W) (r : Int32 × MoT) (s0 : MoT) (k46 : MoT → Int32 → Option (Int32 × MoT)) (hk46 : ∀ (s0 : MoT) (x2 : Int32), k46 s0 x2 = some r → zj_J l G M_X12_way W0 (zj_ret G M_X12_way W0 (some (.int r.1)) (fun _ => [w_Mo G a0 r.2])) 0 0 [w_Mo G a0 s0] [some (.ref (a0 0)), none, some (.int x2)] 46 []) (x2 : Int32) (hf : f_X12_way_H46 s0 k46 x2 = some r) : zj_J l G M_X12_way W0 (zj_ret G M_X12_way W0 (some (.int r.1)) (fun _ => [w_Mo G a0 r.2])) 0 0 [w_Mo G a0 s0] [some (.ref (a0 0)), none, some (.int x2)] 46 [] := by
  unfold f_X12_way_H46 at hf
  obtain ⟨h7, hf⟩ := zck_of hf
  refine zr_run [(.aload_n 0, 0, 0, 0, .null), (.getfield 42, 0, 0, 27, .null), (.aload_n 0, 0, 0, 0, .null), (.getfield 336, 0, 0, 28, .null), (.iconst 1, 0, 0, 0, .int (1 : Int32)), (.isub, 0, 0, 0, .null), (.iaload, 0, 11, 0, .null), (.iload_n 2, 0, 0, 0, .null)] [] (WW' := [w_Mo G a0 s0]) (lv' := [some (.ref (a0 0)), none, some (.int x2)]) (pc' := 58) (st' := [.int x2, .int ((Mo_going s0) ((Mo_goingMany s0) - (1 : Int32)).toNatClampNeg)]) (by decide +kernel) rfl rfl ⟨trivial, ⟨rfl, rfl, zw_6_56⟩, trivial, ⟨rfl, rfl, zw_6_57⟩, trivial, trivial, ⟨rfl, rfl, h7⟩, trivial, trivial⟩ ?_
  refine zr_icmp_eq (off := 41) (tgt := 99) (by decide +kernel) (by decide) (fun hc => ?_) (fun hc => ?_)
  · have hf := zift hf hc
    refine zr_run [(.aload_n 0, 0, 0, 0, .null), (.getfield 336, 0, 0, 28, .null)] [] (WW' := [w_Mo G a0 s0]) (lv' := [some (.ref (a0 0)), none, some (.int x2)]) (pc' := 103) (st' := [.int (Mo_goingMany s0)]) (by decide +kernel) rfl rfl ⟨trivial, ⟨rfl, rfl, zw_6_57⟩, trivial⟩ ?_
    obtain rfl := Option.some.inj hf
    exact zr_iret (b0 := fun _ => 0) (by decide +kernel) rfl rfl rfl rfl rfl
  · have hf := ziff hf hc
    obtain ⟨h8, hf⟩ := zck_of hf
    obtain ⟨q9, e9, hf⟩ := zbi_of hf
    refine zr_run [(.aload_n 0, 0, 0, 0, .null), (.getfield 42, 0, 0, 27, .null), (.aload_n 0, 0, 0, 0, .null), (.getfield 336, 0, 0, 28, .null), (.aload_n 0, 0, 0, 0, .null), (.aload_n 0, 0, 0, 0, .null), (.getfield 42, 0, 0, 27, .null), (.aload_n 0, 0, 0, 0, .null), (.getfield 336, 0, 0, 28, .null), (.iconst 1, 0, 0, 0, .int (1 : Int32)), (.isub, 0, 0, 0, .null), (.iaload, 0, 11, 0, .null), (.iload_n 2, 0, 0, 0, .null)] [] (WW' := [w_Mo G a0 s0]) (lv' := [some (.ref (a0 0)), none, some (.int x2)]) (pc' := 82) (st' := [.int x2, .int ((Mo_going s0) ((Mo_goingMany s0) - (1 : Int32)).toNatClampNeg), .ref (a0 0), .int (Mo_goingMany s0), .ref (a0 11)]) (by decide +kernel) rfl rfl ⟨trivial, ⟨rfl, rfl, zw_6_56⟩, trivial, ⟨rfl, rfl, zw_6_57⟩, trivial, trivial, ⟨rfl, rfl, zw_6_56⟩, trivial, ⟨rfl, rfl, zw_6_57⟩, trivial, trivial, ⟨rfl, rfl, h8⟩, trivial, trivial⟩ ?_
    refine zr_callV (c_X12_nextOf l G a0 s0 ((Mo_going s0) ((Mo_goingMany s0) - (1 : Int32)).toNatClampNeg) x2 q9 e9) (WW' := fun _ => [w_Mo G a0 s0]) (st := [.int (Mo_goingMany s0), .ref (a0 11)]) (st' := [.int q9, .int (Mo_goingMany s0), .ref (a0 11)]) [0] rfl rfl (fun _ => Nat.le_of_ble_eq_true rfl) (fun _ => rfl) rfl rfl nm_X12_nextOf zw_7_112 zw_7_114 zw_0_74 zw_1_18 zw_7_115 rfl rfl rfl (Nat.le_of_ble_eq_true rfl) ⟨Nat.le_of_ble_eq_true rfl, Nat.le_of_ble_eq_true rfl⟩ (by decide +kernel) (fun _ => ?_)
    obtain ⟨h10, hf⟩ := zck_of hf
    obtain ⟨y11, e11, hf⟩ := zlet_of hf
    refine zr_run [(.iastore, 0, 11, 0, .null)] [] (WW' := [w_Mo G a0 (Mo_s_going s0 ((upd (Mo_going s0) (Mo_goingMany s0).toNatClampNeg q9)))]) (lv' := [some (.ref (a0 0)), none, some (.int x2)]) (pc' := 86) (st' := []) (by decide +kernel) rfl rfl ⟨⟨rfl, rfl, h10⟩, trivial⟩ ?_
    refine zr_eq (WW2 := [w_Mo G a0 y11]) (lv2 := [some (.ref (a0 0)), none, some (.int x2)]) (st2 := []) (by rw [e11]) rfl rfl ?_
    obtain ⟨y12, e12, hf⟩ := zlet_of hf
    refine zr_run [(.aload_n 0, 0, 0, 0, .null), (.dup, 0, 0, 0, .null), (.getfield 336, 0, 0, 28, .null), (.iconst 1, 0, 0, 0, .int (1 : Int32)), (.iadd, 0, 0, 0, .null), (.putfield 336, 0, 0, 28, .null)] [] (WW' := [w_Mo G a0 (Mo_s_goingMany y11 ((Mo_goingMany y11) + (1 : Int32)))]) (lv' := [some (.ref (a0 0)), none, some (.int x2)]) (pc' := 96) (st' := []) (by decide +kernel) rfl rfl ⟨trivial, trivial, ⟨rfl, rfl, zw_6_57⟩, trivial, trivial, ⟨rfl, rfl, rfl, trivial, rfl, rfl, zw_6_57⟩, trivial⟩ ?_
    refine zr_eq (WW2 := [w_Mo G a0 y12]) (lv2 := [some (.ref (a0 0)), none, some (.int x2)]) (st2 := []) (by rw [e12]) rfl rfl ?_
    refine zr_goto (off := -50) (tgt := 46) (by decide +kernel) (by decide) ?_
    exact hk46 y12 x2 hf
theorem t_X12_way_L46 (l : Launch) (G : zj_G) (a0 : Nat → Nat) (W0 : List va_W) (r : Int32 × MoT)    : ∀ (n : Nat) (s0 : MoT) (x2 : Int32), f_X12_way_L46 n s0 x2 = some r → zj_J l G M_X12_way W0 (zj_ret G M_X12_way W0 (some (.int r.1)) (fun _ => [w_Mo G a0 r.2])) 0 0 [w_Mo G a0 s0] [some (.ref (a0 0)), none, some (.int x2)] 46 [] := by
  intro n
  induction n with
  | zero => intro s0 x2 hf; exact nomatch (show none = some r from hf)
  | succ n ih => intro s0 x2 hf; exact t_X12_way_H46 l G a0 W0 r s0  (f_X12_way_L46 n)  ih x2  hf
set_option maxRecDepth 100000 in
set_option maxHeartbeats 4000000 in
theorem c_X12_way (l : Launch) (G : zj_G) (a0 : Nat → Nat) (s0 : MoT) (x1 : Int32) (x2 : Int32) (r : Int32 × MoT) (hf : f_X12_way s0 x1 x2 = some r) : zj_C l G M_X12_way yX12_way [w_Mo G a0 s0] [.ref (a0 0), .int x1, .int x2] (some (.int r.1)) (fun _ => [w_Mo G a0 r.2]) := by
  have key : ∀ W0 : List va_W, zj_J l G M_X12_way W0 (zj_ret G M_X12_way W0 (some (.int r.1)) (fun _ => [w_Mo G a0 r.2])) 0 0 [w_Mo G a0 s0] [some (.ref (a0 0)), some (.int x1), some (.int x2)] 0 [] := by
    intro W0
    unfold f_X12_way at hf
    obtain ⟨y1, e1, hf⟩ := zlet_of hf
    refine zr_run [(.aload_n 0, 0, 0, 0, .null), (.iconst 0, 0, 0, 0, .int (0 : Int32)), (.putfield 91, 0, 0, 0, .null)] [] (WW' := [w_Mo G a0 (Mo_s_thrown s0 (0 : Int32))]) (lv' := [some (.ref (a0 0)), some (.int x1), some (.int x2)]) (pc' := 5) (st' := []) (by decide +kernel) rfl rfl ⟨trivial, trivial, ⟨rfl, rfl, rfl, trivial, rfl, rfl, zw_6_29⟩, trivial⟩ ?_
    refine zr_eq (WW2 := [w_Mo G a0 y1]) (lv2 := [some (.ref (a0 0)), some (.int x1), some (.int x2)]) (st2 := []) (by rw [e1]) rfl rfl ?_
    obtain ⟨q2, e2, hf⟩ := zbi_of hf
    refine zr_run [(.aload_n 0, 0, 0, 0, .null), (.iload_n 1, 0, 0, 0, .null)] [] (WW' := [w_Mo G a0 y1]) (lv' := [some (.ref (a0 0)), some (.int x1), some (.int x2)]) (pc' := 7) (st' := [.int x1, .ref (a0 0)]) (by decide +kernel) rfl rfl ⟨trivial, trivial, trivial⟩ ?_
    refine zr_callV (c_X12_isPlace l G a0 y1 x1 q2 e2) (WW' := fun _ => [w_Mo G a0 y1]) (st := []) (st' := [.int q2]) [0] rfl rfl (fun _ => Nat.le_of_ble_eq_true rfl) (fun _ => rfl) rfl rfl nm_X12_isPlace zw_7_96 zw_7_98 zw_0_70 zw_1_18 zw_7_99 rfl rfl rfl (Nat.le_of_ble_eq_true rfl) ⟨Nat.le_of_ble_eq_true rfl, Nat.le_of_ble_eq_true rfl⟩ (by decide +kernel) (fun _ => ?_)
    refine zr_if_eq (off := 22) (tgt := 32) (by decide +kernel) (by decide) (fun hc => ?_) (fun hc => ?_)
    · have hf := zift hf hc
      refine zr_run [(.iconst (-1), 0, 0, 0, .int (-1 : Int32))] [] (WW' := [w_Mo G a0 y1]) (lv' := [some (.ref (a0 0)), some (.int x1), some (.int x2)]) (pc' := 33) (st' := [.int (-1 : Int32)]) (by decide +kernel) rfl rfl ⟨trivial, trivial⟩ ?_
      obtain rfl := Option.some.inj hf
      exact zr_iret (b0 := fun _ => 0) (by decide +kernel) rfl rfl rfl rfl rfl
    · have hf := ziff hf hc
      obtain ⟨q3, e3, hf⟩ := zbi_of hf
      refine zr_run [(.aload_n 0, 0, 0, 0, .null), (.iload_n 2, 0, 0, 0, .null)] [] (WW' := [w_Mo G a0 y1]) (lv' := [some (.ref (a0 0)), some (.int x1), some (.int x2)]) (pc' := 15) (st' := [.int x2, .ref (a0 0)]) (by decide +kernel) rfl rfl ⟨trivial, trivial, trivial⟩ ?_
      refine zr_callV (c_X12_isPlace l G a0 y1 x2 q3 e3) (WW' := fun _ => [w_Mo G a0 y1]) (st := []) (st' := [.int q3]) [0] rfl rfl (fun _ => Nat.le_of_ble_eq_true rfl) (fun _ => rfl) rfl rfl nm_X12_isPlace zw_7_96 zw_7_98 zw_0_70 zw_1_18 zw_7_99 rfl rfl rfl (Nat.le_of_ble_eq_true rfl) ⟨Nat.le_of_ble_eq_true rfl, Nat.le_of_ble_eq_true rfl⟩ (by decide +kernel) (fun _ => ?_)
      refine zr_if_eq (off := 14) (tgt := 32) (by decide +kernel) (by decide) (fun hc => ?_) (fun hc => ?_)
      · have hf := zift hf hc
        refine zr_run [(.iconst (-1), 0, 0, 0, .int (-1 : Int32))] [] (WW' := [w_Mo G a0 y1]) (lv' := [some (.ref (a0 0)), some (.int x1), some (.int x2)]) (pc' := 33) (st' := [.int (-1 : Int32)]) (by decide +kernel) rfl rfl ⟨trivial, trivial⟩ ?_
        obtain rfl := Option.some.inj hf
        exact zr_iret (b0 := fun _ => 0) (by decide +kernel) rfl rfl rfl rfl rfl
      · have hf := ziff hf hc
        obtain ⟨q4, e4, hf⟩ := zbi_of hf
        refine zr_run [(.aload_n 0, 0, 0, 0, .null), (.iload_n 1, 0, 0, 0, .null), (.iload_n 2, 0, 0, 0, .null)] [] (WW' := [w_Mo G a0 y1]) (lv' := [some (.ref (a0 0)), some (.int x1), some (.int x2)]) (pc' := 24) (st' := [.int x2, .int x1, .ref (a0 0)]) (by decide +kernel) rfl rfl ⟨trivial, trivial, trivial, trivial⟩ ?_
        refine zr_callV (c_X12_farOf l G a0 y1 x1 x2 q4 e4) (WW' := fun _ => [w_Mo G a0 y1]) (st := []) (st' := [.int q4]) [0] rfl rfl (fun _ => Nat.le_of_ble_eq_true rfl) (fun _ => rfl) rfl rfl nm_X12_farOf zw_7_164 zw_7_166 zw_0_83 zw_1_18 zw_7_167 rfl rfl rfl (Nat.le_of_ble_eq_true rfl) ⟨Nat.le_of_ble_eq_true rfl, Nat.le_of_ble_eq_true rfl⟩ (by decide +kernel) (fun _ => ?_)
        refine zr_run [(.ldc 218, 0, 0, 0, .int (100000 : Int32))] [] (WW' := [w_Mo G a0 y1]) (lv' := [some (.ref (a0 0)), some (.int x1), some (.int x2)]) (pc' := 29) (st' := [.int (100000 : Int32), .int q4]) (by decide +kernel) rfl rfl ⟨zw_7_80, trivial⟩ ?_
        refine zr_icmp_lt (off := 5) (tgt := 34) (by decide +kernel) (by decide) (fun hc => ?_) (fun hc => ?_)
        · have hf := zift hf hc
          obtain ⟨y5, e5, hf⟩ := zlet_of hf
          refine zr_run [(.aload_n 0, 0, 0, 0, .null), (.iconst 1, 0, 0, 0, .int (1 : Int32)), (.putfield 336, 0, 0, 28, .null)] [] (WW' := [w_Mo G a0 (Mo_s_goingMany y1 (1 : Int32))]) (lv' := [some (.ref (a0 0)), some (.int x1), some (.int x2)]) (pc' := 39) (st' := []) (by decide +kernel) rfl rfl ⟨trivial, trivial, ⟨rfl, rfl, rfl, trivial, rfl, rfl, zw_6_57⟩, trivial⟩ ?_
          refine zr_eq (WW2 := [w_Mo G a0 y5]) (lv2 := [some (.ref (a0 0)), some (.int x1), some (.int x2)]) (st2 := []) (by rw [e5]) rfl rfl ?_
          obtain ⟨y6, e6, hf⟩ := zlet_of hf
          refine zr_run [(.aload_n 0, 0, 0, 0, .null), (.getfield 42, 0, 0, 27, .null), (.iconst 0, 0, 0, 0, .int (0 : Int32)), (.iload_n 1, 0, 0, 0, .null), (.iastore, 0, 11, 0, .null)] [] (WW' := [w_Mo G a0 (Mo_s_going y5 ((upd (Mo_going y5) (0 : Int32).toNatClampNeg x1)))]) (lv' := [some (.ref (a0 0)), some (.int x1), some (.int x2)]) (pc' := 46) (st' := []) (by decide +kernel) rfl rfl ⟨trivial, ⟨rfl, rfl, zw_6_56⟩, trivial, trivial, ⟨rfl, rfl, (by decide)⟩, trivial⟩ ?_
          refine zr_eq (WW2 := [w_Mo G a0 y6]) (lv2 := [some (.ref (a0 0)), some (.int x1), some (.int x2)]) (st2 := []) (by rw [e6]) rfl rfl ?_
          refine zr_run [] [1] (WW' := [w_Mo G a0 y6]) (lv' := [some (.ref (a0 0)), none, some (.int x2)]) (pc' := 46) (st' := []) (by decide +kernel) rfl rfl trivial ?_
          exact t_X12_way_L46 l G a0 W0 r zFU y6 x2 hf
        · have hf := ziff hf hc
          refine zr_run [(.iconst (-1), 0, 0, 0, .int (-1 : Int32))] [] (WW' := [w_Mo G a0 y1]) (lv' := [some (.ref (a0 0)), some (.int x1), some (.int x2)]) (pc' := 33) (st' := [.int (-1 : Int32)]) (by decide +kernel) rfl rfl ⟨trivial, trivial⟩ ?_
          obtain rfl := Option.some.inj hf
          exact zr_iret (b0 := fun _ => 0) (by decide +kernel) rfl rfl rfl rfl rfl
  exact zj_entry [some (.ref (a0 0)), some (.int x1), some (.int x2)] (by decide +kernel) rfl (by decide) (Nat.le_of_ble_eq_true rfl) rfl rfl (key _)
