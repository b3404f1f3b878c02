def M_X12_readFirst : zj_M := (RX12, cX12_readFirst, 3, (some .boolean), { frames := 2, cells := 0, slots := 0, locals := 45 }, false)
theorem nm_X12_readFirst : zj_nm yX12_readFirst 2 := ⟨by decide +kernel, by decide +kernel, by decide +kernel⟩
def f_X12_readFirst  (s0 : MoT) (x1 : Int32) (x2 : Int32) : Option (Int32 × MoT) := (if zb_in x1 443 = true then (if ((Mo_read s0) x1.toNatClampNeg) = x2 then ((f_X12_bad s0 (4 : Int32)).bind fun q2 => (if zb_bo q2.1 = true then some (q2.1, q2.2) else none)) else ((f_X12_go s0).bind fun q4 => some ((1 : Int32), q4))) else none)
set_option maxRecDepth 100000 in
set_option maxHeartbeats 4000000 in
theorem c_X12_readFirst (l : Launch) (G : zj_G) (a0 : Nat → Nat) (s0 : MoT) (x1 : Int32) (x2 : Int32) (r : Int32 × MoT) (hf : f_X12_readFirst s0 x1 x2 = some r) : zj_C l G M_X12_readFirst yX12_readFirst [w_Mo G a0 s0] [.ref (a0 0), .int x1, .int x2] (some (.int r.1)) (fun _ => [w_Mo G a0 r.2]) := by
  have key : ∀ W0 : List va_W, zj_J l G M_X12_readFirst W0 (zj_ret G M_X12_readFirst W0 (some (.int r.1)) (fun _ => [w_Mo G a0 r.2])) 0 0 [w_Mo G a0 s0] [some (.ref (a0 0)), some (.int x1), some (.int x2)] 0 [] := by
    intro W0
    unfold f_X12_readFirst at hf
    obtain ⟨h1, hf⟩ := zck_of hf
    refine zr_run [(.aload_n 0, 0, 0, 0, .null), (.getfield 16, 0, 0, 15, .null), (.iload_n 1, 0, 0, 0, .null), (.iaload, 0, 3, 0, .null), (.iload_n 2, 0, 0, 0, .null)] [] (WW' := [w_Mo G a0 s0]) (lv' := [some (.ref (a0 0)), some (.int x1), some (.int x2)]) (pc' := 7) (st' := [.int x2, .int ((Mo_read s0) x1.toNatClampNeg)]) (by decide +kernel) rfl rfl ⟨trivial, ⟨rfl, rfl, zw_6_44⟩, trivial, ⟨rfl, rfl, h1⟩, trivial, trivial⟩ ?_
    refine zr_icmp_ne (off := 9) (tgt := 16) (by decide +kernel) (by decide) (fun hc => ?_) (fun hc => ?_)
    · have hf := zift hf hc
      obtain ⟨q2, e2, hf⟩ := zbi_of hf
      refine zr_run [(.aload_n 0, 0, 0, 0, .null), (.iconst 4, 0, 0, 0, .int (4 : Int32))] [] (WW' := [w_Mo G a0 s0]) (lv' := [some (.ref (a0 0)), some (.int x1), some (.int x2)]) (pc' := 12) (st' := [.int (4 : Int32), .ref (a0 0)]) (by decide +kernel) rfl rfl ⟨trivial, trivial, trivial⟩ ?_
      refine zr_callV (c_X12_bad l G a0 s0 (4 : Int32) q2 e2) (WW' := fun _ => [w_Mo G a0 q2.2]) (st := []) (st' := [.int q2.1]) [0] rfl rfl (fun _ => Nat.le_of_ble_eq_true rfl) (fun _ => rfl) rfl rfl nm_X12_bad zw_7_19 zw_7_21 zw_0_56 zw_1_18 zw_7_22 rfl rfl rfl (Nat.le_of_ble_eq_true rfl) ⟨Nat.le_of_ble_eq_true rfl, Nat.le_of_ble_eq_true rfl⟩ (by decide +kernel) (fun _ => ?_)
      obtain ⟨h3, hf⟩ := zck_of hf
      obtain rfl := Option.some.inj hf
      exact zr_zret h3 (b0 := fun _ => 0) (by decide +kernel) rfl rfl rfl rfl rfl
    · have hf := ziff hf hc
      obtain ⟨q4, e4, hf⟩ := zbi_of hf
      refine zr_run [(.aload_n 0, 0, 0, 0, .null)] [] (WW' := [w_Mo G a0 s0]) (lv' := [some (.ref (a0 0)), some (.int x1), some (.int x2)]) (pc' := 17) (st' := [.ref (a0 0)]) (by decide +kernel) rfl rfl ⟨trivial, trivial⟩ ?_
      refine zr_callV (c_X12_go l G a0 s0 q4 e4) (WW' := fun _ => [w_Mo G a0 q4]) (st := []) (st' := []) [0] rfl rfl (fun _ => Nat.le_of_ble_eq_true rfl) (fun _ => rfl) rfl rfl nm_X12_go zw_6_221 zw_6_223 zw_0_50 zw_1_18 zw_6_224 rfl rfl rfl (Nat.le_of_ble_eq_true rfl) ⟨Nat.le_of_ble_eq_true rfl, Nat.le_of_ble_eq_true rfl⟩ (by decide +kernel) (fun _ => ?_)
      refine zr_run [(.iconst 1, 0, 0, 0, .int (1 : Int32))] [] (WW' := [w_Mo G a0 q4]) (lv' := [some (.ref (a0 0)), some (.int x1), some (.int x2)]) (pc' := 21) (st' := [.int (1 : Int32)]) (by decide +kernel) rfl rfl ⟨trivial, trivial⟩ ?_
      obtain rfl := Option.some.inj hf
      exact zr_zret (by decide) (b0 := fun _ => 0) (by decide +kernel) rfl rfl rfl rfl rfl
  exact zj_entry [some (.ref (a0 0)), some (.int x1), some (.int x2)] (by decide +kernel) rfl (by decide) (Nat.le_of_ble_eq_true rfl) rfl rfl (key _)
def M_X12_put : zj_M := (RX12, cX12_put, 3, (some .boolean), { frames := 0, cells := 0, slots := 0, locals := 0 }, false)
theorem nm_X12_put : zj_nm yX12_put 2 := ⟨by decide +kernel, by decide +kernel, by decide +kernel⟩
def f_X12_put  (s0 : MoT) (x1 : Int32) (x2 : Int32) : Option (Int32 × MoT) := (if x2 = 0 then (if zb_bo x2 = true then some (x2, s0) else none) else (if zb_in x1 443 = true then (zlet (Mo_s_read s0 ((upd (Mo_read s0) x1.toNatClampNeg (Mo_told s0)))) fun y3 => (if zb_bo x2 = true then some (x2, y3) else none)) else none))
set_option maxRecDepth 100000 in
set_option maxHeartbeats 4000000 in
theorem c_X12_put (l : Launch) (G : zj_G) (a0 : Nat → Nat) (s0 : MoT) (x1 : Int32) (x2 : Int32) (r : Int32 × MoT) (hf : f_X12_put s0 x1 x2 = some r) : zj_C l G M_X12_put yX12_put [w_Mo G a0 s0] [.ref (a0 0), .int x1, .int x2] (some (.int r.1)) (fun _ => [w_Mo G a0 r.2]) := by
  have key : ∀ W0 : List va_W, zj_J l G M_X12_put W0 (zj_ret G M_X12_put W0 (some (.int r.1)) (fun _ => [w_Mo G a0 r.2])) 0 0 [w_Mo G a0 s0] [some (.ref (a0 0)), some (.int x1), some (.int x2)] 0 [] := by
    intro W0
    unfold f_X12_put at hf
    refine zr_run [(.iload_n 2, 0, 0, 0, .null)] [] (WW' := [w_Mo G a0 s0]) (lv' := [some (.ref (a0 0)), some (.int x1), some (.int x2)]) (pc' := 1) (st' := [.int x2]) (by decide +kernel) rfl rfl ⟨trivial, trivial⟩ ?_
    refine zr_if_eq (off := 13) (tgt := 14) (by decide +kernel) (by decide) (fun hc => ?_) (fun hc => ?_)
    · have hf := zift hf hc
      obtain ⟨h1, hf⟩ := zck_of hf
      refine zr_run [(.iload_n 2, 0, 0, 0, .null)] [] (WW' := [w_Mo G a0 s0]) (lv' := [some (.ref (a0 0)), some (.int x1), some (.int x2)]) (pc' := 15) (st' := [.int x2]) (by decide +kernel) rfl rfl ⟨trivial, trivial⟩ ?_
      obtain rfl := Option.some.inj hf
      exact zr_zret h1 (b0 := fun _ => 0) (by decide +kernel) rfl rfl rfl rfl rfl
    · have hf := ziff hf hc
      obtain ⟨h2, hf⟩ := zck_of hf
      obtain ⟨y3, e3, hf⟩ := zlet_of hf
      refine zr_run [(.aload_n 0, 0, 0, 0, .null), (.getfield 16, 0, 0, 15, .null), (.iload_n 1, 0, 0, 0, .null), (.aload_n 0, 0, 0, 0, .null), (.getfield 162, 0, 0, 13, .null), (.iastore, 0, 3, 0, .null)] [] (WW' := [w_Mo G a0 (Mo_s_read s0 ((upd (Mo_read s0) x1.toNatClampNeg (Mo_told s0))))]) (lv' := [some (.ref (a0 0)), some (.int x1), some (.int x2)]) (pc' := 14) (st' := []) (by decide +kernel) rfl rfl ⟨trivial, ⟨rfl, rfl, zw_6_44⟩, trivial, trivial, ⟨rfl, rfl, zw_6_42⟩, ⟨rfl, rfl, h2⟩, trivial⟩ ?_
      refine zr_eq (WW2 := [w_Mo G a0 y3]) (lv2 := [some (.ref (a0 0)), some (.int x1), some (.int x2)]) (st2 := []) (by rw [e3]) rfl rfl ?_
      obtain ⟨h4, hf⟩ := zck_of hf
      refine zr_run [(.iload_n 2, 0, 0, 0, .null)] [] (WW' := [w_Mo G a0 y3]) (lv' := [some (.ref (a0 0)), some (.int x1), some (.int x2)]) (pc' := 15) (st' := [.int x2]) (by decide +kernel) rfl rfl ⟨trivial, trivial⟩ ?_
      obtain rfl := Option.some.inj hf
      exact zr_zret h4 (b0 := fun _ => 0) (by decide +kernel) rfl rfl rfl rfl rfl
  exact zj_entry [some (.ref (a0 0)), some (.int x1), some (.int x2)] (by decide +kernel) rfl (by decide) (Nat.le_of_ble_eq_true rfl) rfl rfl (key _)
def M_X12_readPlace : zj_M := (RX12, cX12_readPlace, 3, (some .boolean), { frames := 4, cells := 0, slots := 0, locals := 89 }, false)
theorem nm_X12_readPlace : zj_nm yX12_readPlace 1 := ⟨by decide +kernel, by decide +kernel, by decide +kernel⟩
def f_X12_readPlace_b109  (s0 : MoT)   : Option (Int32 × MoT) := (zlet (Mo_s_read s0 ((upd (Mo_read s0) (0 : Int32).toNatClampNeg (((Mo_read s0) (0 : Int32).toNatClampNeg) + (1 : Int32))))) fun y12 => some ((1 : Int32), y12))
def f_X12_readPlace  (s0 : MoT) (x1 : Int32) : Option (Int32 × MoT) := ((f_X12_readFirst s0 (0 : Int32) (10 : Int32)).bind fun q1 => (if q1.1 = 0 then some ((0 : Int32), q1.2) else ((f_X12_readNew q1.2 ((Mo_read q1.2) (0 : Int32).toNatClampNeg)).bind fun q2 => (if q2.1 = 0 then some ((0 : Int32), q2.2) else (if zb_in ((4 : Int32) + ((Mo_read q1.2) (0 : Int32).toNatClampNeg)) 443 = true then (zlet (Mo_s_read q2.2 ((upd (Mo_read q2.2) ((4 : Int32) + ((Mo_read q1.2) (0 : Int32).toNatClampNeg)).toNatClampNeg x1))) fun y4 => (if x1 = (2 : Int32) then ((f_X12_readNumber y4 (0 : Int32) (12 : Int32)).bind fun q5 => ((f_X12_put q5.2 ((14 : Int32) + ((Mo_read q1.2) (0 : Int32).toNatClampNeg)) q5.1).bind fun q6 => (if q6.1 = 0 then some ((0 : Int32), q6.2) else ((f_X12_readNumber q6.2 (0 : Int32) (99 : Int32)).bind fun q7 => ((f_X12_put q7.2 ((24 : Int32) + ((Mo_read q1.2) (0 : Int32).toNatClampNeg)) q7.1).bind fun q8 => (if q8.1 = 0 then some ((0 : Int32), q8.2) else ((f_X12_readNumber q8.2 (1 : Int32) (6 : Int32)).bind fun q9 => ((f_X12_put q9.2 ((34 : Int32) + ((Mo_read q1.2) (0 : Int32).toNatClampNeg)) q9.1).bind fun q10 => (if q10.1 = 0 then some ((0 : Int32), q10.2) else (zlet (Mo_s_read q10.2 ((upd (Mo_read q10.2) (3 : Int32).toNatClampNeg (((Mo_read q10.2) (3 : Int32).toNatClampNeg) + (1 : Int32))))) fun y11 => f_X12_readPlace_b109 y11)))))))))) else f_X12_readPlace_b109 y4)) else none)))))
set_option maxRecDepth 100000 in
set_option maxHeartbeats 4000000 in
theorem t_X12_readPlace_b109 (l : Launch) (G : zj_G) (a0 : Nat → Nat) (W0 : List va_W) (r : Int32 × MoT) (s0 : MoT)    (hf : f_X12_readPlace_b109 s0 = some r) : zj_J l G M_X12_readPlace W0 (zj_ret G M_X12_readPlace W0 (some (.int r.1)) (fun _ => [w_Mo G a0 r.2])) 0 0 [w_Mo G a0 s0] [some (.ref (a0 0)), none, none] 109 [] := by
  unfold f_X12_readPlace_b109 at hf
  obtain ⟨y12, e12, hf⟩ := zlet_of hf
  refine zr_run [(.aload_n 0, 0, 0, 0, .null), (.getfield 16, 0, 0, 15, .null), (.iconst 0, 0, 0, 0, .int (0 : Int32)), (.dup2, 0, 0, 0, .null), (.iaload, 0, 3, 0, .null), (.iconst 1, 0, 0, 0, .int (1 : Int32)), (.iadd, 0, 0, 0, .null), (.iastore, 0, 3, 0, .null)] [] (WW' := [w_Mo G a0 (Mo_s_read s0 ((upd (Mo_read s0) (0 : Int32).toNatClampNeg (((Mo_read s0) (0 : Int32).toNatClampNeg) + (1 : Int32)))))]) (lv' := [some (.ref (a0 0)), none, none]) (pc' := 119) (st' := []) (by decide +kernel) rfl rfl ⟨trivial, ⟨rfl, rfl, zw_6_44⟩, trivial, trivial, ⟨rfl, rfl, (by decide)⟩, trivial, trivial, ⟨rfl, rfl, (by decide)⟩, trivial⟩ ?_
  refine zr_eq (WW2 := [w_Mo G a0 y12]) (lv2 := [some (.ref (a0 0)), none, none]) (st2 := []) (by rw [e12]) rfl rfl ?_
  refine zr_run [(.iconst 1, 0, 0, 0, .int (1 : Int32))] [] (WW' := [w_Mo G a0 y12]) (lv' := [some (.ref (a0 0)), none, none]) (pc' := 120) (st' := [.int (1 : Int32)]) (by decide +kernel) rfl rfl ⟨trivial, trivial⟩ ?_
  obtain rfl := Option.some.inj hf
  exact zr_zret (by decide) (b0 := fun _ => 0) (by decide +kernel) rfl rfl rfl rfl rfl
set_option maxRecDepth 100000 in
set_option maxHeartbeats 4000000 in
theorem c_X12_readPlace (l : Launch) (G : zj_G) (a0 : Nat → Nat) (s0 : MoT) (x1 : Int32) (r : Int32 × MoT) (hf : f_X12_readPlace s0 x1 = some r) : zj_C l G M_X12_readPlace yX12_readPlace [w_Mo G a0 s0] [.ref (a0 0), .int x1] (some (.int r.1)) (fun _ => [w_Mo G a0 r.2]) := by
  have key : ∀ W0 : List va_W, zj_J l G M_X12_readPlace W0 (zj_ret G M_X12_readPlace W0 (some (.int r.1)) (fun _ => [w_Mo G a0 r.2])) 0 0 [w_Mo G a0 s0] [some (.ref (a0 0)), some (.int x1), none] 0 [] := by
    intro W0
    unfold f_X12_readPlace at hf
    obtain ⟨q1, e1, hf⟩ := zbi_of hf
    refine zr_run [(.aload_n 0, 0, 0, 0, .null), (.iconst 0, 0, 0, 0, .int (0 : Int32)), (.bipush 10, 0, 0, 0, .int (10 : Int32))] [] (WW' := [w_Mo G a0 s0]) (lv' := [some (.ref (a0 0)), some (.int x1), none]) (pc' := 4) (st' := [.int (10 : Int32), .int (0 : Int32), .ref (a0 0)]) (by decide +kernel) rfl rfl ⟨trivial, trivial, trivial, trivial⟩ ?_
    refine zr_callV (c_X12_readFirst l G a0 s0 (0 : Int32) (10 : Int32) q1 e1) (WW' := fun _ => [w_Mo G a0 q1.2]) (st := []) (st' := [.int q1.1]) [0] rfl rfl (fun _ => Nat.le_of_ble_eq_true rfl) (fun _ => rfl) rfl rfl nm_X12_readFirst zw_7_15 zw_7_17 zw_0_55 zw_1_18 zw_7_18 rfl rfl rfl (Nat.le_of_ble_eq_true rfl) ⟨Nat.le_of_ble_eq_true rfl, Nat.le_of_ble_eq_true rfl⟩ (by decide +kernel) (fun _ => ?_)
    refine zr_if_ne (off := 5) (tgt := 12) (by decide +kernel) (by decide) (fun hc => ?_) (fun hc => ?_)
    · have hf := zift hf hc
      refine zr_run [(.iconst 0, 0, 0, 0, .int (0 : Int32))] [] (WW' := [w_Mo G a0 q1.2]) (lv' := [some (.ref (a0 0)), some (.int x1), none]) (pc' := 11) (st' := [.int (0 : Int32)]) (by decide +kernel) rfl rfl ⟨trivial, trivial⟩ ?_
      obtain rfl := Option.some.inj hf
      exact zr_zret (by decide) (b0 := fun _ => 0) (by decide +kernel) rfl rfl rfl rfl rfl
    · have hf := ziff hf hc
      obtain ⟨q2, e2, hf⟩ := zbi_of hf
      refine zr_run [(.aload_n 0, 0, 0, 0, .null), (.getfield 16, 0, 0, 15, .null), (.iconst 0, 0, 0, 0, .int (0 : Int32)), (.iaload, 0, 3, 0, .null), (.istore_n 2, 0, 0, 0, .null), (.aload_n 0, 0, 0, 0, .null), (.iload_n 2, 0, 0, 0, .null)] [] (WW' := [w_Mo G a0 q1.2]) (lv' := [some (.ref (a0 0)), some (.int x1), some (.int ((Mo_read q1.2) (0 : Int32).toNatClampNeg))]) (pc' := 21) (st' := [.int ((Mo_read q1.2) (0 : Int32).toNatClampNeg), .ref (a0 0)]) (by decide +kernel) rfl rfl ⟨trivial, ⟨rfl, rfl, zw_6_44⟩, trivial, ⟨rfl, rfl, (by decide)⟩, trivial, trivial, trivial, trivial⟩ ?_
      refine zr_callV (c_X12_readNew l G a0 q1.2 ((Mo_read q1.2) (0 : Int32).toNatClampNeg) q2 e2) (WW' := fun _ => [w_Mo G a0 q2.2]) (st := []) (st' := [.int q2.1]) [0] rfl rfl (fun _ => Nat.le_of_ble_eq_true rfl) (fun _ => rfl) rfl rfl nm_X12_readNew zw_7_23 zw_7_25 zw_0_57 zw_1_18 zw_7_26 rfl rfl rfl (Nat.le_of_ble_eq_true rfl) ⟨Nat.le_of_ble_eq_true rfl, Nat.le_of_ble_eq_true rfl⟩ (by decide +kernel) (fun _ => ?_)
      refine zr_if_ne (off := 5) (tgt := 29) (by decide +kernel) (by decide) (fun hc => ?_) (fun hc => ?_)
      · have hf := zift hf hc
        refine zr_run [(.iconst 0, 0, 0, 0, .int (0 : Int32))] [] (WW' := [w_Mo G a0 q2.2]) (lv' := [some (.ref (a0 0)), some (.int x1), some (.int ((Mo_read q1.2) (0 : Int32).toNatClampNeg))]) (pc' := 28) (st' := [.int (0 : Int32)]) (by decide +kernel) rfl rfl ⟨trivial, trivial⟩ ?_
        obtain rfl := Option.some.inj hf
        exact zr_zret (by decide) (b0 := fun _ => 0) (by decide +kernel) rfl rfl rfl rfl rfl
      · have hf := ziff hf hc
        obtain ⟨h3, hf⟩ := zck_of hf
        obtain ⟨y4, e4, hf⟩ := zlet_of hf
        refine zr_run [(.aload_n 0, 0, 0, 0, .null), (.getfield 16, 0, 0, 15, .null), (.iconst 4, 0, 0, 0, .int (4 : Int32)), (.iload_n 2, 0, 0, 0, .null), (.iadd, 0, 0, 0, .null), (.iload_n 1, 0, 0, 0, .null), (.iastore, 0, 3, 0, .null)] [] (WW' := [w_Mo G a0 (Mo_s_read q2.2 ((upd (Mo_read q2.2) ((4 : Int32) + ((Mo_read q1.2) (0 : Int32).toNatClampNeg)).toNatClampNeg x1)))]) (lv' := [some (.ref (a0 0)), some (.int x1), some (.int ((Mo_read q1.2) (0 : Int32).toNatClampNeg))]) (pc' := 38) (st' := []) (by decide +kernel) rfl rfl ⟨trivial, ⟨rfl, rfl, zw_6_44⟩, trivial, trivial, trivial, trivial, ⟨rfl, rfl, h3⟩, trivial⟩ ?_
        refine zr_eq (WW2 := [w_Mo G a0 y4]) (lv2 := [some (.ref (a0 0)), some (.int x1), some (.int ((Mo_read q1.2) (0 : Int32).toNatClampNeg))]) (st2 := []) (by rw [e4]) rfl rfl ?_
        refine zr_run [(.iload_n 1, 0, 0, 0, .null), (.iconst 2, 0, 0, 0, .int (2 : Int32))] [] (WW' := [w_Mo G a0 y4]) (lv' := [some (.ref (a0 0)), some (.int x1), some (.int ((Mo_read q1.2) (0 : Int32).toNatClampNeg))]) (pc' := 40) (st' := [.int (2 : Int32), .int x1]) (by decide +kernel) rfl rfl ⟨trivial, trivial, trivial⟩ ?_
        refine zr_icmp_ne (off := 69) (tgt := 109) (by decide +kernel) (by decide) (fun hc => ?_) (fun hc => ?_)
        · have hf := zift hf hc
          obtain ⟨q5, e5, hf⟩ := zbi_of hf
          refine zr_run [(.aload_n 0, 0, 0, 0, .null), (.bipush 14, 0, 0, 0, .int (14 : Int32)), (.iload_n 2, 0, 0, 0, .null), (.iadd, 0, 0, 0, .null), (.aload_n 0, 0, 0, 0, .null), (.iconst 0, 0, 0, 0, .int (0 : Int32)), (.bipush 12, 0, 0, 0, .int (12 : Int32))] [] (WW' := [w_Mo G a0 y4]) (lv' := [some (.ref (a0 0)), some (.int x1), some (.int ((Mo_read q1.2) (0 : Int32).toNatClampNeg))]) (pc' := 52) (st' := [.int (12 : Int32), .int (0 : Int32), .ref (a0 0), .int ((14 : Int32) + ((Mo_read q1.2) (0 : Int32).toNatClampNeg)), .ref (a0 0)]) (by decide +kernel) rfl rfl ⟨trivial, trivial, trivial, trivial, trivial, trivial, trivial, trivial⟩ ?_
          refine zr_callV (c_X12_readNumber l G a0 y4 (0 : Int32) (12 : Int32) q5 e5) (WW' := fun _ => [w_Mo G a0 q5.2]) (st := [.int ((14 : Int32) + ((Mo_read q1.2) (0 : Int32).toNatClampNeg)), .ref (a0 0)]) (st' := [.int q5.1, .int ((14 : Int32) + ((Mo_read q1.2) (0 : Int32).toNatClampNeg)), .ref (a0 0)]) [0] rfl rfl (fun _ => Nat.le_of_ble_eq_true rfl) (fun _ => rfl) rfl rfl nm_X12_readNumber zw_7_34 zw_7_36 zw_0_59 zw_1_18 zw_7_37 rfl rfl rfl (Nat.le_of_ble_eq_true rfl) ⟨Nat.le_of_ble_eq_true rfl, Nat.le_of_ble_eq_true rfl⟩ (by decide +kernel) (fun _ => ?_)
          obtain ⟨q6, e6, hf⟩ := zbi_of hf
          refine zr_callV (c_X12_put l G a0 q5.2 ((14 : Int32) + ((Mo_read q1.2) (0 : Int32).toNatClampNeg)) q5.1 q6 e6) (WW' := fun _ => [w_Mo G a0 q6.2]) (st := []) (st' := [.int q6.1]) [0] rfl rfl (fun _ => Nat.le_of_ble_eq_true rfl) (fun _ => rfl) rfl rfl nm_X12_put zw_7_41 zw_7_43 zw_0_60 zw_1_18 zw_7_44 rfl rfl rfl (Nat.le_of_ble_eq_true rfl) ⟨Nat.le_of_ble_eq_true rfl, Nat.le_of_ble_eq_true rfl⟩ (by decide +kernel) (fun _ => ?_)
          refine zr_if_eq (off := 39) (tgt := 97) (by decide +kernel) (by decide) (fun hc => ?_) (fun hc => ?_)
          · have hf := zift hf hc
            refine zr_run [(.iconst 0, 0, 0, 0, .int (0 : Int32))] [] (WW' := [w_Mo G a0 q6.2]) (lv' := [some (.ref (a0 0)), some (.int x1), some (.int ((Mo_read q1.2) (0 : Int32).toNatClampNeg))]) (pc' := 98) (st' := [.int (0 : Int32)]) (by decide +kernel) rfl rfl ⟨trivial, trivial⟩ ?_
            obtain rfl := Option.some.inj hf
            exact zr_zret (by decide) (b0 := fun _ => 0) (by decide +kernel) rfl rfl rfl rfl rfl
          · have hf := ziff hf hc
            obtain ⟨q7, e7, hf⟩ := zbi_of hf
            refine zr_run [(.aload_n 0, 0, 0, 0, .null), (.bipush 24, 0, 0, 0, .int (24 : Int32)), (.iload_n 2, 0, 0, 0, .null), (.iadd, 0, 0, 0, .null), (.aload_n 0, 0, 0, 0, .null), (.iconst 0, 0, 0, 0, .int (0 : Int32)), (.bipush 99, 0, 0, 0, .int (99 : Int32))] [] (WW' := [w_Mo G a0 q6.2]) (lv' := [some (.ref (a0 0)), some (.int x1), some (.int ((Mo_read q1.2) (0 : Int32).toNatClampNeg))]) (pc' := 70) (st' := [.int (99 : Int32), .int (0 : Int32), .ref (a0 0), .int ((24 : Int32) + ((Mo_read q1.2) (0 : Int32).toNatClampNeg)), .ref (a0 0)]) (by decide +kernel) rfl rfl ⟨trivial, trivial, trivial, trivial, trivial, trivial, trivial, trivial⟩ ?_
            refine zr_callV (c_X12_readNumber l G a0 q6.2 (0 : Int32) (99 : Int32) q7 e7) (WW' := fun _ => [w_Mo G a0 q7.2]) (st := [.int ((24 : Int32) + ((Mo_read q1.2) (0 : Int32).toNatClampNeg)), .ref (a0 0)]) (st' := [.int q7.1, .int ((24 : Int32) + ((Mo_read q1.2) (0 : Int32).toNatClampNeg)), .ref (a0 0)]) [0] rfl rfl (fun _ => Nat.le_of_ble_eq_true rfl) (fun _ => rfl) rfl rfl nm_X12_readNumber zw_7_34 zw_7_36 zw_0_59 zw_1_18 zw_7_37 rfl rfl rfl (Nat.le_of_ble_eq_true rfl) ⟨Nat.le_of_ble_eq_true rfl, Nat.le_of_ble_eq_true rfl⟩ (by decide +kernel) (fun _ => ?_)
            obtain ⟨q8, e8, hf⟩ := zbi_of hf
            refine zr_callV (c_X12_put l G a0 q7.2 ((24 : Int32) + ((Mo_read q1.2) (0 : Int32).toNatClampNeg)) q7.1 q8 e8) (WW' := fun _ => [w_Mo G a0 q8.2]) (st := []) (st' := [.int q8.1]) [0] rfl rfl (fun _ => Nat.le_of_ble_eq_true rfl) (fun _ => rfl) rfl rfl nm_X12_put zw_7_41 zw_7_43 zw_0_60 zw_1_18 zw_7_44 rfl rfl rfl (Nat.le_of_ble_eq_true rfl) ⟨Nat.le_of_ble_eq_true rfl, Nat.le_of_ble_eq_true rfl⟩ (by decide +kernel) (fun _ => ?_)
            refine zr_if_eq (off := 21) (tgt := 97) (by decide +kernel) (by decide) (fun hc => ?_) (fun hc => ?_)
            · have hf := zift hf hc
              refine zr_run [(.iconst 0, 0, 0, 0, .int (0 : Int32))] [] (WW' := [w_Mo G a0 q8.2]) (lv' := [some (.ref (a0 0)), some (.int x1), some (.int ((Mo_read q1.2) (0 : Int32).toNatClampNeg))]) (pc' := 98) (st' := [.int (0 : Int32)]) (by decide +kernel) rfl rfl ⟨trivial, trivial⟩ ?_
              obtain rfl := Option.some.inj hf
              exact zr_zret (by decide) (b0 := fun _ => 0) (by decide +kernel) rfl rfl rfl rfl rfl
            · have hf := ziff hf hc
              obtain ⟨q9, e9, hf⟩ := zbi_of hf
              refine zr_run [(.aload_n 0, 0, 0, 0, .null), (.bipush 34, 0, 0, 0, .int (34 : Int32)), (.iload_n 2, 0, 0, 0, .null), (.iadd, 0, 0, 0, .null), (.aload_n 0, 0, 0, 0, .null), (.iconst 1, 0, 0, 0, .int (1 : Int32)), (.bipush 6, 0, 0, 0, .int (6 : Int32))] [] (WW' := [w_Mo G a0 q8.2]) (lv' := [some (.ref (a0 0)), some (.int x1), some (.int ((Mo_read q1.2) (0 : Int32).toNatClampNeg))]) (pc' := 88) (st' := [.int (6 : Int32), .int (1 : Int32), .ref (a0 0), .int ((34 : Int32) + ((Mo_read q1.2) (0 : Int32).toNatClampNeg)), .ref (a0 0)]) (by decide +kernel) rfl rfl ⟨trivial, trivial, trivial, trivial, trivial, trivial, trivial, trivial⟩ ?_
              refine zr_callV (c_X12_readNumber l G a0 q8.2 (1 : Int32) (6 : Int32) q9 e9) (WW' := fun _ => [w_Mo G a0 q9.2]) (st := [.int ((34 : Int32) + ((Mo_read q1.2) (0 : Int32).toNatClampNeg)), .ref (a0 0)]) (st' := [.int q9.1, .int ((34 : Int32) + ((Mo_read q1.2) (0 : Int32).toNatClampNeg)), .ref (a0 0)]) [0] rfl rfl (fun _ => Nat.le_of_ble_eq_true rfl) (fun _ => rfl) rfl rfl nm_X12_readNumber zw_7_34 zw_7_36 zw_0_59 zw_1_18 zw_7_37 rfl rfl rfl (Nat.le_of_ble_eq_true rfl) ⟨Nat.le_of_ble_eq_true rfl, Nat.le_of_ble_eq_true rfl⟩ (by decide +kernel) (fun _ => ?_)
              obtain ⟨q10, e10, hf⟩ := zbi_of hf
              refine zr_callV (c_X12_put l G a0 q9.2 ((34 : Int32) + ((Mo_read q1.2) (0 : Int32).toNatClampNeg)) q9.1 q10 e10) (WW' := fun _ => [w_Mo G a0 q10.2]) (st := []) (st' := [.int q10.1]) [0] rfl rfl (fun _ => Nat.le_of_ble_eq_true rfl) (fun _ => rfl) rfl rfl nm_X12_put zw_7_41 zw_7_43 zw_0_60 zw_1_18 zw_7_44 rfl rfl rfl (Nat.le_of_ble_eq_true rfl) ⟨Nat.le_of_ble_eq_true rfl, Nat.le_of_ble_eq_true rfl⟩ (by decide +kernel) (fun _ => ?_)
              refine zr_if_ne (off := 5) (tgt := 99) (by decide +kernel) (by decide) (fun hc => ?_) (fun hc => ?_)
              · have hf := zift hf hc
                refine zr_run [(.iconst 0, 0, 0, 0, .int (0 : Int32))] [] (WW' := [w_Mo G a0 q10.2]) (lv' := [some (.ref (a0 0)), some (.int x1), some (.int ((Mo_read q1.2) (0 : Int32).toNatClampNeg))]) (pc' := 98) (st' := [.int (0 : Int32)]) (by decide +kernel) rfl rfl ⟨trivial, trivial⟩ ?_
                obtain rfl := Option.some.inj hf
                exact zr_zret (by decide) (b0 := fun _ => 0) (by decide +kernel) rfl rfl rfl rfl rfl
              · have hf := ziff hf hc
                obtain ⟨y11, e11, hf⟩ := zlet_of hf
                refine zr_run [(.aload_n 0, 0, 0, 0, .null), (.getfield 16, 0, 0, 15, .null), (.iconst 3, 0, 0, 0, .int (3 : Int32)), (.dup2, 0, 0, 0, .null), (.iaload, 0, 3, 0, .null), (.iconst 1, 0, 0, 0, .int (1 : Int32)), (.iadd, 0, 0, 0, .null), (.iastore, 0, 3, 0, .null)] [] (WW' := [w_Mo G a0 (Mo_s_read q10.2 ((upd (Mo_read q10.2) (3 : Int32).toNatClampNeg (((Mo_read q10.2) (3 : Int32).toNatClampNeg) + (1 : Int32)))))]) (lv' := [some (.ref (a0 0)), some (.int x1), some (.int ((Mo_read q1.2) (0 : Int32).toNatClampNeg))]) (pc' := 109) (st' := []) (by decide +kernel) rfl rfl ⟨trivial, ⟨rfl, rfl, zw_6_44⟩, trivial, trivial, ⟨rfl, rfl, (by decide)⟩, trivial, trivial, ⟨rfl, rfl, (by decide)⟩, trivial⟩ ?_
                refine zr_eq (WW2 := [w_Mo G a0 y11]) (lv2 := [some (.ref (a0 0)), some (.int x1), some (.int ((Mo_read q1.2) (0 : Int32).toNatClampNeg))]) (st2 := []) (by rw [e11]) rfl rfl ?_
                refine zr_run [] [1, 2] (WW' := [w_Mo G a0 y11]) (lv' := [some (.ref (a0 0)), none, none]) (pc' := 109) (st' := []) (by decide +kernel) rfl rfl trivial ?_
                exact t_X12_readPlace_b109 l G a0 W0 r y11 hf
        · have hf := ziff hf hc
          refine zr_run [] [1, 2] (WW' := [w_Mo G a0 y4]) (lv' := [some (.ref (a0 0)), none, none]) (pc' := 109) (st' := []) (by decide +kernel) rfl rfl trivial ?_
          exact t_X12_readPlace_b109 l G a0 W0 r y4 hf
  exact zj_entry [some (.ref (a0 0)), some (.int x1), none] (by decide +kernel) rfl (by decide) (Nat.le_of_ble_eq_true rfl) rfl rfl (key _)
def M_X12_readRoad : zj_M := (RX12, cX12_readRoad, 4, (some .boolean), { frames := 4, cells := 0, slots := 0, locals := 90 }, false)
theorem nm_X12_readRoad : zj_nm yX12_readRoad 0 := ⟨by decide +kernel, by decide +kernel, by decide +kernel⟩
def f_X12_readRoad_b158  (s0 : MoT)  (x1 : Int32) (x2 : Int32) (x3 : Int32) : Option (Int32 × MoT) := (if zb_in ((192 : Int32) + x1) 443 = true then (zlet (Mo_s_read s0 ((upd (Mo_read s0) ((192 : Int32) + x1).toNatClampNeg x2))) fun y17 => (if zb_in ((208 : Int32) + x1) 443 = true then (zlet (Mo_s_read y17 ((upd (Mo_read y17) ((208 : Int32) + x1).toNatClampNeg x3))) fun y19 => (zlet (Mo_s_read y19 ((upd (Mo_read y19) (1 : Int32).toNatClampNeg (((Mo_read y19) (1 : Int32).toNatClampNeg) + (1 : Int32))))) fun y20 => (if zb_in (((44 : Int32) + ((10 : Int32) * x2)) + x3) 443 = true then (zlet (Mo_s_read y20 ((upd (Mo_read y20) (((44 : Int32) + ((10 : Int32) * x2)) + x3).toNatClampNeg ((Mo_read y20) (1 : Int32).toNatClampNeg)))) fun y22 => (if zb_in (((44 : Int32) + ((10 : Int32) * x3)) + x2) 443 = true then (zlet (Mo_s_read y22 ((upd (Mo_read y22) (((44 : Int32) + ((10 : Int32) * x3)) + x2).toNatClampNeg ((Mo_read y22) (1 : Int32).toNatClampNeg)))) fun y24 => some ((1 : Int32), y24)) else none)) else none))) else none)) else none)
def f_X12_readRoad  (s0 : MoT)  : Option (Int32 × MoT) := ((f_X12_readFirst s0 (1 : Int32) (16 : Int32)).bind fun q1 => (if q1.1 = 0 then some ((0 : Int32), q1.2) else ((f_X12_isOne q1.2 (0 : Int32) ((Mo_read q1.2) (0 : Int32).toNatClampNeg)).bind fun q2 => (if q2.1 = 0 then some ((0 : Int32), q2.2) else ((f_X12_go q2.2).bind fun q3 => ((f_X12_isOne q3 (0 : Int32) ((Mo_read q3) (0 : Int32).toNatClampNeg)).bind fun q4 => (if q4.1 = 0 then some ((0 : Int32), q4.2) else (if (Mo_told q2.2) = (Mo_told q4.2) then ((f_X12_bad q4.2 (3 : Int32)).bind fun q5 => (if zb_bo q5.1 = true then some (q5.1, q5.2) else none)) else (if zb_in (((44 : Int32) + ((10 : Int32) * (Mo_told q2.2))) + (Mo_told q4.2)) 443 = true then (if 0 < ((Mo_read q4.2) (((44 : Int32) + ((10 : Int32) * (Mo_told q2.2))) + (Mo_told q4.2)).toNatClampNeg) then ((f_X12_bad q4.2 (3 : Int32)).bind fun q8 => (if zb_bo q8.1 = true then some (q8.1, q8.2) else none)) else ((f_X12_go q4.2).bind fun q10 => ((f_X12_readNumber q10 (1 : Int32) (30 : Int32)).bind fun q11 => ((f_X12_put q11.2 ((144 : Int32) + ((Mo_read q2.2) (1 : Int32).toNatClampNeg)) q11.1).bind fun q12 => (if q12.1 = 0 then some ((0 : Int32), q12.2) else ((f_X12_readNumber q12.2 (0 : Int32) (12 : Int32)).bind fun q13 => ((f_X12_put q13.2 ((160 : Int32) + ((Mo_read q2.2) (1 : Int32).toNatClampNeg)) q13.1).bind fun q14 => (if q14.1 = 0 then some ((0 : Int32), q14.2) else ((f_X12_isWord q14.2 (4 : Int32)).bind fun q15 => (if q15 = 0 then f_X12_readRoad_b158 q14.2 ((Mo_read q2.2) (1 : Int32).toNatClampNeg) (Mo_told q2.2) (Mo_told q4.2) else (if zb_in ((176 : Int32) + ((Mo_read q2.2) (1 : Int32).toNatClampNeg)) 443 = true then (zlet (Mo_s_read q14.2 ((upd (Mo_read q14.2) ((176 : Int32) + ((Mo_read q2.2) (1 : Int32).toNatClampNeg)).toNatClampNeg (1 : Int32)))) fun y26 => ((f_X12_go y26).bind fun q27 => f_X12_readRoad_b158 q27 ((Mo_read q2.2) (1 : Int32).toNatClampNeg) (Mo_told q2.2) (Mo_told q4.2))) else none))))))))))) else none)))))))))
set_option maxRecDepth 100000 in
set_option maxHeartbeats 4000000 in
theorem t_X12_readRoad_b158 (l : Launch) (G : zj_G) (a0 : Nat → Nat) (W0 : List va_W) (r : Int32 × MoT) (s0 : MoT)   (x1 : Int32) (x2 : Int32) (x3 : Int32) (hf : f_X12_readRoad_b158 s0 x1 x2 x3 = some r) : zj_J l G M_X12_readRoad W0 (zj_ret G M_X12_readRoad W0 (some (.int r.1)) (fun _ => [w_Mo G a0 r.2])) 0 0 [w_Mo G a0 s0] [some (.ref (a0 0)), some (.int x1), some (.int x2), some (.int x3)] 158 [] := by
  unfold f_X12_readRoad_b158 at hf
  obtain ⟨h16, hf⟩ := zck_of hf
  obtain ⟨y17, e17, hf⟩ := zlet_of hf
  refine zr_run [(.aload_n 0, 0, 0, 0, .null), (.getfield 16, 0, 0, 15, .null), (.sipush 192, 0, 0, 0, .int (192 : Int32)), (.iload_n 1, 0, 0, 0, .null), (.iadd, 0, 0, 0, .null), (.iload_n 2, 0, 0, 0, .null), (.iastore, 0, 3, 0, .null)] [] (WW' := [w_Mo G a0 (Mo_s_read s0 ((upd (Mo_read s0) ((192 : Int32) + x1).toNatClampNeg x2)))]) (lv' := [some (.ref (a0 0)), some (.int x1), some (.int x2), some (.int x3)]) (pc' := 169) (st' := []) (by decide +kernel) rfl rfl ⟨trivial, ⟨rfl, rfl, zw_6_44⟩, trivial, trivial, trivial, trivial, ⟨rfl, rfl, h16⟩, trivial⟩ ?_
  refine zr_eq (WW2 := [w_Mo G a0 y17]) (lv2 := [some (.ref (a0 0)), some (.int x1), some (.int x2), some (.int x3)]) (st2 := []) (by rw [e17]) rfl rfl ?_
  obtain ⟨h18, hf⟩ := zck_of hf
  obtain ⟨y19, e19, hf⟩ := zlet_of hf
  refine zr_run [(.aload_n 0, 0, 0, 0, .null), (.getfield 16, 0, 0, 15, .null), (.sipush 208, 0, 0, 0, .int (208 : Int32)), (.iload_n 1, 0, 0, 0, .null), (.iadd, 0, 0, 0, .null), (.iload_n 3, 0, 0, 0, .null), (.iastore, 0, 3, 0, .null)] [] (WW' := [w_Mo G a0 (Mo_s_read y17 ((upd (Mo_read y17) ((208 : Int32) + x1).toNatClampNeg x3)))]) (lv' := [some (.ref (a0 0)), some (.int x1), some (.int x2), some (.int x3)]) (pc' := 180) (st' := []) (by decide +kernel) rfl rfl ⟨trivial, ⟨rfl, rfl, zw_6_44⟩, trivial, trivial, trivial, trivial, ⟨rfl, rfl, h18⟩, trivial⟩ ?_
  refine zr_eq (WW2 := [w_Mo G a0 y19]) (lv2 := [some (.ref (a0 0)), some (.int x1), some (.int x2), some (.int x3)]) (st2 := []) (by rw [e19]) rfl rfl ?_
  obtain ⟨y20, e20, hf⟩ := zlet_of hf
  refine zr_run [(.aload_n 0, 0, 0, 0, .null), (.getfield 16, 0, 0, 15, .null), (.iconst 1, 0, 0, 0, .int (1 : Int32)), (.dup2, 0, 0, 0, .null), (.iaload, 0, 3, 0, .null), (.iconst 1, 0, 0, 0, .int (1 : Int32)), (.iadd, 0, 0, 0, .null), (.iastore, 0, 3, 0, .null)] [] (WW' := [w_Mo G a0 (Mo_s_read y19 ((upd (Mo_read y19) (1 : Int32).toNatClampNeg (((Mo_read y19) (1 : Int32).toNatClampNeg) + (1 : Int32)))))]) (lv' := [some (.ref (a0 0)), some (.int x1), some (.int x2), some (.int x3)]) (pc' := 190) (st' := []) (by decide +kernel) rfl rfl ⟨trivial, ⟨rfl, rfl, zw_6_44⟩, trivial, trivial, ⟨rfl, rfl, (by decide)⟩, trivial, trivial, ⟨rfl, rfl, (by decide)⟩, trivial⟩ ?_
  refine zr_eq (WW2 := [w_Mo G a0 y20]) (lv2 := [some (.ref (a0 0)), some (.int x1), some (.int x2), some (.int x3)]) (st2 := []) (by rw [e20]) rfl rfl ?_
  obtain ⟨h21, hf⟩ := zck_of hf
  obtain ⟨y22, e22, hf⟩ := zlet_of hf
  refine zr_run [(.aload_n 0, 0, 0, 0, .null), (.getfield 16, 0, 0, 15, .null), (.bipush 44, 0, 0, 0, .int (44 : Int32)), (.bipush 10, 0, 0, 0, .int (10 : Int32)), (.iload_n 2, 0, 0, 0, .null), (.imul, 0, 0, 0, .null), (.iadd, 0, 0, 0, .null), (.iload_n 3, 0, 0, 0, .null), (.iadd, 0, 0, 0, .null), (.aload_n 0, 0, 0, 0, .null), (.getfield 16, 0, 0, 15, .null), (.iconst 1, 0, 0, 0, .int (1 : Int32)), (.iaload, 0, 3, 0, .null), (.iastore, 0, 3, 0, .null)] [] (WW' := [w_Mo G a0 (Mo_s_read y20 ((upd (Mo_read y20) (((44 : Int32) + ((10 : Int32) * x2)) + x3).toNatClampNeg ((Mo_read y20) (1 : Int32).toNatClampNeg))))]) (lv' := [some (.ref (a0 0)), some (.int x1), some (.int x2), some (.int x3)]) (pc' := 210) (st' := []) (by decide +kernel) rfl rfl ⟨trivial, ⟨rfl, rfl, zw_6_44⟩, trivial, trivial, trivial, trivial, trivial, trivial, trivial, trivial, ⟨rfl, rfl, zw_6_44⟩, trivial, ⟨rfl, rfl, (by decide)⟩, ⟨rfl, rfl, h21⟩, trivial⟩ ?_
  refine zr_eq (WW2 := [w_Mo G a0 y22]) (lv2 := [some (.ref (a0 0)), some (.int x1), some (.int x2), some (.int x3)]) (st2 := []) (by rw [e22]) rfl rfl ?_
  obtain ⟨h23, hf⟩ := zck_of hf
  obtain ⟨y24, e24, hf⟩ := zlet_of hf
  refine zr_run [(.aload_n 0, 0, 0, 0, .null), (.getfield 16, 0, 0, 15, .null), (.bipush 44, 0, 0, 0, .int (44 : Int32)), (.bipush 10, 0, 0, 0, .int (10 : Int32)), (.iload_n 3, 0, 0, 0, .null), (.imul, 0, 0, 0, .null), (.iadd, 0, 0, 0, .null), (.iload_n 2, 0, 0, 0, .null), (.iadd, 0, 0, 0, .null), (.aload_n 0, 0, 0, 0, .null), (.getfield 16, 0, 0, 15, .null), (.iconst 1, 0, 0, 0, .int (1 : Int32)), (.iaload, 0, 3, 0, .null), (.iastore, 0, 3, 0, .null)] [] (WW' := [w_Mo G a0 (Mo_s_read y22 ((upd (Mo_read y22) (((44 : Int32) + ((10 : Int32) * x3)) + x2).toNatClampNeg ((Mo_read y22) (1 : Int32).toNatClampNeg))))]) (lv' := [some (.ref (a0 0)), some (.int x1), some (.int x2), some (.int x3)]) (pc' := 230) (st' := []) (by decide +kernel) rfl rfl ⟨trivial, ⟨rfl, rfl, zw_6_44⟩, trivial, trivial, trivial, trivial, trivial, trivial, trivial, trivial, ⟨rfl, rfl, zw_6_44⟩, trivial, ⟨rfl, rfl, (by decide)⟩, ⟨rfl, rfl, h23⟩, trivial⟩ ?_
  refine zr_eq (WW2 := [w_Mo G a0 y24]) (lv2 := [some (.ref (a0 0)), some (.int x1), some (.int x2), some (.int x3)]) (st2 := []) (by rw [e24]) rfl rfl ?_
  refine zr_run [(.iconst 1, 0, 0, 0, .int (1 : Int32))] [] (WW' := [w_Mo G a0 y24]) (lv' := [some (.ref (a0 0)), some (.int x1), some (.int x2), some (.int x3)]) (pc' := 231) (st' := [.int (1 : Int32)]) (by decide +kernel) rfl rfl ⟨trivial, trivial⟩ ?_
  obtain rfl := Option.some.inj hf
  exact zr_zret (by decide) (b0 := fun _ => 0) (by decide +kernel) rfl rfl rfl rfl rfl
set_option maxRecDepth 100000 in
set_option maxHeartbeats 4000000 in
theorem c_X12_readRoad (l : Launch) (G : zj_G) (a0 : Nat → Nat) (s0 : MoT)  (r : Int32 × MoT) (hf : f_X12_readRoad s0 = some r) : zj_C l G M_X12_readRoad yX12_readRoad [w_Mo G a0 s0] [.ref (a0 0)] (some (.int r.1)) (fun _ => [w_Mo G a0 r.2]) := by
  have key : ∀ W0 : List va_W, zj_J l G M_X12_readRoad W0 (zj_ret G M_X12_readRoad W0 (some (.int r.1)) (fun _ => [w_Mo G a0 r.2])) 0 0 [w_Mo G a0 s0] [some (.ref (a0 0)), none, none, none] 0 [] := by
    intro W0
    unfold f_X12_readRoad at hf
    obtain ⟨q1, e1, hf⟩ := zbi_of hf
    refine zr_run [(.aload_n 0, 0, 0, 0, .null), (.iconst 1, 0, 0, 0, .int (1 : Int32)), (.bipush 16, 0, 0, 0, .int (16 : Int32))] [] (WW' := [w_Mo G a0 s0]) (lv' := [some (.ref (a0 0)), none, none, none]) (pc' := 4) (st' := [.int (16 : Int32), .int (1 : Int32), .ref (a0 0)]) (by decide +kernel) rfl rfl ⟨trivial, trivial, trivial, trivial⟩ ?_
    refine zr_callV (c_X12_readFirst l G a0 s0 (1 : Int32) (16 : Int32) q1 e1) (WW' := fun _ => [w_Mo G a0 q1.2]) (st := []) (st' := [.int q1.1]) [0] rfl rfl (fun _ => Nat.le_of_ble_eq_true rfl) (fun _ => rfl) rfl rfl nm_X12_readFirst zw_7_15 zw_7_17 zw_0_55 zw_1_18 zw_7_18 rfl rfl rfl (Nat.le_of_ble_eq_true rfl) ⟨Nat.le_of_ble_eq_true rfl, Nat.le_of_ble_eq_true rfl⟩ (by decide +kernel) (fun _ => ?_)
    refine zr_if_eq (off := 17) (tgt := 24) (by decide +kernel) (by decide) (fun hc => ?_) (fun hc => ?_)
    · have hf := zift hf hc
      refine zr_run [(.iconst 0, 0, 0, 0, .int (0 : Int32))] [] (WW' := [w_Mo G a0 q1.2]) (lv' := [some (.ref (a0 0)), none, none, none]) (pc' := 25) (st' := [.int (0 : Int32)]) (by decide +kernel) rfl rfl ⟨trivial, trivial⟩ ?_
      obtain rfl := Option.some.inj hf
      exact zr_zret (by decide) (b0 := fun _ => 0) (by decide +kernel) rfl rfl rfl rfl rfl
    · have hf := ziff hf hc
      obtain ⟨q2, e2, hf⟩ := zbi_of hf
      refine zr_run [(.aload_n 0, 0, 0, 0, .null), (.iconst 0, 0, 0, 0, .int (0 : Int32)), (.aload_n 0, 0, 0, 0, .null), (.getfield 16, 0, 0, 15, .null), (.iconst 0, 0, 0, 0, .int (0 : Int32)), (.iaload, 0, 3, 0, .null)] [] (WW' := [w_Mo G a0 q1.2]) (lv' := [some (.ref (a0 0)), none, none, none]) (pc' := 18) (st' := [.int ((Mo_read q1.2) (0 : Int32).toNatClampNeg), .int (0 : Int32), .ref (a0 0)]) (by decide +kernel) rfl rfl ⟨trivial, trivial, trivial, ⟨rfl, rfl, zw_6_44⟩, trivial, ⟨rfl, rfl, (by decide)⟩, trivial⟩ ?_
      refine zr_callV (c_X12_isOne l G a0 q1.2 (0 : Int32) ((Mo_read q1.2) (0 : Int32).toNatClampNeg) q2 e2) (WW' := fun _ => [w_Mo G a0 q2.2]) (st := []) (st' := [.int q2.1]) [0] rfl rfl (fun _ => Nat.le_of_ble_eq_true rfl) (fun _ => rfl) rfl rfl nm_X12_isOne zw_7_49 zw_7_51 zw_0_62 zw_1_18 zw_7_52 rfl rfl rfl (Nat.le_of_ble_eq_true rfl) ⟨Nat.le_of_ble_eq_true rfl, Nat.le_of_ble_eq_true rfl⟩ (by decide +kernel) (fun _ => ?_)
      refine zr_if_ne (off := 5) (tgt := 26) (by decide +kernel) (by decide) (fun hc => ?_) (fun hc => ?_)
      · have hf := zift hf hc
        refine zr_run [(.iconst 0, 0, 0, 0, .int (0 : Int32))] [] (WW' := [w_Mo G a0 q2.2]) (lv' := [some (.ref (a0 0)), none, none, none]) (pc' := 25) (st' := [.int (0 : Int32)]) (by decide +kernel) rfl rfl ⟨trivial, trivial⟩ ?_
        obtain rfl := Option.some.inj hf
        exact zr_zret (by decide) (b0 := fun _ => 0) (by decide +kernel) rfl rfl rfl rfl rfl
      · have hf := ziff hf hc
        obtain ⟨q3, e3, hf⟩ := zbi_of hf
        refine zr_run [(.aload_n 0, 0, 0, 0, .null), (.getfield 16, 0, 0, 15, .null), (.iconst 1, 0, 0, 0, .int (1 : Int32)), (.iaload, 0, 3, 0, .null), (.istore_n 1, 0, 0, 0, .null), (.aload_n 0, 0, 0, 0, .null), (.getfield 162, 0, 0, 13, .null), (.istore_n 2, 0, 0, 0, .null), (.aload_n 0, 0, 0, 0, .null)] [] (WW' := [w_Mo G a0 q2.2]) (lv' := [some (.ref (a0 0)), some (.int ((Mo_read q2.2) (1 : Int32).toNatClampNeg)), some (.int (Mo_told q2.2)), none]) (pc' := 39) (st' := [.ref (a0 0)]) (by decide +kernel) rfl rfl ⟨trivial, ⟨rfl, rfl, zw_6_44⟩, trivial, ⟨rfl, rfl, (by decide)⟩, trivial, trivial, ⟨rfl, rfl, zw_6_42⟩, trivial, trivial, trivial⟩ ?_
        refine zr_callV (c_X12_go l G a0 q2.2 q3 e3) (WW' := fun _ => [w_Mo G a0 q3]) (st := []) (st' := []) [0] rfl rfl (fun _ => Nat.le_of_ble_eq_true rfl) (fun _ => rfl) rfl rfl nm_X12_go zw_6_221 zw_6_223 zw_0_50 zw_1_18 zw_6_224 rfl rfl rfl (Nat.le_of_ble_eq_true rfl) ⟨Nat.le_of_ble_eq_true rfl, Nat.le_of_ble_eq_true rfl⟩ (by decide +kernel) (fun _ => ?_)
        obtain ⟨q4, e4, hf⟩ := zbi_of hf
        refine zr_run [(.aload_n 0, 0, 0, 0, .null), (.iconst 0, 0, 0, 0, .int (0 : Int32)), (.aload_n 0, 0, 0, 0, .null), (.getfield 16, 0, 0, 15, .null), (.iconst 0, 0, 0, 0, .int (0 : Int32)), (.iaload, 0, 3, 0, .null)] [] (WW' := [w_Mo G a0 q3]) (lv' := [some (.ref (a0 0)), some (.int ((Mo_read q2.2) (1 : Int32).toNatClampNeg)), some (.int (Mo_told q2.2)), none]) (pc' := 50) (st' := [.int ((Mo_read q3) (0 : Int32).toNatClampNeg), .int (0 : Int32), .ref (a0 0)]) (by decide +kernel) rfl rfl ⟨trivial, trivial, trivial, ⟨rfl, rfl, zw_6_44⟩, trivial, ⟨rfl, rfl, (by decide)⟩, trivial⟩ ?_
        refine zr_callV (c_X12_isOne l G a0 q3 (0 : Int32) ((Mo_read q3) (0 : Int32).toNatClampNeg) q4 e4) (WW' := fun _ => [w_Mo G a0 q4.2]) (st := []) (st' := [.int q4.1]) [0] rfl rfl (fun _ => Nat.le_of_ble_eq_true rfl) (fun _ => rfl) rfl rfl nm_X12_isOne zw_7_49 zw_7_51 zw_0_62 zw_1_18 zw_7_52 rfl rfl rfl (Nat.le_of_ble_eq_true rfl) ⟨Nat.le_of_ble_eq_true rfl, Nat.le_of_ble_eq_true rfl⟩ (by decide +kernel) (fun _ => ?_)
        refine zr_if_ne (off := 5) (tgt := 58) (by decide +kernel) (by decide) (fun hc => ?_) (fun hc => ?_)
        · have hf := zift hf hc
          refine zr_run [(.iconst 0, 0, 0, 0, .int (0 : Int32))] [] (WW' := [w_Mo G a0 q4.2]) (lv' := [some (.ref (a0 0)), some (.int ((Mo_read q2.2) (1 : Int32).toNatClampNeg)), some (.int (Mo_told q2.2)), none]) (pc' := 57) (st' := [.int (0 : Int32)]) (by decide +kernel) rfl rfl ⟨trivial, trivial⟩ ?_
          obtain rfl := Option.some.inj hf
          exact zr_zret (by decide) (b0 := fun _ => 0) (by decide +kernel) rfl rfl rfl rfl rfl
        · have hf := ziff hf hc
          refine zr_run [(.aload_n 0, 0, 0, 0, .null), (.getfield 162, 0, 0, 13, .null), (.istore_n 3, 0, 0, 0, .null), (.iload_n 2, 0, 0, 0, .null), (.iload_n 3, 0, 0, 0, .null)] [] (WW' := [w_Mo G a0 q4.2]) (lv' := [some (.ref (a0 0)), some (.int ((Mo_read q2.2) (1 : Int32).toNatClampNeg)), some (.int (Mo_told q2.2)), some (.int (Mo_told q4.2))]) (pc' := 65) (st' := [.int (Mo_told q4.2), .int (Mo_told q2.2)]) (by decide +kernel) rfl rfl ⟨trivial, ⟨rfl, rfl, zw_6_42⟩, trivial, trivial, trivial, trivial⟩ ?_
          refine zr_icmp_eq (off := 20) (tgt := 85) (by decide +kernel) (by decide) (fun hc => ?_) (fun hc => ?_)
          · have hf := zift hf hc
            obtain ⟨q5, e5, hf⟩ := zbi_of hf
            refine zr_run [(.aload_n 0, 0, 0, 0, .null), (.iconst 3, 0, 0, 0, .int (3 : Int32))] [] (WW' := [w_Mo G a0 q4.2]) (lv' := [some (.ref (a0 0)), some (.int ((Mo_read q2.2) (1 : Int32).toNatClampNeg)), some (.int (Mo_told q2.2)), some (.int (Mo_told q4.2))]) (pc' := 87) (st' := [.int (3 : Int32), .ref (a0 0)]) (by decide +kernel) rfl rfl ⟨trivial, trivial, trivial⟩ ?_
            refine zr_callV (c_X12_bad l G a0 q4.2 (3 : Int32) q5 e5) (WW' := fun _ => [w_Mo G a0 q5.2]) (st := []) (st' := [.int q5.1]) [0] rfl rfl (fun _ => Nat.le_of_ble_eq_true rfl) (fun _ => rfl) rfl rfl nm_X12_bad zw_7_19 zw_7_21 zw_0_56 zw_1_18 zw_7_22 rfl rfl rfl (Nat.le_of_ble_eq_true rfl) ⟨Nat.le_of_ble_eq_true rfl, Nat.le_of_ble_eq_true rfl⟩ (by decide +kernel) (fun _ => ?_)
            obtain ⟨h6, hf⟩ := zck_of hf
            obtain rfl := Option.some.inj hf
            exact zr_zret h6 (b0 := fun _ => 0) (by decide +kernel) rfl rfl rfl rfl rfl
          · have hf := ziff hf hc
            obtain ⟨h7, hf⟩ := zck_of hf
            refine zr_run [(.aload_n 0, 0, 0, 0, .null), (.getfield 16, 0, 0, 15, .null), (.bipush 44, 0, 0, 0, .int (44 : Int32)), (.bipush 10, 0, 0, 0, .int (10 : Int32)), (.iload_n 2, 0, 0, 0, .null), (.imul, 0, 0, 0, .null), (.iadd, 0, 0, 0, .null), (.iload_n 3, 0, 0, 0, .null), (.iadd, 0, 0, 0, .null), (.iaload, 0, 3, 0, .null)] [] (WW' := [w_Mo G a0 q4.2]) (lv' := [some (.ref (a0 0)), some (.int ((Mo_read q2.2) (1 : Int32).toNatClampNeg)), some (.int (Mo_told q2.2)), some (.int (Mo_told q4.2))]) (pc' := 82) (st' := [.int ((Mo_read q4.2) (((44 : Int32) + ((10 : Int32) * (Mo_told q2.2))) + (Mo_told q4.2)).toNatClampNeg)]) (by decide +kernel) rfl rfl ⟨trivial, ⟨rfl, rfl, zw_6_44⟩, trivial, trivial, trivial, trivial, trivial, trivial, trivial, ⟨rfl, rfl, h7⟩, trivial⟩ ?_
            refine zr_if_le (off := 9) (tgt := 91) (by decide +kernel) (by decide) (fun hc => ?_) (fun hc => ?_)
            · have hf := zift hf hc
              obtain ⟨q8, e8, hf⟩ := zbi_of hf
              refine zr_run [(.aload_n 0, 0, 0, 0, .null), (.iconst 3, 0, 0, 0, .int (3 : Int32))] [] (WW' := [w_Mo G a0 q4.2]) (lv' := [some (.ref (a0 0)), some (.int ((Mo_read q2.2) (1 : Int32).toNatClampNeg)), some (.int (Mo_told q2.2)), some (.int (Mo_told q4.2))]) (pc' := 87) (st' := [.int (3 : Int32), .ref (a0 0)]) (by decide +kernel) rfl rfl ⟨trivial, trivial, trivial⟩ ?_
              refine zr_callV (c_X12_bad l G a0 q4.2 (3 : Int32) q8 e8) (WW' := fun _ => [w_Mo G a0 q8.2]) (st := []) (st' := [.int q8.1]) [0] rfl rfl (fun _ => Nat.le_of_ble_eq_true rfl) (fun _ => rfl) rfl rfl nm_X12_bad zw_7_19 zw_7_21 zw_0_56 zw_1_18 zw_7_22 rfl rfl rfl (Nat.le_of_ble_eq_true rfl) ⟨Nat.le_of_ble_eq_true rfl, Nat.le_of_ble_eq_true rfl⟩ (by decide +kernel) (fun _ => ?_)
              obtain ⟨h9, hf⟩ := zck_of hf
              obtain rfl := Option.some.inj hf
              exact zr_zret h9 (b0 := fun _ => 0) (by decide +kernel) rfl rfl rfl rfl rfl
            · have hf := ziff hf hc
              obtain ⟨q10, e10, hf⟩ := zbi_of hf
              refine zr_run [(.aload_n 0, 0, 0, 0, .null)] [] (WW' := [w_Mo G a0 q4.2]) (lv' := [some (.ref (a0 0)), some (.int ((Mo_read q2.2) (1 : Int32).toNatClampNeg)), some (.int (Mo_told q2.2)), some (.int (Mo_told q4.2))]) (pc' := 92) (st' := [.ref (a0 0)]) (by decide +kernel) rfl rfl ⟨trivial, trivial⟩ ?_
              refine zr_callV (c_X12_go l G a0 q4.2 q10 e10) (WW' := fun _ => [w_Mo G a0 q10]) (st := []) (st' := []) [0] rfl rfl (fun _ => Nat.le_of_ble_eq_true rfl) (fun _ => rfl) rfl rfl nm_X12_go zw_6_221 zw_6_223 zw_0_50 zw_1_18 zw_6_224 rfl rfl rfl (Nat.le_of_ble_eq_true rfl) ⟨Nat.le_of_ble_eq_true rfl, Nat.le_of_ble_eq_true rfl⟩ (by decide +kernel) (fun _ => ?_)
              obtain ⟨q11, e11, hf⟩ := zbi_of hf
              refine zr_run [(.aload_n 0, 0, 0, 0, .null), (.sipush 144, 0, 0, 0, .int (144 : Int32)), (.iload_n 1, 0, 0, 0, .null), (.iadd, 0, 0, 0, .null), (.aload_n 0, 0, 0, 0, .null), (.iconst 1, 0, 0, 0, .int (1 : Int32)), (.bipush 30, 0, 0, 0, .int (30 : Int32))] [] (WW' := [w_Mo G a0 q10]) (lv' := [some (.ref (a0 0)), some (.int ((Mo_read q2.2) (1 : Int32).toNatClampNeg)), some (.int (Mo_told q2.2)), some (.int (Mo_told q4.2))]) (pc' := 105) (st' := [.int (30 : Int32), .int (1 : Int32), .ref (a0 0), .int ((144 : Int32) + ((Mo_read q2.2) (1 : Int32).toNatClampNeg)), .ref (a0 0)]) (by decide +kernel) rfl rfl ⟨trivial, trivial, trivial, trivial, trivial, trivial, trivial, trivial⟩ ?_
              refine zr_callV (c_X12_readNumber l G a0 q10 (1 : Int32) (30 : Int32) q11 e11) (WW' := fun _ => [w_Mo G a0 q11.2]) (st := [.int ((144 : Int32) + ((Mo_read q2.2) (1 : Int32).toNatClampNeg)), .ref (a0 0)]) (st' := [.int q11.1, .int ((144 : Int32) + ((Mo_read q2.2) (1 : Int32).toNatClampNeg)), .ref (a0 0)]) [0] rfl rfl (fun _ => Nat.le_of_ble_eq_true rfl) (fun _ => rfl) rfl rfl nm_X12_readNumber zw_7_34 zw_7_36 zw_0_59 zw_1_18 zw_7_37 rfl rfl rfl (Nat.le_of_ble_eq_true rfl) ⟨Nat.le_of_ble_eq_true rfl, Nat.le_of_ble_eq_true rfl⟩ (by decide +kernel) (fun _ => ?_)
              obtain ⟨q12, e12, hf⟩ := zbi_of hf
              refine zr_callV (c_X12_put l G a0 q11.2 ((144 : Int32) + ((Mo_read q2.2) (1 : Int32).toNatClampNeg)) q11.1 q12 e12) (WW' := fun _ => [w_Mo G a0 q12.2]) (st := []) (st' := [.int q12.1]) [0] rfl rfl (fun _ => Nat.le_of_ble_eq_true rfl) (fun _ => rfl) rfl rfl nm_X12_put zw_7_41 zw_7_43 zw_0_60 zw_1_18 zw_7_44 rfl rfl rfl (Nat.le_of_ble_eq_true rfl) ⟨Nat.le_of_ble_eq_true rfl, Nat.le_of_ble_eq_true rfl⟩ (by decide +kernel) (fun _ => ?_)
              refine zr_if_eq (off := 22) (tgt := 133) (by decide +kernel) (by decide) (fun hc => ?_) (fun hc => ?_)
              · have hf := zift hf hc
                refine zr_run [(.iconst 0, 0, 0, 0, .int (0 : Int32))] [] (WW' := [w_Mo G a0 q12.2]) (lv' := [some (.ref (a0 0)), some (.int ((Mo_read q2.2) (1 : Int32).toNatClampNeg)), some (.int (Mo_told q2.2)), some (.int (Mo_told q4.2))]) (pc' := 134) (st' := [.int (0 : Int32)]) (by decide +kernel) rfl rfl ⟨trivial, trivial⟩ ?_
                obtain rfl := Option.some.inj hf
                exact zr_zret (by decide) (b0 := fun _ => 0) (by decide +kernel) rfl rfl rfl rfl rfl
              · have hf := ziff hf hc
                obtain ⟨q13, e13, hf⟩ := zbi_of hf
                refine zr_run [(.aload_n 0, 0, 0, 0, .null), (.sipush 160, 0, 0, 0, .int (160 : Int32)), (.iload_n 1, 0, 0, 0, .null), (.iadd, 0, 0, 0, .null), (.aload_n 0, 0, 0, 0, .null), (.iconst 0, 0, 0, 0, .int (0 : Int32)), (.bipush 12, 0, 0, 0, .int (12 : Int32))] [] (WW' := [w_Mo G a0 q12.2]) (lv' := [some (.ref (a0 0)), some (.int ((Mo_read q2.2) (1 : Int32).toNatClampNeg)), some (.int (Mo_told q2.2)), some (.int (Mo_told q4.2))]) (pc' := 124) (st' := [.int (12 : Int32), .int (0 : Int32), .ref (a0 0), .int ((160 : Int32) + ((Mo_read q2.2) (1 : Int32).toNatClampNeg)), .ref (a0 0)]) (by decide +kernel) rfl rfl ⟨trivial, trivial, trivial, trivial, trivial, trivial, trivial, trivial⟩ ?_
                refine zr_callV (c_X12_readNumber l G a0 q12.2 (0 : Int32) (12 : Int32) q13 e13) (WW' := fun _ => [w_Mo G a0 q13.2]) (st := [.int ((160 : Int32) + ((Mo_read q2.2) (1 : Int32).toNatClampNeg)), .ref (a0 0)]) (st' := [.int q13.1, .int ((160 : Int32) + ((Mo_read q2.2) (1 : Int32).toNatClampNeg)), .ref (a0 0)]) [0] rfl rfl (fun _ => Nat.le_of_ble_eq_true rfl) (fun _ => rfl) rfl rfl nm_X12_readNumber zw_7_34 zw_7_36 zw_0_59 zw_1_18 zw_7_37 rfl rfl rfl (Nat.le_of_ble_eq_true rfl) ⟨Nat.le_of_ble_eq_true rfl, Nat.le_of_ble_eq_true rfl⟩ (by decide +kernel) (fun _ => ?_)
                obtain ⟨q14, e14, hf⟩ := zbi_of hf
                refine zr_callV (c_X12_put l G a0 q13.2 ((160 : Int32) + ((Mo_read q2.2) (1 : Int32).toNatClampNeg)) q13.1 q14 e14) (WW' := fun _ => [w_Mo G a0 q14.2]) (st := []) (st' := [.int q14.1]) [0] rfl rfl (fun _ => Nat.le_of_ble_eq_true rfl) (fun _ => rfl) rfl rfl nm_X12_put zw_7_41 zw_7_43 zw_0_60 zw_1_18 zw_7_44 rfl rfl rfl (Nat.le_of_ble_eq_true rfl) ⟨Nat.le_of_ble_eq_true rfl, Nat.le_of_ble_eq_true rfl⟩ (by decide +kernel) (fun _ => ?_)
                refine zr_if_ne (off := 5) (tgt := 135) (by decide +kernel) (by decide) (fun hc => ?_) (fun hc => ?_)
                · have hf := zift hf hc
                  refine zr_run [(.iconst 0, 0, 0, 0, .int (0 : Int32))] [] (WW' := [w_Mo G a0 q14.2]) (lv' := [some (.ref (a0 0)), some (.int ((Mo_read q2.2) (1 : Int32).toNatClampNeg)), some (.int (Mo_told q2.2)), some (.int (Mo_told q4.2))]) (pc' := 134) (st' := [.int (0 : Int32)]) (by decide +kernel) rfl rfl ⟨trivial, trivial⟩ ?_
                  obtain rfl := Option.some.inj hf
                  exact zr_zret (by decide) (b0 := fun _ => 0) (by decide +kernel) rfl rfl rfl rfl rfl
                · have hf := ziff hf hc
                  obtain ⟨q15, e15, hf⟩ := zbi_of hf
                  refine zr_run [(.aload_n 0, 0, 0, 0, .null), (.iconst 4, 0, 0, 0, .int (4 : Int32))] [] (WW' := [w_Mo G a0 q14.2]) (lv' := [some (.ref (a0 0)), some (.int ((Mo_read q2.2) (1 : Int32).toNatClampNeg)), some (.int (Mo_told q2.2)), some (.int (Mo_told q4.2))]) (pc' := 137) (st' := [.int (4 : Int32), .ref (a0 0)]) (by decide +kernel) rfl rfl ⟨trivial, trivial, trivial⟩ ?_
                  refine zr_callV (c_X12_isWord l G a0 q14.2 (4 : Int32) q15 e15) (WW' := fun _ => [w_Mo G a0 q14.2]) (st := []) (st' := [.int q15]) [0] rfl rfl (fun _ => Nat.le_of_ble_eq_true rfl) (fun _ => rfl) rfl rfl nm_X12_isWord zw_7_1 zw_7_3 zw_0_53 zw_1_18 zw_7_4 rfl rfl rfl (Nat.le_of_ble_eq_true rfl) ⟨Nat.le_of_ble_eq_true rfl, Nat.le_of_ble_eq_true rfl⟩ (by decide +kernel) (fun _ => ?_)
                  refine zr_if_eq (off := 18) (tgt := 158) (by decide +kernel) (by decide) (fun hc => ?_) (fun hc => ?_)
                  · have hf := zift hf hc
                    exact t_X12_readRoad_b158 l G a0 W0 r q14.2 ((Mo_read q2.2) (1 : Int32).toNatClampNeg) (Mo_told q2.2) (Mo_told q4.2) hf
                  · have hf := ziff hf hc
                    obtain ⟨h25, hf⟩ := zck_of hf
                    obtain ⟨y26, e26, hf⟩ := zlet_of hf
                    refine zr_run [(.aload_n 0, 0, 0, 0, .null), (.getfield 16, 0, 0, 15, .null), (.sipush 176, 0, 0, 0, .int (176 : Int32)), (.iload_n 1, 0, 0, 0, .null), (.iadd, 0, 0, 0, .null), (.iconst 1, 0, 0, 0, .int (1 : Int32)), (.iastore, 0, 3, 0, .null)] [] (WW' := [w_Mo G a0 (Mo_s_read q14.2 ((upd (Mo_read q14.2) ((176 : Int32) + ((Mo_read q2.2) (1 : Int32).toNatClampNeg)).toNatClampNeg (1 : Int32))))]) (lv' := [some (.ref (a0 0)), some (.int ((Mo_read q2.2) (1 : Int32).toNatClampNeg)), some (.int (Mo_told q2.2)), some (.int (Mo_told q4.2))]) (pc' := 154) (st' := []) (by decide +kernel) rfl rfl ⟨trivial, ⟨rfl, rfl, zw_6_44⟩, trivial, trivial, trivial, trivial, ⟨rfl, rfl, h25⟩, trivial⟩ ?_
                    refine zr_eq (WW2 := [w_Mo G a0 y26]) (lv2 := [some (.ref (a0 0)), some (.int ((Mo_read q2.2) (1 : Int32).toNatClampNeg)), some (.int (Mo_told q2.2)), some (.int (Mo_told q4.2))]) (st2 := []) (by rw [e26]) rfl rfl ?_
                    obtain ⟨q27, e27, hf⟩ := zbi_of hf
                    refine zr_run [(.aload_n 0, 0, 0, 0, .null)] [] (WW' := [w_Mo G a0 y26]) (lv' := [some (.ref (a0 0)), some (.int ((Mo_read q2.2) (1 : Int32).toNatClampNeg)), some (.int (Mo_told q2.2)), some (.int (Mo_told q4.2))]) (pc' := 155) (st' := [.ref (a0 0)]) (by decide +kernel) rfl rfl ⟨trivial, trivial⟩ ?_
                    refine zr_callV (c_X12_go l G a0 y26 q27 e27) (WW' := fun _ => [w_Mo G a0 q27]) (st := []) (st' := []) [0] rfl rfl (fun _ => Nat.le_of_ble_eq_true rfl) (fun _ => rfl) rfl rfl nm_X12_go zw_6_221 zw_6_223 zw_0_50 zw_1_18 zw_6_224 rfl rfl rfl (Nat.le_of_ble_eq_true rfl) ⟨Nat.le_of_ble_eq_true rfl, Nat.le_of_ble_eq_true rfl⟩ (by decide +kernel) (fun _ => ?_)
                    exact t_X12_readRoad_b158 l G a0 W0 r q27 ((Mo_read q2.2) (1 : Int32).toNatClampNeg) (Mo_told q2.2) (Mo_told q4.2) hf
  exact zj_entry [some (.ref (a0 0)), none, none, none] (by decide +kernel) rfl (by decide) (Nat.le_of_ble_eq_true rfl) rfl rfl (key _)
def M_X12_readMan : zj_M := (RX12, cX12_readMan, 2, (some .boolean), { frames := 4, cells := 0, slots := 0, locals := 90 }, false)
theorem nm_X12_readMan : zj_nm yX12_readMan 0 := ⟨by decide +kernel, by decide +kernel, by decide +kernel⟩
def f_X12_readMan  (s0 : MoT)  : Option (Int32 × MoT) := ((f_X12_readFirst s0 (2 : Int32) (6 : Int32)).bind fun q1 => (if q1.1 = 0 then some ((0 : Int32), q1.2) else ((f_X12_readNew q1.2 ((10 : Int32) + ((Mo_read q1.2) (2 : Int32).toNatClampNeg))).bind fun q2 => (if q2.1 = 0 then some ((0 : Int32), q2.2) else ((f_X12_isOne q2.2 (0 : Int32) ((Mo_read q2.2) (0 : Int32).toNatClampNeg)).bind fun q3 => (if q3.1 = 0 then some ((0 : Int32), q3.2) else (if zb_in ((4 : Int32) + (Mo_told q3.2)) 443 = true then (if ((Mo_read q3.2) ((4 : Int32) + (Mo_told q3.2)).toNatClampNeg) = 0 then (if zb_in ((224 : Int32) + ((Mo_read q1.2) (2 : Int32).toNatClampNeg)) 443 = true then (zlet (Mo_s_read q3.2 ((upd (Mo_read q3.2) ((224 : Int32) + ((Mo_read q1.2) (2 : Int32).toNatClampNeg)).toNatClampNeg (Mo_told q3.2)))) fun y6 => ((f_X12_go y6).bind fun q7 => ((f_X12_readNumber q7 (1 : Int32) (20 : Int32)).bind fun q8 => ((f_X12_put q8.2 ((230 : Int32) + ((Mo_read q1.2) (2 : Int32).toNatClampNeg)) q8.1).bind fun q9 => (if q9.1 = 0 then some ((0 : Int32), q9.2) else ((f_X12_readNumber q9.2 (0 : Int32) (99 : Int32)).bind fun q10 => ((f_X12_put q10.2 ((236 : Int32) + ((Mo_read q1.2) (2 : Int32).toNatClampNeg)) q10.1).bind fun q11 => (if q11.1 = 0 then some ((0 : Int32), q11.2) else (zlet (Mo_s_read q11.2 ((upd (Mo_read q11.2) (2 : Int32).toNatClampNeg (((Mo_read q11.2) (2 : Int32).toNatClampNeg) + (1 : Int32))))) fun y12 => some ((1 : Int32), y12)))))))))) else none) else ((f_X12_bad q3.2 (3 : Int32)).bind fun q13 => (if zb_bo q13.1 = true then some (q13.1, q13.2) else none))) else none)))))))
set_option maxRecDepth 100000 in
set_option maxHeartbeats 4000000 in
theorem c_X12_readMan (l : Launch) (G : zj_G) (a0 : Nat → Nat) (s0 : MoT)  (r : Int32 × MoT) (hf : f_X12_readMan s0 = some r) : zj_C l G M_X12_readMan yX12_readMan [w_Mo G a0 s0] [.ref (a0 0)] (some (.int r.1)) (fun _ => [w_Mo G a0 r.2]) := by
  have key : ∀ W0 : List va_W, zj_J l G M_X12_readMan W0 (zj_ret G M_X12_readMan W0 (some (.int r.1)) (fun _ => [w_Mo G a0 r.2])) 0 0 [w_Mo G a0 s0] [some (.ref (a0 0)), none] 0 [] := by
    intro W0
    unfold f_X12_readMan at hf
    obtain ⟨q1, e1, hf⟩ := zbi_of hf
    refine zr_run [(.aload_n 0, 0, 0, 0, .null), (.iconst 2, 0, 0, 0, .int (2 : Int32)), (.bipush 6, 0, 0, 0, .int (6 : Int32))] [] (WW' := [w_Mo G a0 s0]) (lv' := [some (.ref (a0 0)), none]) (pc' := 4) (st' := [.int (6 : Int32), .int (2 : Int32), .ref (a0 0)]) (by decide +kernel) rfl rfl ⟨trivial, trivial, trivial, trivial⟩ ?_
    refine zr_callV (c_X12_readFirst l G a0 s0 (2 : Int32) (6 : Int32) q1 e1) (WW' := fun _ => [w_Mo G a0 q1.2]) (st := []) (st' := [.int q1.1]) [0] rfl rfl (fun _ => Nat.le_of_ble_eq_true rfl) (fun _ => rfl) rfl rfl nm_X12_readFirst zw_7_15 zw_7_17 zw_0_55 zw_1_18 zw_7_18 rfl rfl rfl (Nat.le_of_ble_eq_true rfl) ⟨Nat.le_of_ble_eq_true rfl, Nat.le_of_ble_eq_true rfl⟩ (by decide +kernel) (fun _ => ?_)
    refine zr_if_ne (off := 5) (tgt := 12) (by decide +kernel) (by decide) (fun hc => ?_) (fun hc => ?_)
    · have hf := zift hf hc
      refine zr_run [(.iconst 0, 0, 0, 0, .int (0 : Int32))] [] (WW' := [w_Mo G a0 q1.2]) (lv' := [some (.ref (a0 0)), none]) (pc' := 11) (st' := [.int (0 : Int32)]) (by decide +kernel) rfl rfl ⟨trivial, trivial⟩ ?_
      obtain rfl := Option.some.inj hf
      exact zr_zret (by decide) (b0 := fun _ => 0) (by decide +kernel) rfl rfl rfl rfl rfl
    · have hf := ziff hf hc
      obtain ⟨q2, e2, hf⟩ := zbi_of hf
      refine zr_run [(.aload_n 0, 0, 0, 0, .null), (.getfield 16, 0, 0, 15, .null), (.iconst 2, 0, 0, 0, .int (2 : Int32)), (.iaload, 0, 3, 0, .null), (.istore_n 1, 0, 0, 0, .null), (.aload_n 0, 0, 0, 0, .null), (.bipush 10, 0, 0, 0, .int (10 : Int32)), (.iload_n 1, 0, 0, 0, .null), (.iadd, 0, 0, 0, .null)] [] (WW' := [w_Mo G a0 q1.2]) (lv' := [some (.ref (a0 0)), some (.int ((Mo_read q1.2) (2 : Int32).toNatClampNeg))]) (pc' := 24) (st' := [.int ((10 : Int32) + ((Mo_read q1.2) (2 : Int32).toNatClampNeg)), .ref (a0 0)]) (by decide +kernel) rfl rfl ⟨trivial, ⟨rfl, rfl, zw_6_44⟩, trivial, ⟨rfl, rfl, (by decide)⟩, trivial, trivial, trivial, trivial, trivial, trivial⟩ ?_
      refine zr_callV (c_X12_readNew l G a0 q1.2 ((10 : Int32) + ((Mo_read q1.2) (2 : Int32).toNatClampNeg)) q2 e2) (WW' := fun _ => [w_Mo G a0 q2.2]) (st := []) (st' := [.int q2.1]) [0] rfl rfl (fun _ => Nat.le_of_ble_eq_true rfl) (fun _ => rfl) rfl rfl nm_X12_readNew zw_7_23 zw_7_25 zw_0_57 zw_1_18 zw_7_26 rfl rfl rfl (Nat.le_of_ble_eq_true rfl) ⟨Nat.le_of_ble_eq_true rfl, Nat.le_of_ble_eq_true rfl⟩ (by decide +kernel) (fun _ => ?_)
      refine zr_if_eq (off := 17) (tgt := 44) (by decide +kernel) (by decide) (fun hc => ?_) (fun hc => ?_)
      · have hf := zift hf hc
        refine zr_run [(.iconst 0, 0, 0, 0, .int (0 : Int32))] [] (WW' := [w_Mo G a0 q2.2]) (lv' := [some (.ref (a0 0)), some (.int ((Mo_read q1.2) (2 : Int32).toNatClampNeg))]) (pc' := 45) (st' := [.int (0 : Int32)]) (by decide +kernel) rfl rfl ⟨trivial, trivial⟩ ?_
        obtain rfl := Option.some.inj hf
        exact zr_zret (by decide) (b0 := fun _ => 0) (by decide +kernel) rfl rfl rfl rfl rfl
      · have hf := ziff hf hc
        obtain ⟨q3, e3, hf⟩ := zbi_of hf
        refine zr_run [(.aload_n 0, 0, 0, 0, .null), (.iconst 0, 0, 0, 0, .int (0 : Int32)), (.aload_n 0, 0, 0, 0, .null), (.getfield 16, 0, 0, 15, .null), (.iconst 0, 0, 0, 0, .int (0 : Int32)), (.iaload, 0, 3, 0, .null)] [] (WW' := [w_Mo G a0 q2.2]) (lv' := [some (.ref (a0 0)), some (.int ((Mo_read q1.2) (2 : Int32).toNatClampNeg))]) (pc' := 38) (st' := [.int ((Mo_read q2.2) (0 : Int32).toNatClampNeg), .int (0 : Int32), .ref (a0 0)]) (by decide +kernel) rfl rfl ⟨trivial, trivial, trivial, ⟨rfl, rfl, zw_6_44⟩, trivial, ⟨rfl, rfl, (by decide)⟩, trivial⟩ ?_
        refine zr_callV (c_X12_isOne l G a0 q2.2 (0 : Int32) ((Mo_read q2.2) (0 : Int32).toNatClampNeg) q3 e3) (WW' := fun _ => [w_Mo G a0 q3.2]) (st := []) (st' := [.int q3.1]) [0] rfl rfl (fun _ => Nat.le_of_ble_eq_true rfl) (fun _ => rfl) rfl rfl nm_X12_isOne zw_7_49 zw_7_51 zw_0_62 zw_1_18 zw_7_52 rfl rfl rfl (Nat.le_of_ble_eq_true rfl) ⟨Nat.le_of_ble_eq_true rfl, Nat.le_of_ble_eq_true rfl⟩ (by decide +kernel) (fun _ => ?_)
        refine zr_if_ne (off := 5) (tgt := 46) (by decide +kernel) (by decide) (fun hc => ?_) (fun hc => ?_)
        · have hf := zift hf hc
          refine zr_run [(.iconst 0, 0, 0, 0, .int (0 : Int32))] [] (WW' := [w_Mo G a0 q3.2]) (lv' := [some (.ref (a0 0)), some (.int ((Mo_read q1.2) (2 : Int32).toNatClampNeg))]) (pc' := 45) (st' := [.int (0 : Int32)]) (by decide +kernel) rfl rfl ⟨trivial, trivial⟩ ?_
          obtain rfl := Option.some.inj hf
          exact zr_zret (by decide) (b0 := fun _ => 0) (by decide +kernel) rfl rfl rfl rfl rfl
        · have hf := ziff hf hc
          obtain ⟨h4, hf⟩ := zck_of hf
          refine zr_run [(.aload_n 0, 0, 0, 0, .null), (.getfield 16, 0, 0, 15, .null), (.iconst 4, 0, 0, 0, .int (4 : Int32)), (.aload_n 0, 0, 0, 0, .null), (.getfield 162, 0, 0, 13, .null), (.iadd, 0, 0, 0, .null), (.iaload, 0, 3, 0, .null)] [] (WW' := [w_Mo G a0 q3.2]) (lv' := [some (.ref (a0 0)), some (.int ((Mo_read q1.2) (2 : Int32).toNatClampNeg))]) (pc' := 57) (st' := [.int ((Mo_read q3.2) ((4 : Int32) + (Mo_told q3.2)).toNatClampNeg)]) (by decide +kernel) rfl rfl ⟨trivial, ⟨rfl, rfl, zw_6_44⟩, trivial, trivial, ⟨rfl, rfl, zw_6_42⟩, trivial, ⟨rfl, rfl, h4⟩, trivial⟩ ?_
          refine zr_if_eq (off := 9) (tgt := 66) (by decide +kernel) (by decide) (fun hc => ?_) (fun hc => ?_)
          · have hf := zift hf hc
            obtain ⟨h5, hf⟩ := zck_of hf
            obtain ⟨y6, e6, hf⟩ := zlet_of hf
            refine zr_run [(.aload_n 0, 0, 0, 0, .null), (.getfield 16, 0, 0, 15, .null), (.sipush 224, 0, 0, 0, .int (224 : Int32)), (.iload_n 1, 0, 0, 0, .null), (.iadd, 0, 0, 0, .null), (.aload_n 0, 0, 0, 0, .null), (.getfield 162, 0, 0, 13, .null), (.iastore, 0, 3, 0, .null)] [] (WW' := [w_Mo G a0 (Mo_s_read q3.2 ((upd (Mo_read q3.2) ((224 : Int32) + ((Mo_read q1.2) (2 : Int32).toNatClampNeg)).toNatClampNeg (Mo_told q3.2))))]) (lv' := [some (.ref (a0 0)), some (.int ((Mo_read q1.2) (2 : Int32).toNatClampNeg))]) (pc' := 80) (st' := []) (by decide +kernel) rfl rfl ⟨trivial, ⟨rfl, rfl, zw_6_44⟩, trivial, trivial, trivial, trivial, ⟨rfl, rfl, zw_6_42⟩, ⟨rfl, rfl, h5⟩, trivial⟩ ?_
            refine zr_eq (WW2 := [w_Mo G a0 y6]) (lv2 := [some (.ref (a0 0)), some (.int ((Mo_read q1.2) (2 : Int32).toNatClampNeg))]) (st2 := []) (by rw [e6]) rfl rfl ?_
            obtain ⟨q7, e7, hf⟩ := zbi_of hf
            refine zr_run [(.aload_n 0, 0, 0, 0, .null)] [] (WW' := [w_Mo G a0 y6]) (lv' := [some (.ref (a0 0)), some (.int ((Mo_read q1.2) (2 : Int32).toNatClampNeg))]) (pc' := 81) (st' := [.ref (a0 0)]) (by decide +kernel) rfl rfl ⟨trivial, trivial⟩ ?_
            refine zr_callV (c_X12_go l G a0 y6 q7 e7) (WW' := fun _ => [w_Mo G a0 q7]) (st := []) (st' := []) [0] rfl rfl (fun _ => Nat.le_of_ble_eq_true rfl) (fun _ => rfl) rfl rfl nm_X12_go zw_6_221 zw_6_223 zw_0_50 zw_1_18 zw_6_224 rfl rfl rfl (Nat.le_of_ble_eq_true rfl) ⟨Nat.le_of_ble_eq_true rfl, Nat.le_of_ble_eq_true rfl⟩ (by decide +kernel) (fun _ => ?_)
            obtain ⟨q8, e8, hf⟩ := zbi_of hf
            refine zr_run [(.aload_n 0, 0, 0, 0, .null), (.sipush 230, 0, 0, 0, .int (230 : Int32)), (.iload_n 1, 0, 0, 0, .null), (.iadd, 0, 0, 0, .null), (.aload_n 0, 0, 0, 0, .null), (.iconst 1, 0, 0, 0, .int (1 : Int32)), (.bipush 20, 0, 0, 0, .int (20 : Int32))] [] (WW' := [w_Mo G a0 q7]) (lv' := [some (.ref (a0 0)), some (.int ((Mo_read q1.2) (2 : Int32).toNatClampNeg))]) (pc' := 94) (st' := [.int (20 : Int32), .int (1 : Int32), .ref (a0 0), .int ((230 : Int32) + ((Mo_read q1.2) (2 : Int32).toNatClampNeg)), .ref (a0 0)]) (by decide +kernel) rfl rfl ⟨trivial, trivial, trivial, trivial, trivial, trivial, trivial, trivial⟩ ?_
            refine zr_callV (c_X12_readNumber l G a0 q7 (1 : Int32) (20 : Int32) q8 e8) (WW' := fun _ => [w_Mo G a0 q8.2]) (st := [.int ((230 : Int32) + ((Mo_read q1.2) (2 : Int32).toNatClampNeg)), .ref (a0 0)]) (st' := [.int q8.1, .int ((230 : Int32) + ((Mo_read q1.2) (2 : Int32).toNatClampNeg)), .ref (a0 0)]) [0] rfl rfl (fun _ => Nat.le_of_ble_eq_true rfl) (fun _ => rfl) rfl rfl nm_X12_readNumber zw_7_34 zw_7_36 zw_0_59 zw_1_18 zw_7_37 rfl rfl rfl (Nat.le_of_ble_eq_true rfl) ⟨Nat.le_of_ble_eq_true rfl, Nat.le_of_ble_eq_true rfl⟩ (by decide +kernel) (fun _ => ?_)
            obtain ⟨q9, e9, hf⟩ := zbi_of hf
            refine zr_callV (c_X12_put l G a0 q8.2 ((230 : Int32) + ((Mo_read q1.2) (2 : Int32).toNatClampNeg)) q8.1 q9 e9) (WW' := fun _ => [w_Mo G a0 q9.2]) (st := []) (st' := [.int q9.1]) [0] rfl rfl (fun _ => Nat.le_of_ble_eq_true rfl) (fun _ => rfl) rfl rfl nm_X12_put zw_7_41 zw_7_43 zw_0_60 zw_1_18 zw_7_44 rfl rfl rfl (Nat.le_of_ble_eq_true rfl) ⟨Nat.le_of_ble_eq_true rfl, Nat.le_of_ble_eq_true rfl⟩ (by decide +kernel) (fun _ => ?_)
            refine zr_if_eq (off := 22) (tgt := 122) (by decide +kernel) (by decide) (fun hc => ?_) (fun hc => ?_)
            · have hf := zift hf hc
              refine zr_run [(.iconst 0, 0, 0, 0, .int (0 : Int32))] [] (WW' := [w_Mo G a0 q9.2]) (lv' := [some (.ref (a0 0)), some (.int ((Mo_read q1.2) (2 : Int32).toNatClampNeg))]) (pc' := 123) (st' := [.int (0 : Int32)]) (by decide +kernel) rfl rfl ⟨trivial, trivial⟩ ?_
              obtain rfl := Option.some.inj hf
              exact zr_zret (by decide) (b0 := fun _ => 0) (by decide +kernel) rfl rfl rfl rfl rfl
            · have hf := ziff hf hc
              obtain ⟨q10, e10, hf⟩ := zbi_of hf
              refine zr_run [(.aload_n 0, 0, 0, 0, .null), (.sipush 236, 0, 0, 0, .int (236 : Int32)), (.iload_n 1, 0, 0, 0, .null), (.iadd, 0, 0, 0, .null), (.aload_n 0, 0, 0, 0, .null), (.iconst 0, 0, 0, 0, .int (0 : Int32)), (.bipush 99, 0, 0, 0, .int (99 : Int32))] [] (WW' := [w_Mo G a0 q9.2]) (lv' := [some (.ref (a0 0)), some (.int ((Mo_read q1.2) (2 : Int32).toNatClampNeg))]) (pc' := 113) (st' := [.int (99 : Int32), .int (0 : Int32), .ref (a0 0), .int ((236 : Int32) + ((Mo_read q1.2) (2 : Int32).toNatClampNeg)), .ref (a0 0)]) (by decide +kernel) rfl rfl ⟨trivial, trivial, trivial, trivial, trivial, trivial, trivial, trivial⟩ ?_
              refine zr_callV (c_X12_readNumber l G a0 q9.2 (0 : Int32) (99 : Int32) q10 e10) (WW' := fun _ => [w_Mo G a0 q10.2]) (st := [.int ((236 : Int32) + ((Mo_read q1.2) (2 : Int32).toNatClampNeg)), .ref (a0 0)]) (st' := [.int q10.1, .int ((236 : Int32) + ((Mo_read q1.2) (2 : Int32).toNatClampNeg)), .ref (a0 0)]) [0] rfl rfl (fun _ => Nat.le_of_ble_eq_true rfl) (fun _ => rfl) rfl rfl nm_X12_readNumber zw_7_34 zw_7_36 zw_0_59 zw_1_18 zw_7_37 rfl rfl rfl (Nat.le_of_ble_eq_true rfl) ⟨Nat.le_of_ble_eq_true rfl, Nat.le_of_ble_eq_true rfl⟩ (by decide +kernel) (fun _ => ?_)
              obtain ⟨q11, e11, hf⟩ := zbi_of hf
              refine zr_callV (c_X12_put l G a0 q10.2 ((236 : Int32) + ((Mo_read q1.2) (2 : Int32).toNatClampNeg)) q10.1 q11 e11) (WW' := fun _ => [w_Mo G a0 q11.2]) (st := []) (st' := [.int q11.1]) [0] rfl rfl (fun _ => Nat.le_of_ble_eq_true rfl) (fun _ => rfl) rfl rfl nm_X12_put zw_7_41 zw_7_43 zw_0_60 zw_1_18 zw_7_44 rfl rfl rfl (Nat.le_of_ble_eq_true rfl) ⟨Nat.le_of_ble_eq_true rfl, Nat.le_of_ble_eq_true rfl⟩ (by decide +kernel) (fun _ => ?_)
              refine zr_if_ne (off := 5) (tgt := 124) (by decide +kernel) (by decide) (fun hc => ?_) (fun hc => ?_)
              · have hf := zift hf hc
                refine zr_run [(.iconst 0, 0, 0, 0, .int (0 : Int32))] [] (WW' := [w_Mo G a0 q11.2]) (lv' := [some (.ref (a0 0)), some (.int ((Mo_read q1.2) (2 : Int32).toNatClampNeg))]) (pc' := 123) (st' := [.int (0 : Int32)]) (by decide +kernel) rfl rfl ⟨trivial, trivial⟩ ?_
                obtain rfl := Option.some.inj hf
                exact zr_zret (by decide) (b0 := fun _ => 0) (by decide +kernel) rfl rfl rfl rfl rfl
              · have hf := ziff hf hc
                obtain ⟨y12, e12, hf⟩ := zlet_of hf
                refine zr_run [(.aload_n 0, 0, 0, 0, .null), (.getfield 16, 0, 0, 15, .null), (.iconst 2, 0, 0, 0, .int (2 : Int32)), (.dup2, 0, 0, 0, .null), (.iaload, 0, 3, 0, .null), (.iconst 1, 0, 0, 0, .int (1 : Int32)), (.iadd, 0, 0, 0, .null), (.iastore, 0, 3, 0, .null)] [] (WW' := [w_Mo G a0 (Mo_s_read q11.2 ((upd (Mo_read q11.2) (2 : Int32).toNatClampNeg (((Mo_read q11.2) (2 : Int32).toNatClampNeg) + (1 : Int32)))))]) (lv' := [some (.ref (a0 0)), some (.int ((Mo_read q1.2) (2 : Int32).toNatClampNeg))]) (pc' := 134) (st' := []) (by decide +kernel) rfl rfl ⟨trivial, ⟨rfl, rfl, zw_6_44⟩, trivial, trivial, ⟨rfl, rfl, (by decide)⟩, trivial, trivial, ⟨rfl, rfl, (by decide)⟩, trivial⟩ ?_
                refine zr_eq (WW2 := [w_Mo G a0 y12]) (lv2 := [some (.ref (a0 0)), some (.int ((Mo_read q1.2) (2 : Int32).toNatClampNeg))]) (st2 := []) (by rw [e12]) rfl rfl ?_
                refine zr_run [(.iconst 1, 0, 0, 0, .int (1 : Int32))] [] (WW' := [w_Mo G a0 y12]) (lv' := [some (.ref (a0 0)), some (.int ((Mo_read q1.2) (2 : Int32).toNatClampNeg))]) (pc' := 135) (st' := [.int (1 : Int32)]) (by decide +kernel) rfl rfl ⟨trivial, trivial⟩ ?_
                obtain rfl := Option.some.inj hf
                exact zr_zret (by decide) (b0 := fun _ => 0) (by decide +kernel) rfl rfl rfl rfl rfl
          · have hf := ziff hf hc
            obtain ⟨q13, e13, hf⟩ := zbi_of hf
            refine zr_run [(.aload_n 0, 0, 0, 0, .null), (.iconst 3, 0, 0, 0, .int (3 : Int32))] [] (WW' := [w_Mo G a0 q3.2]) (lv' := [some (.ref (a0 0)), some (.int ((Mo_read q1.2) (2 : Int32).toNatClampNeg))]) (pc' := 62) (st' := [.int (3 : Int32), .ref (a0 0)]) (by decide +kernel) rfl rfl ⟨trivial, trivial, trivial⟩ ?_
            refine zr_callV (c_X12_bad l G a0 q3.2 (3 : Int32) q13 e13) (WW' := fun _ => [w_Mo G a0 q13.2]) (st := []) (st' := [.int q13.1]) [0] rfl rfl (fun _ => Nat.le_of_ble_eq_true rfl) (fun _ => rfl) rfl rfl nm_X12_bad zw_7_19 zw_7_21 zw_0_56 zw_1_18 zw_7_22 rfl rfl rfl (Nat.le_of_ble_eq_true rfl) ⟨Nat.le_of_ble_eq_true rfl, Nat.le_of_ble_eq_true rfl⟩ (by decide +kernel) (fun _ => ?_)
            obtain ⟨h14, hf⟩ := zck_of hf
            obtain rfl := Option.some.inj hf
            exact zr_zret h14 (b0 := fun _ => 0) (by decide +kernel) rfl rfl rfl rfl rfl
  exact zj_entry [some (.ref (a0 0)), none] (by decide +kernel) rfl (by decide) (Nat.le_of_ble_eq_true rfl) rfl rfl (key _)
def M_X12_readKin : zj_M := (RX12, cX12_readKin, 1, (some .boolean), { frames := 4, cells := 0, slots := 0, locals := 90 }, false)
theorem nm_X12_readKin : zj_nm yX12_readKin 0 := ⟨by decide +kernel, by decide +kernel, by decide +kernel⟩
def f_X12_readKin  (s0 : MoT)  : Option (Int32 × MoT) := ((f_X12_go s0).bind fun q1 => ((f_X12_isOne q1 (10 : Int32) ((Mo_read q1) (2 : Int32).toNatClampNeg)).bind fun q2 => (if q2.1 = 0 then some ((0 : Int32), q2.2) else ((f_X12_has ((Mo_read q2.2) (242 : Int32).toNatClampNeg) (Mo_told q2.2)).bind fun q3 => (if q3 = 0 then (zlet (((Mo_read q2.2) (242 : Int32).toNatClampNeg) ||| (zr_shl (1 : Int32) (Mo_told q2.2))) fun y4 => (zlet (Mo_s_read q2.2 ((upd (Mo_read q2.2) (242 : Int32).toNatClampNeg y4))) fun y5 => ((f_X12_go y5).bind fun q6 => some ((1 : Int32), q6)))) else ((f_X12_bad q2.2 (3 : Int32)).bind fun q7 => (if zb_bo q7.1 = true then some (q7.1, q7.2) else none)))))))
set_option maxRecDepth 100000 in
set_option maxHeartbeats 4000000 in
theorem c_X12_readKin (l : Launch) (G : zj_G) (a0 : Nat → Nat) (s0 : MoT)  (r : Int32 × MoT) (hf : f_X12_readKin s0 = some r) : zj_C l G M_X12_readKin yX12_readKin [w_Mo G a0 s0] [.ref (a0 0)] (some (.int r.1)) (fun _ => [w_Mo G a0 r.2]) := by
  have key : ∀ W0 : List va_W, zj_J l G M_X12_readKin W0 (zj_ret G M_X12_readKin W0 (some (.int r.1)) (fun _ => [w_Mo G a0 r.2])) 0 0 [w_Mo G a0 s0] [some (.ref (a0 0))] 0 [] := by
    intro W0
    unfold f_X12_readKin at hf
    obtain ⟨q1, e1, hf⟩ := zbi_of hf
    refine zr_run [(.aload_n 0, 0, 0, 0, .null)] [] (WW' := [w_Mo G a0 s0]) (lv' := [some (.ref (a0 0))]) (pc' := 1) (st' := [.ref (a0 0)]) (by decide +kernel) rfl rfl ⟨trivial, trivial⟩ ?_
    refine zr_callV (c_X12_go l G a0 s0 q1 e1) (WW' := fun _ => [w_Mo G a0 q1]) (st := []) (st' := []) [0] rfl rfl (fun _ => Nat.le_of_ble_eq_true rfl) (fun _ => rfl) rfl rfl nm_X12_go zw_6_221 zw_6_223 zw_0_50 zw_1_18 zw_6_224 rfl rfl rfl (Nat.le_of_ble_eq_true rfl) ⟨Nat.le_of_ble_eq_true rfl, Nat.le_of_ble_eq_true rfl⟩ (by decide +kernel) (fun _ => ?_)
    obtain ⟨q2, e2, hf⟩ := zbi_of hf
    refine zr_run [(.aload_n 0, 0, 0, 0, .null), (.bipush 10, 0, 0, 0, .int (10 : Int32)), (.aload_n 0, 0, 0, 0, .null), (.getfield 16, 0, 0, 15, .null), (.iconst 2, 0, 0, 0, .int (2 : Int32)), (.iaload, 0, 3, 0, .null)] [] (WW' := [w_Mo G a0 q1]) (lv' := [some (.ref (a0 0))]) (pc' := 13) (st' := [.int ((Mo_read q1) (2 : Int32).toNatClampNeg), .int (10 : Int32), .ref (a0 0)]) (by decide +kernel) rfl rfl ⟨trivial, trivial, trivial, ⟨rfl, rfl, zw_6_44⟩, trivial, ⟨rfl, rfl, (by decide)⟩, trivial⟩ ?_
    refine zr_callV (c_X12_isOne l G a0 q1 (10 : Int32) ((Mo_read q1) (2 : Int32).toNatClampNeg) q2 e2) (WW' := fun _ => [w_Mo G a0 q2.2]) (st := []) (st' := [.int q2.1]) [0] rfl rfl (fun _ => Nat.le_of_ble_eq_true rfl) (fun _ => rfl) rfl rfl nm_X12_isOne zw_7_49 zw_7_51 zw_0_62 zw_1_18 zw_7_52 rfl rfl rfl (Nat.le_of_ble_eq_true rfl) ⟨Nat.le_of_ble_eq_true rfl, Nat.le_of_ble_eq_true rfl⟩ (by decide +kernel) (fun _ => ?_)
    refine zr_if_ne (off := 5) (tgt := 21) (by decide +kernel) (by decide) (fun hc => ?_) (fun hc => ?_)
    · have hf := zift hf hc
      refine zr_run [(.iconst 0, 0, 0, 0, .int (0 : Int32))] [] (WW' := [w_Mo G a0 q2.2]) (lv' := [some (.ref (a0 0))]) (pc' := 20) (st' := [.int (0 : Int32)]) (by decide +kernel) rfl rfl ⟨trivial, trivial⟩ ?_
      obtain rfl := Option.some.inj hf
      exact zr_zret (by decide) (b0 := fun _ => 0) (by decide +kernel) rfl rfl rfl rfl rfl
    · have hf := ziff hf hc
      obtain ⟨q3, e3, hf⟩ := zbi_of hf
      refine zr_run [(.aload_n 0, 0, 0, 0, .null), (.getfield 16, 0, 0, 15, .null), (.sipush 242, 0, 0, 0, .int (242 : Int32)), (.iaload, 0, 3, 0, .null), (.aload_n 0, 0, 0, 0, .null), (.getfield 162, 0, 0, 13, .null)] [] (WW' := [w_Mo G a0 q2.2]) (lv' := [some (.ref (a0 0))]) (pc' := 33) (st' := [.int (Mo_told q2.2), .int ((Mo_read q2.2) (242 : Int32).toNatClampNeg)]) (by decide +kernel) rfl rfl ⟨trivial, ⟨rfl, rfl, zw_6_44⟩, trivial, ⟨rfl, rfl, (by decide)⟩, trivial, ⟨rfl, rfl, zw_6_42⟩, trivial⟩ ?_
      refine zr_callS (c_X12_has l G ((Mo_read q2.2) (242 : Int32).toNatClampNeg) (Mo_told q2.2) q3 e3) (WW' := fun _ => [w_Mo G a0 q2.2]) (st := []) (st' := [.int q3]) [] rfl rfl (fun _ => Nat.le_of_ble_eq_true rfl) (fun _ => rfl) rfl rfl nm_X12_has zw_7_61 zw_7_62 zw_1_18 zw_7_63 rfl (Nat.le_of_ble_eq_true rfl) ⟨Nat.le_of_ble_eq_true rfl, Nat.le_of_ble_eq_true rfl⟩ (by decide +kernel) (fun _ => ?_)
      refine zr_if_eq (off := 9) (tgt := 45) (by decide +kernel) (by decide) (fun hc => ?_) (fun hc => ?_)
      · have hf := zift hf hc
        obtain ⟨y4, e4, hf⟩ := zlet_of hf
        refine zr_run [(.aload_n 0, 0, 0, 0, .null), (.getfield 16, 0, 0, 15, .null), (.sipush 242, 0, 0, 0, .int (242 : Int32)), (.dup2, 0, 0, 0, .null), (.iaload, 0, 3, 0, .null), (.iconst 1, 0, 0, 0, .int (1 : Int32)), (.aload_n 0, 0, 0, 0, .null), (.getfield 162, 0, 0, 13, .null), (.ishl, 0, 0, 0, .null), (.ior, 0, 0, 0, .null)] [] (WW' := [w_Mo G a0 q2.2]) (lv' := [some (.ref (a0 0))]) (pc' := 61) (st' := [.int (((Mo_read q2.2) (242 : Int32).toNatClampNeg) ||| (zr_shl (1 : Int32) (Mo_told q2.2))), .int (242 : Int32), .ref (a0 3)]) (by decide +kernel) rfl rfl ⟨trivial, ⟨rfl, rfl, zw_6_44⟩, trivial, trivial, ⟨rfl, rfl, (by decide)⟩, trivial, trivial, ⟨rfl, rfl, zw_6_42⟩, trivial, trivial, trivial⟩ ?_
        refine zr_eq (WW2 := [w_Mo G a0 q2.2]) (lv2 := [some (.ref (a0 0))]) (st2 := [.int y4, .int (242 : Int32), .ref (a0 3)]) rfl rfl (by rw [e4]) ?_
        obtain ⟨y5, e5, hf⟩ := zlet_of hf
        refine zr_run [(.iastore, 0, 3, 0, .null)] [] (WW' := [w_Mo G a0 (Mo_s_read q2.2 ((upd (Mo_read q2.2) (242 : Int32).toNatClampNeg y4)))]) (lv' := [some (.ref (a0 0))]) (pc' := 62) (st' := []) (by decide +kernel) rfl rfl ⟨⟨rfl, rfl, (by decide)⟩, trivial⟩ ?_
        refine zr_eq (WW2 := [w_Mo G a0 y5]) (lv2 := [some (.ref (a0 0))]) (st2 := []) (by rw [e5]) rfl rfl ?_
        obtain ⟨q6, e6, hf⟩ := zbi_of hf
        refine zr_run [(.aload_n 0, 0, 0, 0, .null)] [] (WW' := [w_Mo G a0 y5]) (lv' := [some (.ref (a0 0))]) (pc' := 63) (st' := [.ref (a0 0)]) (by decide +kernel) rfl rfl ⟨trivial, trivial⟩ ?_
        refine zr_callV (c_X12_go l G a0 y5 q6 e6) (WW' := fun _ => [w_Mo G a0 q6]) (st := []) (st' := []) [0] rfl rfl (fun _ => Nat.le_of_ble_eq_true rfl) (fun _ => rfl) rfl rfl nm_X12_go zw_6_221 zw_6_223 zw_0_50 zw_1_18 zw_6_224 rfl rfl rfl (Nat.le_of_ble_eq_true rfl) ⟨Nat.le_of_ble_eq_true rfl, Nat.le_of_ble_eq_true rfl⟩ (by decide +kernel) (fun _ => ?_)
        refine zr_run [(.iconst 1, 0, 0, 0, .int (1 : Int32))] [] (WW' := [w_Mo G a0 q6]) (lv' := [some (.ref (a0 0))]) (pc' := 67) (st' := [.int (1 : Int32)]) (by decide +kernel) rfl rfl ⟨trivial, trivial⟩ ?_
        obtain rfl := Option.some.inj hf
        exact zr_zret (by decide) (b0 := fun _ => 0) (by decide +kernel) rfl rfl rfl rfl rfl
      · have hf := ziff hf hc
        obtain ⟨q7, e7, hf⟩ := zbi_of hf
        refine zr_run [(.aload_n 0, 0, 0, 0, .null), (.iconst 3, 0, 0, 0, .int (3 : Int32))] [] (WW' := [w_Mo G a0 q2.2]) (lv' := [some (.ref (a0 0))]) (pc' := 41) (st' := [.int (3 : Int32), .ref (a0 0)]) (by decide +kernel) rfl rfl ⟨trivial, trivial, trivial⟩ ?_
        refine zr_callV (c_X12_bad l G a0 q2.2 (3 : Int32) q7 e7) (WW' := fun _ => [w_Mo G a0 q7.2]) (st := []) (st' := [.int q7.1]) [0] rfl rfl (fun _ => Nat.le_of_ble_eq_true rfl) (fun _ => rfl) rfl rfl nm_X12_bad zw_7_19 zw_7_21 zw_0_56 zw_1_18 zw_7_22 rfl rfl rfl (Nat.le_of_ble_eq_true rfl) ⟨Nat.le_of_ble_eq_true rfl, Nat.le_of_ble_eq_true rfl⟩ (by decide +kernel) (fun _ => ?_)
        obtain ⟨h8, hf⟩ := zck_of hf
        obtain rfl := Option.some.inj hf
        exact zr_zret h8 (b0 := fun _ => 0) (by decide +kernel) rfl rfl rfl rfl rfl
  exact zj_entry [some (.ref (a0 0))] (by decide +kernel) rfl (by decide) (Nat.le_of_ble_eq_true rfl) rfl rfl (key _)
def M_X12_readLine : zj_M := (RX12, cX12_readLine, 1, (some .boolean), { frames := 5, cells := 0, slots := 0, locals := 113 }, false)
theorem nm_X12_readLine : zj_nm yX12_readLine 0 := ⟨by decide +kernel, by decide +kernel, by decide +kernel⟩
def f_X12_readLine  (s0 : MoT)  : Option (Int32 × MoT) := ((f_X12_isWord s0 (0 : Int32)).bind fun q1 => (if q1 = 0 then ((f_X12_isWord s0 (1 : Int32)).bind fun q2 => (if q2 = 0 then ((f_X12_isWord s0 (2 : Int32)).bind fun q3 => (if q3 = 0 then ((f_X12_isWord s0 (3 : Int32)).bind fun q4 => (if q4 = 0 then ((f_X12_isWord s0 (5 : Int32)).bind fun q5 => (if q5 = 0 then ((f_X12_isWord s0 (21 : Int32)).bind fun q6 => (if q6 = 0 then ((f_X12_bad s0 (1 : Int32)).bind fun q7 => (if zb_bo q7.1 = true then some (q7.1, q7.2) else none)) else ((f_X12_readKin s0).bind fun q9 => (if zb_bo q9.1 = true then some (q9.1, q9.2) else none)))) else ((f_X12_readMan s0).bind fun q11 => (if zb_bo q11.1 = true then some (q11.1, q11.2) else none)))) else ((f_X12_readRoad s0).bind fun q13 => (if zb_bo q13.1 = true then some (q13.1, q13.2) else none)))) else ((f_X12_readPlace s0 (2 : Int32)).bind fun q15 => (if zb_bo q15.1 = true then some (q15.1, q15.2) else none)))) else ((f_X12_readPlace s0 (1 : Int32)).bind fun q17 => (if zb_bo q17.1 = true then some (q17.1, q17.2) else none)))) else ((f_X12_readPlace s0 (0 : Int32)).bind fun q19 => (if zb_bo q19.1 = true then some (q19.1, q19.2) else none))))
set_option maxRecDepth 100000 in
set_option maxHeartbeats 4000000 in
theorem c_X12_readLine (l : Launch) (G : zj_G) (a0 : Nat → Nat) (s0 : MoT)  (r : Int32 × MoT) (hf : f_X12_readLine s0 = some r) : zj_C l G M_X12_readLine yX12_readLine [w_Mo G a0 s0] [.ref (a0 0)] (some (.int r.1)) (fun _ => [w_Mo G a0 r.2]) := by
  have key : ∀ W0 : List va_W, zj_J l G M_X12_readLine W0 (zj_ret G M_X12_readLine W0 (some (.int r.1)) (fun _ => [w_Mo G a0 r.2])) 0 0 [w_Mo G a0 s0] [some (.ref (a0 0))] 0 [] := by
    intro W0
    unfold f_X12_readLine at hf
    obtain ⟨q1, e1, hf⟩ := zbi_of hf
    refine zr_run [(.aload_n 0, 0, 0, 0, .null), (.iconst 0, 0, 0, 0, .int (0 : Int32))] [] (WW' := [w_Mo G a0 s0]) (lv' := [some (.ref (a0 0))]) (pc' := 2) (st' := [.int (0 : Int32), .ref (a0 0)]) (by decide +kernel) rfl rfl ⟨trivial, trivial, trivial⟩ ?_
    refine zr_callV (c_X12_isWord l G a0 s0 (0 : Int32) q1 e1) (WW' := fun _ => [w_Mo G a0 s0]) (st := []) (st' := [.int q1]) [0] rfl rfl (fun _ => Nat.le_of_ble_eq_true rfl) (fun _ => rfl) rfl rfl nm_X12_isWord zw_7_1 zw_7_3 zw_0_53 zw_1_18 zw_7_4 rfl rfl rfl (Nat.le_of_ble_eq_true rfl) ⟨Nat.le_of_ble_eq_true rfl, Nat.le_of_ble_eq_true rfl⟩ (by decide +kernel) (fun _ => ?_)
    refine zr_if_eq (off := 9) (tgt := 14) (by decide +kernel) (by decide) (fun hc => ?_) (fun hc => ?_)
    · have hf := zift hf hc
      obtain ⟨q2, e2, hf⟩ := zbi_of hf
      refine zr_run [(.aload_n 0, 0, 0, 0, .null), (.iconst 1, 0, 0, 0, .int (1 : Int32))] [] (WW' := [w_Mo G a0 s0]) (lv' := [some (.ref (a0 0))]) (pc' := 16) (st' := [.int (1 : Int32), .ref (a0 0)]) (by decide +kernel) rfl rfl ⟨trivial, trivial, trivial⟩ ?_
      refine zr_callV (c_X12_isWord l G a0 s0 (1 : Int32) q2 e2) (WW' := fun _ => [w_Mo G a0 s0]) (st := []) (st' := [.int q2]) [0] rfl rfl (fun _ => Nat.le_of_ble_eq_true rfl) (fun _ => rfl) rfl rfl nm_X12_isWord zw_7_1 zw_7_3 zw_0_53 zw_1_18 zw_7_4 rfl rfl rfl (Nat.le_of_ble_eq_true rfl) ⟨Nat.le_of_ble_eq_true rfl, Nat.le_of_ble_eq_true rfl⟩ (by decide +kernel) (fun _ => ?_)
      refine zr_if_eq (off := 9) (tgt := 28) (by decide +kernel) (by decide) (fun hc => ?_) (fun hc => ?_)
      · have hf := zift hf hc
        obtain ⟨q3, e3, hf⟩ := zbi_of hf
        refine zr_run [(.aload_n 0, 0, 0, 0, .null), (.iconst 2, 0, 0, 0, .int (2 : Int32))] [] (WW' := [w_Mo G a0 s0]) (lv' := [some (.ref (a0 0))]) (pc' := 30) (st' := [.int (2 : Int32), .ref (a0 0)]) (by decide +kernel) rfl rfl ⟨trivial, trivial, trivial⟩ ?_
        refine zr_callV (c_X12_isWord l G a0 s0 (2 : Int32) q3 e3) (WW' := fun _ => [w_Mo G a0 s0]) (st := []) (st' := [.int q3]) [0] rfl rfl (fun _ => Nat.le_of_ble_eq_true rfl) (fun _ => rfl) rfl rfl nm_X12_isWord zw_7_1 zw_7_3 zw_0_53 zw_1_18 zw_7_4 rfl rfl rfl (Nat.le_of_ble_eq_true rfl) ⟨Nat.le_of_ble_eq_true rfl, Nat.le_of_ble_eq_true rfl⟩ (by decide +kernel) (fun _ => ?_)
        refine zr_if_eq (off := 9) (tgt := 42) (by decide +kernel) (by decide) (fun hc => ?_) (fun hc => ?_)
        · have hf := zift hf hc
          obtain ⟨q4, e4, hf⟩ := zbi_of hf
          refine zr_run [(.aload_n 0, 0, 0, 0, .null), (.iconst 3, 0, 0, 0, .int (3 : Int32))] [] (WW' := [w_Mo G a0 s0]) (lv' := [some (.ref (a0 0))]) (pc' := 44) (st' := [.int (3 : Int32), .ref (a0 0)]) (by decide +kernel) rfl rfl ⟨trivial, trivial, trivial⟩ ?_
          refine zr_callV (c_X12_isWord l G a0 s0 (3 : Int32) q4 e4) (WW' := fun _ => [w_Mo G a0 s0]) (st := []) (st' := [.int q4]) [0] rfl rfl (fun _ => Nat.le_of_ble_eq_true rfl) (fun _ => rfl) rfl rfl nm_X12_isWord zw_7_1 zw_7_3 zw_0_53 zw_1_18 zw_7_4 rfl rfl rfl (Nat.le_of_ble_eq_true rfl) ⟨Nat.le_of_ble_eq_true rfl, Nat.le_of_ble_eq_true rfl⟩ (by decide +kernel) (fun _ => ?_)
          refine zr_if_eq (off := 8) (tgt := 55) (by decide +kernel) (by decide) (fun hc => ?_) (fun hc => ?_)
          · have hf := zift hf hc
            obtain ⟨q5, e5, hf⟩ := zbi_of hf
            refine zr_run [(.aload_n 0, 0, 0, 0, .null), (.iconst 5, 0, 0, 0, .int (5 : Int32))] [] (WW' := [w_Mo G a0 s0]) (lv' := [some (.ref (a0 0))]) (pc' := 57) (st' := [.int (5 : Int32), .ref (a0 0)]) (by decide +kernel) rfl rfl ⟨trivial, trivial, trivial⟩ ?_
            refine zr_callV (c_X12_isWord l G a0 s0 (5 : Int32) q5 e5) (WW' := fun _ => [w_Mo G a0 s0]) (st := []) (st' := [.int q5]) [0] rfl rfl (fun _ => Nat.le_of_ble_eq_true rfl) (fun _ => rfl) rfl rfl nm_X12_isWord zw_7_1 zw_7_3 zw_0_53 zw_1_18 zw_7_4 rfl rfl rfl (Nat.le_of_ble_eq_true rfl) ⟨Nat.le_of_ble_eq_true rfl, Nat.le_of_ble_eq_true rfl⟩ (by decide +kernel) (fun _ => ?_)
            refine zr_if_eq (off := 8) (tgt := 68) (by decide +kernel) (by decide) (fun hc => ?_) (fun hc => ?_)
            · have hf := zift hf hc
              obtain ⟨q6, e6, hf⟩ := zbi_of hf
              refine zr_run [(.aload_n 0, 0, 0, 0, .null), (.bipush 21, 0, 0, 0, .int (21 : Int32))] [] (WW' := [w_Mo G a0 s0]) (lv' := [some (.ref (a0 0))]) (pc' := 71) (st' := [.int (21 : Int32), .ref (a0 0)]) (by decide +kernel) rfl rfl ⟨trivial, trivial, trivial⟩ ?_
              refine zr_callV (c_X12_isWord l G a0 s0 (21 : Int32) q6 e6) (WW' := fun _ => [w_Mo G a0 s0]) (st := []) (st' := [.int q6]) [0] rfl rfl (fun _ => Nat.le_of_ble_eq_true rfl) (fun _ => rfl) rfl rfl nm_X12_isWord zw_7_1 zw_7_3 zw_0_53 zw_1_18 zw_7_4 rfl rfl rfl (Nat.le_of_ble_eq_true rfl) ⟨Nat.le_of_ble_eq_true rfl, Nat.le_of_ble_eq_true rfl⟩ (by decide +kernel) (fun _ => ?_)
              refine zr_if_eq (off := 10) (tgt := 84) (by decide +kernel) (by decide) (fun hc => ?_) (fun hc => ?_)
              · have hf := zift hf hc
                obtain ⟨q7, e7, hf⟩ := zbi_of hf
                refine zr_run [(.aload_n 0, 0, 0, 0, .null), (.iconst 1, 0, 0, 0, .int (1 : Int32))] [] (WW' := [w_Mo G a0 s0]) (lv' := [some (.ref (a0 0))]) (pc' := 86) (st' := [.int (1 : Int32), .ref (a0 0)]) (by decide +kernel) rfl rfl ⟨trivial, trivial, trivial⟩ ?_
                refine zr_callV (c_X12_bad l G a0 s0 (1 : Int32) q7 e7) (WW' := fun _ => [w_Mo G a0 q7.2]) (st := []) (st' := [.int q7.1]) [0] rfl rfl (fun _ => Nat.le_of_ble_eq_true rfl) (fun _ => rfl) rfl rfl nm_X12_bad zw_7_19 zw_7_21 zw_0_56 zw_1_18 zw_7_22 rfl rfl rfl (Nat.le_of_ble_eq_true rfl) ⟨Nat.le_of_ble_eq_true rfl, Nat.le_of_ble_eq_true rfl⟩ (by decide +kernel) (fun _ => ?_)
                obtain ⟨h8, hf⟩ := zck_of hf
                obtain rfl := Option.some.inj hf
                exact zr_zret h8 (b0 := fun _ => 0) (by decide +kernel) rfl rfl rfl rfl rfl
              · have hf := ziff hf hc
                obtain ⟨q9, e9, hf⟩ := zbi_of hf
                refine zr_run [(.aload_n 0, 0, 0, 0, .null)] [] (WW' := [w_Mo G a0 s0]) (lv' := [some (.ref (a0 0))]) (pc' := 78) (st' := [.ref (a0 0)]) (by decide +kernel) rfl rfl ⟨trivial, trivial⟩ ?_
                refine zr_callV (c_X12_readKin l G a0 s0 q9 e9) (WW' := fun _ => [w_Mo G a0 q9.2]) (st := []) (st' := [.int q9.1]) [0] rfl rfl (fun _ => Nat.le_of_ble_eq_true rfl) (fun _ => rfl) rfl rfl nm_X12_readKin zw_7_57 zw_7_59 zw_0_64 zw_1_18 zw_7_60 rfl rfl rfl (Nat.le_of_ble_eq_true rfl) ⟨Nat.le_of_ble_eq_true rfl, Nat.le_of_ble_eq_true rfl⟩ (by decide +kernel) (fun _ => ?_)
                refine zr_goto (off := 8) (tgt := 89) (by decide +kernel) (by decide) ?_
                obtain ⟨h10, hf⟩ := zck_of hf
                obtain rfl := Option.some.inj hf
                exact zr_zret h10 (b0 := fun _ => 0) (by decide +kernel) rfl rfl rfl rfl rfl
            · have hf := ziff hf hc
              obtain ⟨q11, e11, hf⟩ := zbi_of hf
              refine zr_run [(.aload_n 0, 0, 0, 0, .null)] [] (WW' := [w_Mo G a0 s0]) (lv' := [some (.ref (a0 0))]) (pc' := 64) (st' := [.ref (a0 0)]) (by decide +kernel) rfl rfl ⟨trivial, trivial⟩ ?_
              refine zr_callV (c_X12_readMan l G a0 s0 q11 e11) (WW' := fun _ => [w_Mo G a0 q11.2]) (st := []) (st' := [.int q11.1]) [0] rfl rfl (fun _ => Nat.le_of_ble_eq_true rfl) (fun _ => rfl) rfl rfl nm_X12_readMan zw_7_53 zw_7_55 zw_0_63 zw_1_18 zw_7_56 rfl rfl rfl (Nat.le_of_ble_eq_true rfl) ⟨Nat.le_of_ble_eq_true rfl, Nat.le_of_ble_eq_true rfl⟩ (by decide +kernel) (fun _ => ?_)
              obtain ⟨h12, hf⟩ := zck_of hf
              obtain rfl := Option.some.inj hf
              exact zr_zret h12 (b0 := fun _ => 0) (by decide +kernel) rfl rfl rfl rfl rfl
          · have hf := ziff hf hc
            obtain ⟨q13, e13, hf⟩ := zbi_of hf
            refine zr_run [(.aload_n 0, 0, 0, 0, .null)] [] (WW' := [w_Mo G a0 s0]) (lv' := [some (.ref (a0 0))]) (pc' := 51) (st' := [.ref (a0 0)]) (by decide +kernel) rfl rfl ⟨trivial, trivial⟩ ?_
            refine zr_callV (c_X12_readRoad l G a0 s0 q13 e13) (WW' := fun _ => [w_Mo G a0 q13.2]) (st := []) (st' := [.int q13.1]) [0] rfl rfl (fun _ => Nat.le_of_ble_eq_true rfl) (fun _ => rfl) rfl rfl nm_X12_readRoad zw_7_45 zw_7_47 zw_0_61 zw_1_18 zw_7_48 rfl rfl rfl (Nat.le_of_ble_eq_true rfl) ⟨Nat.le_of_ble_eq_true rfl, Nat.le_of_ble_eq_true rfl⟩ (by decide +kernel) (fun _ => ?_)
            obtain ⟨h14, hf⟩ := zck_of hf
            obtain rfl := Option.some.inj hf
            exact zr_zret h14 (b0 := fun _ => 0) (by decide +kernel) rfl rfl rfl rfl rfl
        · have hf := ziff hf hc
          obtain ⟨q15, e15, hf⟩ := zbi_of hf
          refine zr_run [(.aload_n 0, 0, 0, 0, .null), (.iconst 2, 0, 0, 0, .int (2 : Int32))] [] (WW' := [w_Mo G a0 s0]) (lv' := [some (.ref (a0 0))]) (pc' := 38) (st' := [.int (2 : Int32), .ref (a0 0)]) (by decide +kernel) rfl rfl ⟨trivial, trivial, trivial⟩ ?_
          refine zr_callV (c_X12_readPlace l G a0 s0 (2 : Int32) q15 e15) (WW' := fun _ => [w_Mo G a0 q15.2]) (st := []) (st' := [.int q15.1]) [0] rfl rfl (fun _ => Nat.le_of_ble_eq_true rfl) (fun _ => rfl) rfl rfl nm_X12_readPlace zw_7_11 zw_7_13 zw_0_54 zw_1_18 zw_7_14 rfl rfl rfl (Nat.le_of_ble_eq_true rfl) ⟨Nat.le_of_ble_eq_true rfl, Nat.le_of_ble_eq_true rfl⟩ (by decide +kernel) (fun _ => ?_)
          obtain ⟨h16, hf⟩ := zck_of hf
          obtain rfl := Option.some.inj hf
          exact zr_zret h16 (b0 := fun _ => 0) (by decide +kernel) rfl rfl rfl rfl rfl
      · have hf := ziff hf hc
        obtain ⟨q17, e17, hf⟩ := zbi_of hf
        refine zr_run [(.aload_n 0, 0, 0, 0, .null), (.iconst 1, 0, 0, 0, .int (1 : Int32))] [] (WW' := [w_Mo G a0 s0]) (lv' := [some (.ref (a0 0))]) (pc' := 24) (st' := [.int (1 : Int32), .ref (a0 0)]) (by decide +kernel) rfl rfl ⟨trivial, trivial, trivial⟩ ?_
        refine zr_callV (c_X12_readPlace l G a0 s0 (1 : Int32) q17 e17) (WW' := fun _ => [w_Mo G a0 q17.2]) (st := []) (st' := [.int q17.1]) [0] rfl rfl (fun _ => Nat.le_of_ble_eq_true rfl) (fun _ => rfl) rfl rfl nm_X12_readPlace zw_7_11 zw_7_13 zw_0_54 zw_1_18 zw_7_14 rfl rfl rfl (Nat.le_of_ble_eq_true rfl) ⟨Nat.le_of_ble_eq_true rfl, Nat.le_of_ble_eq_true rfl⟩ (by decide +kernel) (fun _ => ?_)
        obtain ⟨h18, hf⟩ := zck_of hf
        obtain rfl := Option.some.inj hf
        exact zr_zret h18 (b0 := fun _ => 0) (by decide +kernel) rfl rfl rfl rfl rfl
    · have hf := ziff hf hc
      obtain ⟨q19, e19, hf⟩ := zbi_of hf
      refine zr_run [(.aload_n 0, 0, 0, 0, .null), (.iconst 0, 0, 0, 0, .int (0 : Int32))] [] (WW' := [w_Mo G a0 s0]) (lv' := [some (.ref (a0 0))]) (pc' := 10) (st' := [.int (0 : Int32), .ref (a0 0)]) (by decide +kernel) rfl rfl ⟨trivial, trivial, trivial⟩ ?_
      refine zr_callV (c_X12_readPlace l G a0 s0 (0 : Int32) q19 e19) (WW' := fun _ => [w_Mo G a0 q19.2]) (st := []) (st' := [.int q19.1]) [0] rfl rfl (fun _ => Nat.le_of_ble_eq_true rfl) (fun _ => rfl) rfl rfl nm_X12_readPlace zw_7_11 zw_7_13 zw_0_54 zw_1_18 zw_7_14 rfl rfl rfl (Nat.le_of_ble_eq_true rfl) ⟨Nat.le_of_ble_eq_true rfl, Nat.le_of_ble_eq_true rfl⟩ (by decide +kernel) (fun _ => ?_)
      obtain ⟨h20, hf⟩ := zck_of hf
      obtain rfl := Option.some.inj hf
      exact zr_zret h20 (b0 := fun _ => 0) (by decide +kernel) rfl rfl rfl rfl rfl
  exact zj_entry [some (.ref (a0 0))] (by decide +kernel) rfl (by decide) (Nat.le_of_ble_eq_true rfl) rfl rfl (key _)
def M_X12_roadMiles : zj_M := (RX12, cX12_roadMiles, 4, (some .int), { frames := 0, cells := 0, slots := 0, locals := 0 }, false)
theorem nm_X12_roadMiles : zj_nm yX12_roadMiles 2 := ⟨by decide +kernel, by decide +kernel, by decide +kernel⟩
def f_X12_roadMiles  (s0 : MoT) (x1 : Int32) (x2 : Int32) : Option (Int32) := (if zb_in (((44 : Int32) + ((10 : Int32) * x1)) + x2) 443 = true then (zlet ((Mo_read s0) (((44 : Int32) + ((10 : Int32) * x1)) + x2).toNatClampNeg) fun y2 => (if y2 = 0 then some (100000 : Int32) else (if zb_in (((144 : Int32) + y2) - (1 : Int32)) 443 = true then some ((Mo_read s0) (((144 : Int32) + y2) - (1 : Int32)).toNatClampNeg) else none))) else none)
set_option maxRecDepth 100000 in
set_option maxHeartbeats 4000000 in
theorem c_X12_roadMiles (l : Launch) (G : zj_G) (a0 : Nat → Nat) (s0 : MoT) (x1 : Int32) (x2 : Int32) (r : Int32) (hf : f_X12_roadMiles s0 x1 x2 = some r) : zj_C l G M_X12_roadMiles yX12_roadMiles [w_Mo G a0 s0] [.ref (a0 0), .int x1, .int x2] (some (.int r)) (fun _ => [w_Mo G a0 s0]) := by
  have key : ∀ W0 : List va_W, zj_J l G M_X12_roadMiles W0 (zj_ret G M_X12_roadMiles W0 (some (.int r)) (fun _ => [w_Mo G a0 s0])) 0 0 [w_Mo G a0 s0] [some (.ref (a0 0)), some (.int x1), some (.int x2), none] 0 [] := by
    intro W0
    unfold f_X12_roadMiles at hf
    obtain ⟨h1, hf⟩ := zck_of hf
    obtain ⟨y2, e2, hf⟩ := zlet_of hf
    refine zr_run [(.aload_n 0, 0, 0, 0, .null), (.getfield 16, 0, 0, 15, .null), (.bipush 44, 0, 0, 0, .int (44 : Int32)), (.bipush 10, 0, 0, 0, .int (10 : Int32)), (.iload_n 1, 0, 0, 0, .null), (.imul, 0, 0, 0, .null), (.iadd, 0, 0, 0, .null), (.iload_n 2, 0, 0, 0, .null), (.iadd, 0, 0, 0, .null), (.iaload, 0, 3, 0, .null), (.istore_n 3, 0, 0, 0, .null)] [] (WW' := [w_Mo G a0 s0]) (lv' := [some (.ref (a0 0)), some (.int x1), some (.int x2), some (.int ((Mo_read s0) (((44 : Int32) + ((10 : Int32) * x1)) + x2).toNatClampNeg))]) (pc' := 15) (st' := []) (by decide +kernel) rfl rfl ⟨trivial, ⟨rfl, rfl, zw_6_44⟩, trivial, trivial, trivial, trivial, trivial, trivial, trivial, ⟨rfl, rfl, h1⟩, trivial, trivial⟩ ?_
    refine zr_eq (WW2 := [w_Mo G a0 s0]) (lv2 := [some (.ref (a0 0)), some (.int x1), some (.int x2), some (.int y2)]) (st2 := []) rfl (by rw [e2]) rfl ?_
    refine zr_run [(.iload_n 3, 0, 0, 0, .null)] [] (WW' := [w_Mo G a0 s0]) (lv' := [some (.ref (a0 0)), some (.int x1), some (.int x2), some (.int y2)]) (pc' := 16) (st' := [.int y2]) (by decide +kernel) rfl rfl ⟨trivial, trivial⟩ ?_
    refine zr_if_ne (off := 8) (tgt := 24) (by decide +kernel) (by decide) (fun hc => ?_) (fun hc => ?_)
    · have hf := zift hf hc
      refine zr_run [(.ldc 218, 0, 0, 0, .int (100000 : Int32))] [] (WW' := [w_Mo G a0 s0]) (lv' := [some (.ref (a0 0)), some (.int x1), some (.int x2), some (.int y2)]) (pc' := 21) (st' := [.int (100000 : Int32)]) (by decide +kernel) rfl rfl ⟨zw_7_80, trivial⟩ ?_
      refine zr_goto (off := 15) (tgt := 36) (by decide +kernel) (by decide) ?_
      obtain rfl := Option.some.inj hf
      exact zr_iret (b0 := fun _ => 0) (by decide +kernel) rfl rfl rfl rfl rfl
    · have hf := ziff hf hc
      obtain ⟨h3, hf⟩ := zck_of hf
      refine zr_run [(.aload_n 0, 0, 0, 0, .null), (.getfield 16, 0, 0, 15, .null), (.sipush 144, 0, 0, 0, .int (144 : Int32)), (.iload_n 3, 0, 0, 0, .null), (.iadd, 0, 0, 0, .null), (.iconst 1, 0, 0, 0, .int (1 : Int32)), (.isub, 0, 0, 0, .null), (.iaload, 0, 3, 0, .null)] [] (WW' := [w_Mo G a0 s0]) (lv' := [some (.ref (a0 0)), some (.int x1), some (.int x2), some (.int y2)]) (pc' := 36) (st' := [.int ((Mo_read s0) (((144 : Int32) + y2) - (1 : Int32)).toNatClampNeg)]) (by decide +kernel) rfl rfl ⟨trivial, ⟨rfl, rfl, zw_6_44⟩, trivial, trivial, trivial, trivial, trivial, ⟨rfl, rfl, h3⟩, trivial⟩ ?_
      obtain rfl := Option.some.inj hf
      exact zr_iret (b0 := fun _ => 0) (by decide +kernel) rfl rfl rfl rfl rfl
  exact zj_entry [some (.ref (a0 0)), some (.int x1), some (.int x2), none] (by decide +kernel) rfl (by decide) (Nat.le_of_ble_eq_true rfl) rfl rfl (key _)
def M_X12_layWays : zj_M := (RX12, cX12_layWays, 5, none, { frames := 1, cells := 0, slots := 0, locals := 23 }, false)
theorem nm_X12_layWays : zj_nm yX12_layWays 0 := ⟨by decide +kernel, by decide +kernel, by decide +kernel⟩
def f_X12_layWays_b45  (s0 : MoT) (k2 : MoT → Int32 → Option (MoT)) (k10 : MoT → Int32 → Int32 → Option (MoT)) (x1 : Int32) (x2 : Int32) (z0 : Int32) (z1 : Int32) : Option (MoT) := (if zb_in z1 443 = true then (zlet (Mo_s_read s0 ((upd (Mo_read s0) z1.toNatClampNeg z0))) fun y2 => k10 y2 x1 (x2 + (1 : Int32))) else none)
def f_X12_layWays_H10  (s0 : MoT) (k2 : MoT → Int32 → Option (MoT)) (k10 : MoT → Int32 → Int32 → Option (MoT)) (x1 : Int32) (x2 : Int32) : Option (MoT) := (if x2 < (10 : Int32) then (if x1 = x2 then f_X12_layWays_b45 s0 k2 k10 x1 x2 (0 : Int32) (((243 : Int32) + ((10 : Int32) * x1)) + x2) else ((f_X12_roadMiles s0 x1 x2).bind fun q3 => f_X12_layWays_b45 s0 k2 k10 x1 x2 q3 (((243 : Int32) + ((10 : Int32) * x1)) + x2))) else k2 s0 (x1 + (1 : Int32)))
def f_X12_layWays_L10   (k2 : MoT → Int32 → Option (MoT)) : Nat → MoT → Int32 → Int32 → Option (MoT)
  | 0 => fun _ _ _ => none
  | n + 1 => fun s0 x1 x2 => f_X12_layWays_H10 s0 k2 (f_X12_layWays_L10 k2 n) x1 x2
def f_X12_layWays_H76  (s0 : MoT) (k60 : MoT → Int32 → Option (MoT)) (k68 : MoT → Int32 → Int32 → Option (MoT)) (k76 : MoT → Int32 → Int32 → Int32 → Option (MoT)) (x1 : Int32) (x2 : Int32) (x3 : Int32) : Option (MoT) := (if x3 < (10 : Int32) then (if zb_in (((243 : Int32) + ((10 : Int32) * x2)) + x3) 443 = true then (if zb_in (((243 : Int32) + ((10 : Int32) * x2)) + x1) 443 = true then (if zb_in (((243 : Int32) + ((10 : Int32) * x1)) + x3) 443 = true then ((f_X12_least ((Mo_read s0) (((243 : Int32) + ((10 : Int32) * x2)) + x3).toNatClampNeg) (((Mo_read s0) (((243 : Int32) + ((10 : Int32) * x2)) + x1).toNatClampNeg) + ((Mo_read s0) (((243 : Int32) + ((10 : Int32) * x1)) + x3).toNatClampNeg))).bind fun q7 => (if zb_in (((243 : Int32) + ((10 : Int32) * x2)) + x3) 443 = true then (zlet (Mo_s_read s0 ((upd (Mo_read s0) (((243 : Int32) + ((10 : Int32) * x2)) + x3).toNatClampNeg q7))) fun y9 => k76 y9 x1 x2 (x3 + (1 : Int32))) else none)) else none) else none) else none) else k68 s0 x1 (x2 + (1 : Int32)))
def f_X12_layWays_L76   (k60 : MoT → Int32 → Option (MoT)) (k68 : MoT → Int32 → Int32 → Option (MoT)) : Nat → MoT → Int32 → Int32 → Int32 → Option (MoT)
  | 0 => fun _ _ _ _ => none
  | n + 1 => fun s0 x1 x2 x3 => f_X12_layWays_H76 s0 k60 k68 (f_X12_layWays_L76 k60 k68 n) x1 x2 x3
def f_X12_layWays_H68  (s0 : MoT) (k60 : MoT → Int32 → Option (MoT)) (k68 : MoT → Int32 → Int32 → Option (MoT)) (x1 : Int32) (x2 : Int32) : Option (MoT) := (if x2 < (10 : Int32) then f_X12_layWays_L76 k60 k68 zFU s0 x1 x2 (0 : Int32) else k60 s0 (x1 + (1 : Int32)))
def f_X12_layWays_L68   (k60 : MoT → Int32 → Option (MoT)) : Nat → MoT → Int32 → Int32 → Option (MoT)
  | 0 => fun _ _ _ => none
  | n + 1 => fun s0 x1 x2 => f_X12_layWays_H68 s0 k60 (f_X12_layWays_L68 k60 n) x1 x2
def f_X12_layWays_b295  (s0 : MoT) (k166 : MoT → Int32 → Option (MoT)) (k174 : MoT → Int32 → Int32 → Option (MoT)) (x1 : Int32) (x2 : Int32) : Option (MoT) := k174 s0 x1 (x2 + (1 : Int32))
def f_X12_layWays_b289  (s0 : MoT) (k166 : MoT → Int32 → Option (MoT)) (k174 : MoT → Int32 → Int32 → Option (MoT)) (k216 : MoT → Int32 → Int32 → Int32 → Int32 → Option (MoT)) (x1 : Int32) (x2 : Int32) (x3 : Int32) (x4 : Int32) : Option (MoT) := k216 s0 x1 x2 x3 (x4 + (-1 : Int32))
def f_X12_layWays_H216  (s0 : MoT) (k166 : MoT → Int32 → Option (MoT)) (k174 : MoT → Int32 → Int32 → Option (MoT)) (k216 : MoT → Int32 → Int32 → Int32 → Int32 → Option (MoT)) (x1 : Int32) (x2 : Int32) (x3 : Int32) (x4 : Int32) : Option (MoT) := (if x4 < 0 then f_X12_layWays_b295 s0 k166 k174 x1 x2 else (if x1 = x2 then f_X12_layWays_b295 s0 k166 k174 x1 x2 else (if x3 < (100000 : Int32) then ((f_X12_roadMiles s0 x1 x4).bind fun q14 => (if q14 < (100000 : Int32) then ((f_X12_roadMiles s0 x1 x4).bind fun q15 => (if zb_in (((243 : Int32) + ((10 : Int32) * x4)) + x2) 443 = true then (if (q15 + ((Mo_read s0) (((243 : Int32) + ((10 : Int32) * x4)) + x2).toNatClampNeg)) = x3 then (if zb_in (((343 : Int32) + ((10 : Int32) * x1)) + x2) 443 = true then (zlet (Mo_s_read s0 ((upd (Mo_read s0) (((343 : Int32) + ((10 : Int32) * x1)) + x2).toNatClampNeg x4))) fun y18 => f_X12_layWays_b289 y18 k166 k174 k216 x1 x2 x3 x4) else none) else f_X12_layWays_b289 s0 k166 k174 k216 x1 x2 x3 x4) else none)) else f_X12_layWays_b289 s0 k166 k174 k216 x1 x2 x3 x4)) else f_X12_layWays_b295 s0 k166 k174 x1 x2)))
def f_X12_layWays_L216   (k166 : MoT → Int32 → Option (MoT)) (k174 : MoT → Int32 → Int32 → Option (MoT)) : Nat → MoT → Int32 → Int32 → Int32 → Int32 → Option (MoT)
  | 0 => fun _ _ _ _ _ => none
  | n + 1 => fun s0 x1 x2 x3 x4 => f_X12_layWays_H216 s0 k166 k174 (f_X12_layWays_L216 k166 k174 n) x1 x2 x3 x4
def f_X12_layWays_H174  (s0 : MoT) (k166 : MoT → Int32 → Option (MoT)) (k174 : MoT → Int32 → Int32 → Option (MoT)) (x1 : Int32) (x2 : Int32) : Option (MoT) := (if x2 < (10 : Int32) then (if zb_in (((243 : Int32) + ((10 : Int32) * x1)) + x2) 443 = true then (zlet ((Mo_read s0) (((243 : Int32) + ((10 : Int32) * x1)) + x2).toNatClampNeg) fun y11 => (if zb_in (((343 : Int32) + ((10 : Int32) * x1)) + x2) 443 = true then (zlet (Mo_s_read s0 ((upd (Mo_read s0) (((343 : Int32) + ((10 : Int32) * x1)) + x2).toNatClampNeg (-1 : Int32)))) fun y13 => f_X12_layWays_L216 k166 k174 zFU y13 x1 x2 y11 (9 : Int32)) else none)) else none) else k166 s0 (x1 + (1 : Int32)))
def f_X12_layWays_L174   (k166 : MoT → Int32 → Option (MoT)) : Nat → MoT → Int32 → Int32 → Option (MoT)
  | 0 => fun _ _ _ => none
  | n + 1 => fun s0 x1 x2 => f_X12_layWays_H174 s0 k166 (f_X12_layWays_L174 k166 n) x1 x2
def f_X12_layWays_H166  (s0 : MoT) (k166 : MoT → Int32 → Option (MoT)) (x1 : Int32) : Option (MoT) := (if x1 < (10 : Int32) then f_X12_layWays_L174 k166 zFU s0 x1 (0 : Int32) else some s0)
def f_X12_layWays_L166    : Nat → MoT → Int32 → Option (MoT)
  | 0 => fun _ _ => none
  | n + 1 => fun s0 x1 => f_X12_layWays_H166 s0 (f_X12_layWays_L166  n) x1
def f_X12_layWays_H60  (s0 : MoT) (k60 : MoT → Int32 → Option (MoT)) (x1 : Int32) : Option (MoT) := (if x1 < (10 : Int32) then f_X12_layWays_L68 k60 zFU s0 x1 (0 : Int32) else f_X12_layWays_L166 zFU s0 (0 : Int32))
def f_X12_layWays_L60    : Nat → MoT → Int32 → Option (MoT)
  | 0 => fun _ _ => none
  | n + 1 => fun s0 x1 => f_X12_layWays_H60 s0 (f_X12_layWays_L60  n) x1
def f_X12_layWays_H2  (s0 : MoT) (k2 : MoT → Int32 → Option (MoT)) (x1 : Int32) : Option (MoT) := (if x1 < (10 : Int32) then f_X12_layWays_L10 k2 zFU s0 x1 (0 : Int32) else f_X12_layWays_L60 zFU s0 (0 : Int32))
def f_X12_layWays_L2    : Nat → MoT → Int32 → Option (MoT)
  | 0 => fun _ _ => none
  | n + 1 => fun s0 x1 => f_X12_layWays_H2 s0 (f_X12_layWays_L2  n) x1
def f_X12_layWays  (s0 : MoT)  : Option (MoT) := f_X12_layWays_L2 zFU s0 (0 : Int32)
set_option maxRecDepth 100000 in
set_option maxHeartbeats 4000000 in
theorem t_X12_layWays_b45 (l : Launch) (G : zj_G) (a0 : Nat → Nat) (W0 : List va_W) (r : MoT) (s0 : MoT) (k2 : MoT → Int32 → Option (MoT)) (k10 : MoT → Int32 → Int32 → Option (MoT)) (hk2 : ∀ (s0 : MoT) (x1 : Int32), k2 s0 x1 = some r → zj_J l G M_X12_layWays W0 (zj_ret G M_X12_layWays W0 (none) (fun _ => [w_Mo G a0 r])) 0 0 [w_Mo G a0 s0] [some (.ref (a0 0)), some (.int x1), none, none, none] 2 []) (hk10 : ∀ (s0 : MoT) (x1 : Int32) (x2 : Int32), k10 s0 x1 x2 = some r → zj_J l G M_X12_layWays W0 (zj_ret G M_X12_layWays W0 (none) (fun _ => [w_Mo G a0 r])) 0 0 [w_Mo G a0 s0] [some (.ref (a0 0)), some (.int x1), some (.int x2), none, none] 10 []) (x1 : Int32) (x2 : Int32) (z0 : Int32) (z1 : Int32) (hf : f_X12_layWays_b45 s0 k2 k10 x1 x2 z0 z1 = some r) : zj_J l G M_X12_layWays W0 (zj_ret G M_X12_layWays W0 (none) (fun _ => [w_Mo G a0 r])) 0 0 [w_Mo G a0 s0] [some (.ref (a0 0)), some (.int x1), some (.int x2), none, none] 45 [.int z0, .int z1, .ref (a0 3)] := by
  unfold f_X12_layWays_b45 at hf
  obtain ⟨h1, hf⟩ := zck_of hf
  obtain ⟨y2, e2, hf⟩ := zlet_of hf
  refine zr_run [(.iastore, 0, 3, 0, .null)] [] (WW' := [w_Mo G a0 (Mo_s_read s0 ((upd (Mo_read s0) z1.toNatClampNeg z0)))]) (lv' := [some (.ref (a0 0)), some (.int x1), some (.int x2), none, none]) (pc' := 46) (st' := []) (by decide +kernel) rfl rfl ⟨⟨rfl, rfl, h1⟩, trivial⟩ ?_
  refine zr_eq (WW2 := [w_Mo G a0 y2]) (lv2 := [some (.ref (a0 0)), some (.int x1), some (.int x2), none, none]) (st2 := []) (by rw [e2]) rfl rfl ?_
  refine zr_run [(.iinc 2 1, 0, 0, 0, .int (1 : Int32))] [] (WW' := [w_Mo G a0 y2]) (lv' := [some (.ref (a0 0)), some (.int x1), some (.int (x2 + (1 : Int32))), none, none]) (pc' := 49) (st' := []) (by decide +kernel) rfl rfl ⟨trivial, trivial⟩ ?_
  refine zr_goto (off := -39) (tgt := 10) (by decide +kernel) (by decide) ?_
  exact hk10 y2 x1 (x2 + (1 : Int32)) hf
set_option maxRecDepth 100000 in
set_option maxHeartbeats 4000000 in
theorem t_X12_layWays_H10 (l : Launch) (G : zj_G) (a0 : Nat → Nat) (W0 : List va_W) (r : MoT) (s0 : MoT) (k2 : MoT → Int32 → Option (MoT)) (k10 : MoT → Int32 → Int32 → Option (MoT)) (hk2 : ∀ (s0 : MoT) (x1 : Int32), k2 s0 x1 = some r → zj_J l G M_X12_layWays W0 (zj_ret G M_X12_layWays W0 (none) (fun _ => [w_Mo G a0 r])) 0 0 [w_Mo G a0 s0] [some (.ref (a0 0)), some (.int x1), none, none, none] 2 []) (hk10 : ∀ (s0 : MoT) (x1 : Int32) (x2 : Int32), k10 s0 x1 x2 = some r → zj_J l G M_X12_layWays W0 (zj_ret G M_X12_layWays W0 (none) (fun _ => [w_Mo G a0 r])) 0 0 [w_Mo G a0 s0] [some (.ref (a0 0)), some (.int x1), some (.int x2), none, none] 10 []) (x1 : Int32) (x2 : Int32) (hf : f_X12_layWays_H10 s0 k2 k10 x1 x2 = some r) : zj_J l G M_X12_layWays W0 (zj_ret G M_X12_layWays W0 (none) (fun _ => [w_Mo G a0 r])) 0 0 [w_Mo G a0 s0] [some (.ref (a0 0)), some (.int x1), some (.int x2), none, none] 10 [] := by
  unfold f_X12_layWays_H10 at hf
  refine zr_run [(.iload_n 2, 0, 0, 0, .null), (.bipush 10, 0, 0, 0, .int (10 : Int32))] [] (WW' := [w_Mo G a0 s0]) (lv' := [some (.ref (a0 0)), some (.int x1), some (.int x2), none, none]) (pc' := 13) (st' := [.int (10 : Int32), .int x2]) (by decide +kernel) rfl rfl ⟨trivial, trivial, trivial⟩ ?_
  refine zr_icmp_ge (off := 39) (tgt := 52) (by decide +kernel) (by decide) (fun hc => ?_) (fun hc => ?_)
  · have hf := zift hf hc
    refine zr_run [(.aload_n 0, 0, 0, 0, .null), (.getfield 16, 0, 0, 15, .null), (.sipush 243, 0, 0, 0, .int (243 : Int32)), (.bipush 10, 0, 0, 0, .int (10 : Int32)), (.iload_n 1, 0, 0, 0, .null), (.imul, 0, 0, 0, .null), (.iadd, 0, 0, 0, .null), (.iload_n 2, 0, 0, 0, .null), (.iadd, 0, 0, 0, .null), (.iload_n 1, 0, 0, 0, .null), (.iload_n 2, 0, 0, 0, .null)] [] (WW' := [w_Mo G a0 s0]) (lv' := [some (.ref (a0 0)), some (.int x1), some (.int x2), none, none]) (pc' := 32) (st' := [.int x2, .int x1, .int (((243 : Int32) + ((10 : Int32) * x1)) + x2), .ref (a0 3)]) (by decide +kernel) rfl rfl ⟨trivial, ⟨rfl, rfl, zw_6_44⟩, trivial, trivial, trivial, trivial, trivial, trivial, trivial, trivial, trivial, trivial⟩ ?_
    refine zr_icmp_ne (off := 7) (tgt := 39) (by decide +kernel) (by decide) (fun hc => ?_) (fun hc => ?_)
    · have hf := zift hf hc
      refine zr_run [(.iconst 0, 0, 0, 0, .int (0 : Int32))] [] (WW' := [w_Mo G a0 s0]) (lv' := [some (.ref (a0 0)), some (.int x1), some (.int x2), none, none]) (pc' := 36) (st' := [.int (0 : Int32), .int (((243 : Int32) + ((10 : Int32) * x1)) + x2), .ref (a0 3)]) (by decide +kernel) rfl rfl ⟨trivial, trivial⟩ ?_
      refine zr_goto (off := 9) (tgt := 45) (by decide +kernel) (by decide) ?_
      exact t_X12_layWays_b45 l G a0 W0 r s0 k2 k10 hk2 hk10 x1 x2 (0 : Int32) (((243 : Int32) + ((10 : Int32) * x1)) + x2) hf
    · have hf := ziff hf hc
      obtain ⟨q3, e3, hf⟩ := zbi_of hf
      refine zr_run [(.aload_n 0, 0, 0, 0, .null), (.iload_n 1, 0, 0, 0, .null), (.iload_n 2, 0, 0, 0, .null)] [] (WW' := [w_Mo G a0 s0]) (lv' := [some (.ref (a0 0)), some (.int x1), some (.int x2), none, none]) (pc' := 42) (st' := [.int x2, .int x1, .ref (a0 0), .int (((243 : Int32) + ((10 : Int32) * x1)) + x2), .ref (a0 3)]) (by decide +kernel) rfl rfl ⟨trivial, trivial, trivial, trivial⟩ ?_
      refine zr_callV (c_X12_roadMiles l G a0 s0 x1 x2 q3 e3) (WW' := fun _ => [w_Mo G a0 s0]) (st := [.int (((243 : Int32) + ((10 : Int32) * x1)) + x2), .ref (a0 3)]) (st' := [.int q3, .int (((243 : Int32) + ((10 : Int32) * x1)) + x2), .ref (a0 3)]) [0] rfl rfl (fun _ => Nat.le_of_ble_eq_true rfl) (fun _ => rfl) rfl rfl nm_X12_roadMiles zw_7_76 zw_7_78 zw_0_68 zw_1_18 zw_7_79 rfl rfl rfl (Nat.le_of_ble_eq_true rfl) ⟨Nat.le_of_ble_eq_true rfl, Nat.le_of_ble_eq_true rfl⟩ (by decide +kernel) (fun _ => ?_)
      exact t_X12_layWays_b45 l G a0 W0 r s0 k2 k10 hk2 hk10 x1 x2 q3 (((243 : Int32) + ((10 : Int32) * x1)) + x2) hf
  · have hf := ziff hf hc
    refine zr_run [(.iinc 1 1, 0, 0, 0, .int (1 : Int32))] [] (WW' := [w_Mo G a0 s0]) (lv' := [some (.ref (a0 0)), some (.int (x1 + (1 : Int32))), some (.int x2), none, none]) (pc' := 55) (st' := []) (by decide +kernel) rfl rfl ⟨trivial, trivial⟩ ?_
    refine zr_run [] [2] (WW' := [w_Mo G a0 s0]) (lv' := [some (.ref (a0 0)), some (.int (x1 + (1 : Int32))), none, none, none]) (pc' := 55) (st' := []) (by decide +kernel) rfl rfl trivial ?_
    refine zr_goto (off := -53) (tgt := 2) (by decide +kernel) (by decide) ?_
    exact hk2 s0 (x1 + (1 : Int32)) hf
theorem t_X12_layWays_L10 (l : Launch) (G : zj_G) (a0 : Nat → Nat) (W0 : List va_W) (r : MoT)  (k2 : MoT → Int32 → Option (MoT)) (hk2 : ∀ (s0 : MoT) (x1 : Int32), k2 s0 x1 = some r → zj_J l G M_X12_layWays W0 (zj_ret G M_X12_layWays W0 (none) (fun _ => [w_Mo G a0 r])) 0 0 [w_Mo G a0 s0] [some (.ref (a0 0)), some (.int x1), none, none, none] 2 []) : ∀ (n : Nat) (s0 : MoT) (x1 : Int32) (x2 : Int32), f_X12_layWays_L10 k2 n s0 x1 x2 = some r → zj_J l G M_X12_layWays W0 (zj_ret G M_X12_layWays W0 (none) (fun _ => [w_Mo G a0 r])) 0 0 [w_Mo G a0 s0] [some (.ref (a0 0)), some (.int x1), some (.int x2), none, none] 10 [] := by
  intro n
  induction n with
  | zero => intro s0 x1 x2 hf; exact nomatch (show none = some r from hf)
  | succ n ih => intro s0 x1 x2 hf; exact t_X12_layWays_H10 l G a0 W0 r s0 k2 (f_X12_layWays_L10 k2 n) hk2 ih x1 x2  hf
set_option maxRecDepth 100000 in
set_option maxHeartbeats 4000000 in
theorem t_X12_layWays_H76 (l : Launch) (G : zj_G) (a0 : Nat → Nat) (W0 : List va_W) (r : MoT) (s0 : MoT) (k60 : MoT → Int32 → Option (MoT)) (k68 : MoT → Int32 → Int32 → Option (MoT)) (k76 : MoT → Int32 → Int32 → Int32 → Option (MoT)) (hk60 : ∀ (s0 : MoT) (x1 : Int32), k60 s0 x1 = some r → zj_J l G M_X12_layWays W0 (zj_ret G M_X12_layWays W0 (none) (fun _ => [w_Mo G a0 r])) 0 0 [w_Mo G a0 s0] [some (.ref (a0 0)), some (.int x1), none, none, none] 60 []) (hk68 : ∀ (s0 : MoT) (x1 : Int32) (x2 : Int32), k68 s0 x1 x2 = some r → zj_J l G M_X12_layWays W0 (zj_ret G M_X12_layWays W0 (none) (fun _ => [w_Mo G a0 r])) 0 0 [w_Mo G a0 s0] [some (.ref (a0 0)), some (.int x1), some (.int x2), none, none] 68 []) (hk76 : ∀ (s0 : MoT) (x1 : Int32) (x2 : Int32) (x3 : Int32), k76 s0 x1 x2 x3 = some r → zj_J l G M_X12_layWays W0 (zj_ret G M_X12_layWays W0 (none) (fun _ => [w_Mo G a0 r])) 0 0 [w_Mo G a0 s0] [some (.ref (a0 0)), some (.int x1), some (.int x2), some (.int x3), none] 76 []) (x1 : Int32) (x2 : Int32) (x3 : Int32) (hf : f_X12_layWays_H76 s0 k60 k68 k76 x1 x2 x3 = some r) : zj_J l G M_X12_layWays W0 (zj_ret G M_X12_layWays W0 (none) (fun _ => [w_Mo G a0 r])) 0 0 [w_Mo G a0 s0] [some (.ref (a0 0)), some (.int x1), some (.int x2), some (.int x3), none] 76 [] := by
  unfold f_X12_layWays_H76 at hf
  refine zr_run [(.iload_n 3, 0, 0, 0, .null), (.bipush 10, 0, 0, 0, .int (10 : Int32))] [] (WW' := [w_Mo G a0 s0]) (lv' := [some (.ref (a0 0)), some (.int x1), some (.int x2), some (.int x3), none]) (pc' := 79) (st' := [.int (10 : Int32), .int x3]) (by decide +kernel) rfl rfl ⟨trivial, trivial, trivial⟩ ?_
  refine zr_icmp_ge (off := 73) (tgt := 152) (by decide +kernel) (by decide) (fun hc => ?_) (fun hc => ?_)
  · have hf := zift hf hc
    obtain ⟨h4, hf⟩ := zck_of hf
    obtain ⟨h5, hf⟩ := zck_of hf
    obtain ⟨h6, hf⟩ := zck_of hf
    obtain ⟨q7, e7, hf⟩ := zbi_of hf
    refine zr_run [(.aload_n 0, 0, 0, 0, .null), (.getfield 16, 0, 0, 15, .null), (.sipush 243, 0, 0, 0, .int (243 : Int32)), (.bipush 10, 0, 0, 0, .int (10 : Int32)), (.iload_n 2, 0, 0, 0, .null), (.imul, 0, 0, 0, .null), (.iadd, 0, 0, 0, .null), (.iload_n 3, 0, 0, 0, .null), (.iadd, 0, 0, 0, .null), (.aload_n 0, 0, 0, 0, .null), (.getfield 16, 0, 0, 15, .null), (.sipush 243, 0, 0, 0, .int (243 : Int32)), (.bipush 10, 0, 0, 0, .int (10 : Int32)), (.iload_n 2, 0, 0, 0, .null), (.imul, 0, 0, 0, .null), (.iadd, 0, 0, 0, .null), (.iload_n 3, 0, 0, 0, .null), (.iadd, 0, 0, 0, .null), (.iaload, 0, 3, 0, .null), (.aload_n 0, 0, 0, 0, .null), (.getfield 16, 0, 0, 15, .null), (.sipush 243, 0, 0, 0, .int (243 : Int32)), (.bipush 10, 0, 0, 0, .int (10 : Int32)), (.iload_n 2, 0, 0, 0, .null), (.imul, 0, 0, 0, .null), (.iadd, 0, 0, 0, .null), (.iload_n 1, 0, 0, 0, .null), (.iadd, 0, 0, 0, .null), (.iaload, 0, 3, 0, .null), (.aload_n 0, 0, 0, 0, .null), (.getfield 16, 0, 0, 15, .null), (.sipush 243, 0, 0, 0, .int (243 : Int32)), (.bipush 10, 0, 0, 0, .int (10 : Int32)), (.iload_n 1, 0, 0, 0, .null), (.imul, 0, 0, 0, .null), (.iadd, 0, 0, 0, .null), (.iload_n 3, 0, 0, 0, .null), (.iadd, 0, 0, 0, .null), (.iaload, 0, 3, 0, .null), (.iadd, 0, 0, 0, .null)] [] (WW' := [w_Mo G a0 s0]) (lv' := [some (.ref (a0 0)), some (.int x1), some (.int x2), some (.int x3), none]) (pc' := 142) (st' := [.int (((Mo_read s0) (((243 : Int32) + ((10 : Int32) * x2)) + x1).toNatClampNeg) + ((Mo_read s0) (((243 : Int32) + ((10 : Int32) * x1)) + x3).toNatClampNeg)), .int ((Mo_read s0) (((243 : Int32) + ((10 : Int32) * x2)) + x3).toNatClampNeg), .int (((243 : Int32) + ((10 : Int32) * x2)) + x3), .ref (a0 3)]) (by decide +kernel) rfl rfl ⟨trivial, ⟨rfl, rfl, zw_6_44⟩, trivial, trivial, trivial, trivial, trivial, trivial, trivial, trivial, ⟨rfl, rfl, zw_6_44⟩, trivial, trivial, trivial, trivial, trivial, trivial, trivial, ⟨rfl, rfl, h4⟩, trivial, ⟨rfl, rfl, zw_6_44⟩, trivial, trivial, trivial, trivial, trivial, trivial, trivial, ⟨rfl, rfl, h5⟩, trivial, ⟨rfl, rfl, zw_6_44⟩, trivial, trivial, trivial, trivial, trivial, trivial, trivial, ⟨rfl, rfl, h6⟩, trivial, trivial⟩ ?_
    refine zr_callS (c_X12_least l G ((Mo_read s0) (((243 : Int32) + ((10 : Int32) * x2)) + x3).toNatClampNeg) (((Mo_read s0) (((243 : Int32) + ((10 : Int32) * x2)) + x1).toNatClampNeg) + ((Mo_read s0) (((243 : Int32) + ((10 : Int32) * x1)) + x3).toNatClampNeg)) q7 e7) (WW' := fun _ => [w_Mo G a0 s0]) (st := [.int (((243 : Int32) + ((10 : Int32) * x2)) + x3), .ref (a0 3)]) (st' := [.int q7, .int (((243 : Int32) + ((10 : Int32) * x2)) + x3), .ref (a0 3)]) [] rfl rfl (fun _ => Nat.le_of_ble_eq_true rfl) (fun _ => rfl) rfl rfl nm_X12_least zw_7_81 zw_7_82 zw_1_18 zw_7_83 rfl (Nat.le_of_ble_eq_true rfl) ⟨Nat.le_of_ble_eq_true rfl, Nat.le_of_ble_eq_true rfl⟩ (by decide +kernel) (fun _ => ?_)
    obtain ⟨h8, hf⟩ := zck_of hf
    obtain ⟨y9, e9, hf⟩ := zlet_of hf
    refine zr_run [(.iastore, 0, 3, 0, .null)] [] (WW' := [w_Mo G a0 (Mo_s_read s0 ((upd (Mo_read s0) (((243 : Int32) + ((10 : Int32) * x2)) + x3).toNatClampNeg q7)))]) (lv' := [some (.ref (a0 0)), some (.int x1), some (.int x2), some (.int x3), none]) (pc' := 146) (st' := []) (by decide +kernel) rfl rfl ⟨⟨rfl, rfl, h8⟩, trivial⟩ ?_
    refine zr_eq (WW2 := [w_Mo G a0 y9]) (lv2 := [some (.ref (a0 0)), some (.int x1), some (.int x2), some (.int x3), none]) (st2 := []) (by rw [e9]) rfl rfl ?_
    refine zr_run [(.iinc 3 1, 0, 0, 0, .int (1 : Int32))] [] (WW' := [w_Mo G a0 y9]) (lv' := [some (.ref (a0 0)), some (.int x1), some (.int x2), some (.int (x3 + (1 : Int32))), none]) (pc' := 149) (st' := []) (by decide +kernel) rfl rfl ⟨trivial, trivial⟩ ?_
    refine zr_goto (off := -73) (tgt := 76) (by decide +kernel) (by decide) ?_
    exact hk76 y9 x1 x2 (x3 + (1 : Int32)) hf
  · have hf := ziff hf hc
    refine zr_run [(.iinc 2 1, 0, 0, 0, .int (1 : Int32))] [] (WW' := [w_Mo G a0 s0]) (lv' := [some (.ref (a0 0)), some (.int x1), some (.int (x2 + (1 : Int32))), some (.int x3), none]) (pc' := 155) (st' := []) (by decide +kernel) rfl rfl ⟨trivial, trivial⟩ ?_
    refine zr_run [] [3] (WW' := [w_Mo G a0 s0]) (lv' := [some (.ref (a0 0)), some (.int x1), some (.int (x2 + (1 : Int32))), none, none]) (pc' := 155) (st' := []) (by decide +kernel) rfl rfl trivial ?_
    refine zr_goto (off := -87) (tgt := 68) (by decide +kernel) (by decide) ?_
    exact hk68 s0 x1 (x2 + (1 : Int32)) hf
theorem t_X12_layWays_L76 (l : Launch) (G : zj_G) (a0 : Nat → Nat) (W0 : List va_W) (r : MoT)  (k60 : MoT → Int32 → Option (MoT)) (k68 : MoT → Int32 → Int32 → Option (MoT)) (hk60 : ∀ (s0 : MoT) (x1 : Int32), k60 s0 x1 = some r → zj_J l G M_X12_layWays W0 (zj_ret G M_X12_layWays W0 (none) (fun _ => [w_Mo G a0 r])) 0 0 [w_Mo G a0 s0] [some (.ref (a0 0)), some (.int x1), none, none, none] 60 []) (hk68 : ∀ (s0 : MoT) (x1 : Int32) (x2 : Int32), k68 s0 x1 x2 = some r → zj_J l G M_X12_layWays W0 (zj_ret G M_X12_layWays W0 (none) (fun _ => [w_Mo G a0 r])) 0 0 [w_Mo G a0 s0] [some (.ref (a0 0)), some (.int x1), some (.int x2), none, none] 68 []) : ∀ (n : Nat) (s0 : MoT) (x1 : Int32) (x2 : Int32) (x3 : Int32), f_X12_layWays_L76 k60 k68 n s0 x1 x2 x3 = some r → zj_J l G M_X12_layWays W0 (zj_ret G M_X12_layWays W0 (none) (fun _ => [w_Mo G a0 r])) 0 0 [w_Mo G a0 s0] [some (.ref (a0 0)), some (.int x1), some (.int x2), some (.int x3), none] 76 [] := by
  intro n
  induction n with
  | zero => intro s0 x1 x2 x3 hf; exact nomatch (show none = some r from hf)
  | succ n ih => intro s0 x1 x2 x3 hf; exact t_X12_layWays_H76 l G a0 W0 r s0 k60 k68 (f_X12_layWays_L76 k60 k68 n) hk60 hk68 ih x1 x2 x3  hf
set_option maxRecDepth 100000 in
set_option maxHeartbeats 4000000 in
theorem t_X12_layWays_H68 (l : Launch) (G : zj_G) (a0 : Nat → Nat) (W0 : List va_W) (r : MoT) (s0 : MoT) (k60 : MoT → Int32 → Option (MoT)) (k68 : MoT → Int32 → Int32 → Option (MoT)) (hk60 : ∀ (s0 : MoT) (x1 : Int32), k60 s0 x1 = some r → zj_J l G M_X12_layWays W0 (zj_ret G M_X12_layWays W0 (none) (fun _ => [w_Mo G a0 r])) 0 0 [w_Mo G a0 s0] [some (.ref (a0 0)), some (.int x1), none, none, none] 60 []) (hk68 : ∀ (s0 : MoT) (x1 : Int32) (x2 : Int32), k68 s0 x1 x2 = some r → zj_J l G M_X12_layWays W0 (zj_ret G M_X12_layWays W0 (none) (fun _ => [w_Mo G a0 r])) 0 0 [w_Mo G a0 s0] [some (.ref (a0 0)), some (.int x1), some (.int x2), none, none] 68 []) (x1 : Int32) (x2 : Int32) (hf : f_X12_layWays_H68 s0 k60 k68 x1 x2 = some r) : zj_J l G M_X12_layWays W0 (zj_ret G M_X12_layWays W0 (none) (fun _ => [w_Mo G a0 r])) 0 0 [w_Mo G a0 s0] [some (.ref (a0 0)), some (.int x1), some (.int x2), none, none] 68 [] := by
  unfold f_X12_layWays_H68 at hf
  refine zr_run [(.iload_n 2, 0, 0, 0, .null), (.bipush 10, 0, 0, 0, .int (10 : Int32))] [] (WW' := [w_Mo G a0 s0]) (lv' := [some (.ref (a0 0)), some (.int x1), some (.int x2), none, none]) (pc' := 71) (st' := [.int (10 : Int32), .int x2]) (by decide +kernel) rfl rfl ⟨trivial, trivial, trivial⟩ ?_
  refine zr_icmp_ge (off := 87) (tgt := 158) (by decide +kernel) (by decide) (fun hc => ?_) (fun hc => ?_)
  · have hf := zift hf hc
    refine zr_run [(.iconst 0, 0, 0, 0, .int (0 : Int32)), (.istore_n 3, 0, 0, 0, .null)] [] (WW' := [w_Mo G a0 s0]) (lv' := [some (.ref (a0 0)), some (.int x1), some (.int x2), some (.int (0 : Int32)), none]) (pc' := 76) (st' := []) (by decide +kernel) rfl rfl ⟨trivial, trivial, trivial⟩ ?_
    exact t_X12_layWays_L76 l G a0 W0 r k60 k68 hk60 hk68 zFU s0 x1 x2 (0 : Int32) hf
  · have hf := ziff hf hc
    refine zr_run [(.iinc 1 1, 0, 0, 0, .int (1 : Int32))] [] (WW' := [w_Mo G a0 s0]) (lv' := [some (.ref (a0 0)), some (.int (x1 + (1 : Int32))), some (.int x2), none, none]) (pc' := 161) (st' := []) (by decide +kernel) rfl rfl ⟨trivial, trivial⟩ ?_
    refine zr_run [] [2] (WW' := [w_Mo G a0 s0]) (lv' := [some (.ref (a0 0)), some (.int (x1 + (1 : Int32))), none, none, none]) (pc' := 161) (st' := []) (by decide +kernel) rfl rfl trivial ?_
    refine zr_goto (off := -101) (tgt := 60) (by decide +kernel) (by decide) ?_
    exact hk60 s0 (x1 + (1 : Int32)) hf
theorem t_X12_layWays_L68 (l : Launch) (G : zj_G) (a0 : Nat → Nat) (W0 : List va_W) (r : MoT)  (k60 : MoT → Int32 → Option (MoT)) (hk60 : ∀ (s0 : MoT) (x1 : Int32), k60 s0 x1 = some r → zj_J l G M_X12_layWays W0 (zj_ret G M_X12_layWays W0 (none) (fun _ => [w_Mo G a0 r])) 0 0 [w_Mo G a0 s0] [some (.ref (a0 0)), some (.int x1), none, none, none] 60 []) : ∀ (n : Nat) (s0 : MoT) (x1 : Int32) (x2 : Int32), f_X12_layWays_L68 k60 n s0 x1 x2 = some r → zj_J l G M_X12_layWays W0 (zj_ret G M_X12_layWays W0 (none) (fun _ => [w_Mo G a0 r])) 0 0 [w_Mo G a0 s0] [some (.ref (a0 0)), some (.int x1), some (.int x2), none, none] 68 [] := by
  intro n
  induction n with
  | zero => intro s0 x1 x2 hf; exact nomatch (show none = some r from hf)
  | succ n ih => intro s0 x1 x2 hf; exact t_X12_layWays_H68 l G a0 W0 r s0 k60 (f_X12_layWays_L68 k60 n) hk60 ih x1 x2  hf
set_option maxRecDepth 100000 in
set_option maxHeartbeats 4000000 in
theorem t_X12_layWays_b295 (l : Launch) (G : zj_G) (a0 : Nat → Nat) (W0 : List va_W) (r : MoT) (s0 : MoT) (k166 : MoT → Int32 → Option (MoT)) (k174 : MoT → Int32 → Int32 → Option (MoT)) (hk166 : ∀ (s0 : MoT) (x1 : Int32), k166 s0 x1 = some r → zj_J l G M_X12_layWays W0 (zj_ret G M_X12_layWays W0 (none) (fun _ => [w_Mo G a0 r])) 0 0 [w_Mo G a0 s0] [some (.ref (a0 0)), some (.int x1), none, none, none] 166 []) (hk174 : ∀ (s0 : MoT) (x1 : Int32) (x2 : Int32), k174 s0 x1 x2 = some r → zj_J l G M_X12_layWays W0 (zj_ret G M_X12_layWays W0 (none) (fun _ => [w_Mo G a0 r])) 0 0 [w_Mo G a0 s0] [some (.ref (a0 0)), some (.int x1), some (.int x2), none, none] 174 []) (x1 : Int32) (x2 : Int32) (hf : f_X12_layWays_b295 s0 k166 k174 x1 x2 = some r) : zj_J l G M_X12_layWays W0 (zj_ret G M_X12_layWays W0 (none) (fun _ => [w_Mo G a0 r])) 0 0 [w_Mo G a0 s0] [some (.ref (a0 0)), some (.int x1), some (.int x2), none, none] 295 [] := by
  unfold f_X12_layWays_b295 at hf
  refine zr_run [(.iinc 2 1, 0, 0, 0, .int (1 : Int32))] [] (WW' := [w_Mo G a0 s0]) (lv' := [some (.ref (a0 0)), some (.int x1), some (.int (x2 + (1 : Int32))), none, none]) (pc' := 298) (st' := []) (by decide +kernel) rfl rfl ⟨trivial, trivial⟩ ?_
  refine zr_goto (off := -124) (tgt := 174) (by decide +kernel) (by decide) ?_
  exact hk174 s0 x1 (x2 + (1 : Int32)) hf
set_option maxRecDepth 100000 in
set_option maxHeartbeats 4000000 in
theorem t_X12_layWays_b289 (l : Launch) (G : zj_G) (a0 : Nat → Nat) (W0 : List va_W) (r : MoT) (s0 : MoT) (k166 : MoT → Int32 → Option (MoT)) (k174 : MoT → Int32 → Int32 → Option (MoT)) (k216 : MoT → Int32 → Int32 → Int32 → Int32 → Option (MoT)) (hk166 : ∀ (s0 : MoT) (x1 : Int32), k166 s0 x1 = some r → zj_J l G M_X12_layWays W0 (zj_ret G M_X12_layWays W0 (none) (fun _ => [w_Mo G a0 r])) 0 0 [w_Mo G a0 s0] [some (.ref (a0 0)), some (.int x1), none, none, none] 166 []) (hk174 : ∀ (s0 : MoT) (x1 : Int32) (x2 : Int32), k174 s0 x1 x2 = some r → zj_J l G M_X12_layWays W0 (zj_ret G M_X12_layWays W0 (none) (fun _ => [w_Mo G a0 r])) 0 0 [w_Mo G a0 s0] [some (.ref (a0 0)), some (.int x1), some (.int x2), none, none] 174 []) (hk216 : ∀ (s0 : MoT) (x1 : Int32) (x2 : Int32) (x3 : Int32) (x4 : Int32), k216 s0 x1 x2 x3 x4 = some r → zj_J l G M_X12_layWays W0 (zj_ret G M_X12_layWays W0 (none) (fun _ => [w_Mo G a0 r])) 0 0 [w_Mo G a0 s0] [some (.ref (a0 0)), some (.int x1), some (.int x2), some (.int x3), some (.int x4)] 216 []) (x1 : Int32) (x2 : Int32) (x3 : Int32) (x4 : Int32) (hf : f_X12_layWays_b289 s0 k166 k174 k216 x1 x2 x3 x4 = some r) : zj_J l G M_X12_layWays W0 (zj_ret G M_X12_layWays W0 (none) (fun _ => [w_Mo G a0 r])) 0 0 [w_Mo G a0 s0] [some (.ref (a0 0)), some (.int x1), some (.int x2), some (.int x3), some (.int x4)] 289 [] := by
  unfold f_X12_layWays_b289 at hf
  refine zr_run [(.iinc 4 (-1), 0, 0, 0, .int (-1 : Int32))] [] (WW' := [w_Mo G a0 s0]) (lv' := [some (.ref (a0 0)), some (.int x1), some (.int x2), some (.int x3), some (.int (x4 + (-1 : Int32)))]) (pc' := 292) (st' := []) (by decide +kernel) rfl rfl ⟨trivial, trivial⟩ ?_
  refine zr_goto (off := -76) (tgt := 216) (by decide +kernel) (by decide) ?_
  exact hk216 s0 x1 x2 x3 (x4 + (-1 : Int32)) hf
set_option maxRecDepth 100000 in
set_option maxHeartbeats 4000000 in
theorem t_X12_layWays_H216 (l : Launch) (G : zj_G) (a0 : Nat → Nat) (W0 : List va_W) (r : MoT) (s0 : MoT) (k166 : MoT → Int32 → Option (MoT)) (k174 : MoT → Int32 → Int32 → Option (MoT)) (k216 : MoT → Int32 → Int32 → Int32 → Int32 → Option (MoT)) (hk166 : ∀ (s0 : MoT) (x1 : Int32), k166 s0 x1 = some r → zj_J l G M_X12_layWays W0 (zj_ret G M_X12_layWays W0 (none) (fun _ => [w_Mo G a0 r])) 0 0 [w_Mo G a0 s0] [some (.ref (a0 0)), some (.int x1), none, none, none] 166 []) (hk174 : ∀ (s0 : MoT) (x1 : Int32) (x2 : Int32), k174 s0 x1 x2 = some r → zj_J l G M_X12_layWays W0 (zj_ret G M_X12_layWays W0 (none) (fun _ => [w_Mo G a0 r])) 0 0 [w_Mo G a0 s0] [some (.ref (a0 0)), some (.int x1), some (.int x2), none, none] 174 []) (hk216 : ∀ (s0 : MoT) (x1 : Int32) (x2 : Int32) (x3 : Int32) (x4 : Int32), k216 s0 x1 x2 x3 x4 = some r → zj_J l G M_X12_layWays W0 (zj_ret G M_X12_layWays W0 (none) (fun _ => [w_Mo G a0 r])) 0 0 [w_Mo G a0 s0] [some (.ref (a0 0)), some (.int x1), some (.int x2), some (.int x3), some (.int x4)] 216 []) (x1 : Int32) (x2 : Int32) (x3 : Int32) (x4 : Int32) (hf : f_X12_layWays_H216 s0 k166 k174 k216 x1 x2 x3 x4 = some r) : zj_J l G M_X12_layWays W0 (zj_ret G M_X12_layWays W0 (none) (fun _ => [w_Mo G a0 r])) 0 0 [w_Mo G a0 s0] [some (.ref (a0 0)), some (.int x1), some (.int x2), some (.int x3), some (.int x4)] 216 [] := by
  unfold f_X12_layWays_H216 at hf
  refine zr_run [(.iload 4, 0, 0, 0, .null)] [] (WW' := [w_Mo G a0 s0]) (lv' := [some (.ref (a0 0)), some (.int x1), some (.int x2), some (.int x3), some (.int x4)]) (pc' := 218) (st' := [.int x4]) (by decide +kernel) rfl rfl ⟨trivial, trivial⟩ ?_
  refine zr_if_lt (off := 77) (tgt := 295) (by decide +kernel) (by decide) (fun hc => ?_) (fun hc => ?_)
  · have hf := zift hf hc
    refine zr_run [] [3, 4] (WW' := [w_Mo G a0 s0]) (lv' := [some (.ref (a0 0)), some (.int x1), some (.int x2), none, none]) (pc' := 295) (st' := []) (by decide +kernel) rfl rfl trivial ?_
    exact t_X12_layWays_b295 l G a0 W0 r s0 k166 k174 hk166 hk174 x1 x2 hf
  · have hf := ziff hf hc
    refine zr_run [(.iload_n 1, 0, 0, 0, .null), (.iload_n 2, 0, 0, 0, .null)] [] (WW' := [w_Mo G a0 s0]) (lv' := [some (.ref (a0 0)), some (.int x1), some (.int x2), some (.int x3), some (.int x4)]) (pc' := 223) (st' := [.int x2, .int x1]) (by decide +kernel) rfl rfl ⟨trivial, trivial, trivial⟩ ?_
    refine zr_icmp_eq (off := 72) (tgt := 295) (by decide +kernel) (by decide) (fun hc => ?_) (fun hc => ?_)
    · have hf := zift hf hc
      refine zr_run [] [3, 4] (WW' := [w_Mo G a0 s0]) (lv' := [some (.ref (a0 0)), some (.int x1), some (.int x2), none, none]) (pc' := 295) (st' := []) (by decide +kernel) rfl rfl trivial ?_
      exact t_X12_layWays_b295 l G a0 W0 r s0 k166 k174 hk166 hk174 x1 x2 hf
    · have hf := ziff hf hc
      refine zr_run [(.iload_n 3, 0, 0, 0, .null), (.ldc 218, 0, 0, 0, .int (100000 : Int32))] [] (WW' := [w_Mo G a0 s0]) (lv' := [some (.ref (a0 0)), some (.int x1), some (.int x2), some (.int x3), some (.int x4)]) (pc' := 229) (st' := [.int (100000 : Int32), .int x3]) (by decide +kernel) rfl rfl ⟨trivial, zw_7_80, trivial⟩ ?_
      refine zr_icmp_ge (off := 66) (tgt := 295) (by decide +kernel) (by decide) (fun hc => ?_) (fun hc => ?_)
      · have hf := zift hf hc
        obtain ⟨q14, e14, hf⟩ := zbi_of hf
        refine zr_run [(.aload_n 0, 0, 0, 0, .null), (.iload_n 1, 0, 0, 0, .null), (.iload 4, 0, 0, 0, .null)] [] (WW' := [w_Mo G a0 s0]) (lv' := [some (.ref (a0 0)), some (.int x1), some (.int x2), some (.int x3), some (.int x4)]) (pc' := 236) (st' := [.int x4, .int x1, .ref (a0 0)]) (by decide +kernel) rfl rfl ⟨trivial, trivial, trivial, trivial⟩ ?_
        refine zr_callV (c_X12_roadMiles l G a0 s0 x1 x4 q14 e14) (WW' := fun _ => [w_Mo G a0 s0]) (st := []) (st' := [.int q14]) [0] rfl rfl (fun _ => Nat.le_of_ble_eq_true rfl) (fun _ => rfl) rfl rfl nm_X12_roadMiles zw_7_76 zw_7_78 zw_0_68 zw_1_18 zw_7_79 rfl rfl rfl (Nat.le_of_ble_eq_true rfl) ⟨Nat.le_of_ble_eq_true rfl, Nat.le_of_ble_eq_true rfl⟩ (by decide +kernel) (fun _ => ?_)
        refine zr_run [(.ldc 218, 0, 0, 0, .int (100000 : Int32))] [] (WW' := [w_Mo G a0 s0]) (lv' := [some (.ref (a0 0)), some (.int x1), some (.int x2), some (.int x3), some (.int x4)]) (pc' := 241) (st' := [.int (100000 : Int32), .int q14]) (by decide +kernel) rfl rfl ⟨zw_7_80, trivial⟩ ?_
        refine zr_icmp_ge (off := 48) (tgt := 289) (by decide +kernel) (by decide) (fun hc => ?_) (fun hc => ?_)
        · have hf := zift hf hc
          obtain ⟨q15, e15, hf⟩ := zbi_of hf
          refine zr_run [(.aload_n 0, 0, 0, 0, .null), (.iload_n 1, 0, 0, 0, .null), (.iload 4, 0, 0, 0, .null)] [] (WW' := [w_Mo G a0 s0]) (lv' := [some (.ref (a0 0)), some (.int x1), some (.int x2), some (.int x3), some (.int x4)]) (pc' := 248) (st' := [.int x4, .int x1, .ref (a0 0)]) (by decide +kernel) rfl rfl ⟨trivial, trivial, trivial, trivial⟩ ?_
          refine zr_callV (c_X12_roadMiles l G a0 s0 x1 x4 q15 e15) (WW' := fun _ => [w_Mo G a0 s0]) (st := []) (st' := [.int q15]) [0] rfl rfl (fun _ => Nat.le_of_ble_eq_true rfl) (fun _ => rfl) rfl rfl nm_X12_roadMiles zw_7_76 zw_7_78 zw_0_68 zw_1_18 zw_7_79 rfl rfl rfl (Nat.le_of_ble_eq_true rfl) ⟨Nat.le_of_ble_eq_true rfl, Nat.le_of_ble_eq_true rfl⟩ (by decide +kernel) (fun _ => ?_)
          obtain ⟨h16, hf⟩ := zck_of hf
          refine zr_run [(.aload_n 0, 0, 0, 0, .null), (.getfield 16, 0, 0, 15, .null), (.sipush 243, 0, 0, 0, .int (243 : Int32)), (.bipush 10, 0, 0, 0, .int (10 : Int32)), (.iload 4, 0, 0, 0, .null), (.imul, 0, 0, 0, .null), (.iadd, 0, 0, 0, .null), (.iload_n 2, 0, 0, 0, .null), (.iadd, 0, 0, 0, .null), (.iaload, 0, 3, 0, .null), (.iadd, 0, 0, 0, .null), (.iload_n 3, 0, 0, 0, .null)] [] (WW' := [w_Mo G a0 s0]) (lv' := [some (.ref (a0 0)), some (.int x1), some (.int x2), some (.int x3), some (.int x4)]) (pc' := 269) (st' := [.int x3, .int (q15 + ((Mo_read s0) (((243 : Int32) + ((10 : Int32) * x4)) + x2).toNatClampNeg))]) (by decide +kernel) rfl rfl ⟨trivial, ⟨rfl, rfl, zw_6_44⟩, trivial, trivial, trivial, trivial, trivial, trivial, trivial, ⟨rfl, rfl, h16⟩, trivial, trivial, trivial⟩ ?_
          refine zr_icmp_ne (off := 20) (tgt := 289) (by decide +kernel) (by decide) (fun hc => ?_) (fun hc => ?_)
          · have hf := zift hf hc
            obtain ⟨h17, hf⟩ := zck_of hf
            obtain ⟨y18, e18, hf⟩ := zlet_of hf
            refine zr_run [(.aload_n 0, 0, 0, 0, .null), (.getfield 16, 0, 0, 15, .null), (.sipush 343, 0, 0, 0, .int (343 : Int32)), (.bipush 10, 0, 0, 0, .int (10 : Int32)), (.iload_n 1, 0, 0, 0, .null), (.imul, 0, 0, 0, .null), (.iadd, 0, 0, 0, .null), (.iload_n 2, 0, 0, 0, .null), (.iadd, 0, 0, 0, .null), (.iload 4, 0, 0, 0, .null), (.iastore, 0, 3, 0, .null)] [] (WW' := [w_Mo G a0 (Mo_s_read s0 ((upd (Mo_read s0) (((343 : Int32) + ((10 : Int32) * x1)) + x2).toNatClampNeg x4)))]) (lv' := [some (.ref (a0 0)), some (.int x1), some (.int x2), some (.int x3), some (.int x4)]) (pc' := 289) (st' := []) (by decide +kernel) rfl rfl ⟨trivial, ⟨rfl, rfl, zw_6_44⟩, trivial, trivial, trivial, trivial, trivial, trivial, trivial, trivial, ⟨rfl, rfl, h17⟩, trivial⟩ ?_
            refine zr_eq (WW2 := [w_Mo G a0 y18]) (lv2 := [some (.ref (a0 0)), some (.int x1), some (.int x2), some (.int x3), some (.int x4)]) (st2 := []) (by rw [e18]) rfl rfl ?_
            exact t_X12_layWays_b289 l G a0 W0 r y18 k166 k174 k216 hk166 hk174 hk216 x1 x2 x3 x4 hf
          · have hf := ziff hf hc
            exact t_X12_layWays_b289 l G a0 W0 r s0 k166 k174 k216 hk166 hk174 hk216 x1 x2 x3 x4 hf
        · have hf := ziff hf hc
          exact t_X12_layWays_b289 l G a0 W0 r s0 k166 k174 k216 hk166 hk174 hk216 x1 x2 x3 x4 hf
      · have hf := ziff hf hc
        refine zr_run [] [3, 4] (WW' := [w_Mo G a0 s0]) (lv' := [some (.ref (a0 0)), some (.int x1), some (.int x2), none, none]) (pc' := 295) (st' := []) (by decide +kernel) rfl rfl trivial ?_
        exact t_X12_layWays_b295 l G a0 W0 r s0 k166 k174 hk166 hk174 x1 x2 hf
theorem t_X12_layWays_L216 (l : Launch) (G : zj_G) (a0 : Nat → Nat) (W0 : List va_W) (r : MoT)  (k166 : MoT → Int32 → Option (MoT)) (k174 : MoT → Int32 → Int32 → Option (MoT)) (hk166 : ∀ (s0 : MoT) (x1 : Int32), k166 s0 x1 = some r → zj_J l G M_X12_layWays W0 (zj_ret G M_X12_layWays W0 (none) (fun _ => [w_Mo G a0 r])) 0 0 [w_Mo G a0 s0] [some (.ref (a0 0)), some (.int x1), none, none, none] 166 []) (hk174 : ∀ (s0 : MoT) (x1 : Int32) (x2 : Int32), k174 s0 x1 x2 = some r → zj_J l G M_X12_layWays W0 (zj_ret G M_X12_layWays W0 (none) (fun _ => [w_Mo G a0 r])) 0 0 [w_Mo G a0 s0] [some (.ref (a0 0)), some (.int x1), some (.int x2), none, none] 174 []) : ∀ (n : Nat) (s0 : MoT) (x1 : Int32) (x2 : Int32) (x3 : Int32) (x4 : Int32), f_X12_layWays_L216 k166 k174 n s0 x1 x2 x3 x4 = some r → zj_J l G M_X12_layWays W0 (zj_ret G M_X12_layWays W0 (none) (fun _ => [w_Mo G a0 r])) 0 0 [w_Mo G a0 s0] [some (.ref (a0 0)), some (.int x1), some (.int x2), some (.int x3), some (.int x4)] 216 [] := by
  intro n
  induction n with
  | zero => intro s0 x1 x2 x3 x4 hf; exact nomatch (show none = some r from hf)
  | succ n ih => intro s0 x1 x2 x3 x4 hf; exact t_X12_layWays_H216 l G a0 W0 r s0 k166 k174 (f_X12_layWays_L216 k166 k174 n) hk166 hk174 ih x1 x2 x3 x4  hf
set_option maxRecDepth 100000 in
set_option maxHeartbeats 4000000 in
theorem t_X12_layWays_H174 (l : Launch) (G : zj_G) (a0 : Nat → Nat) (W0 : List va_W) (r : MoT) (s0 : MoT) (k166 : MoT → Int32 → Option (MoT)) (k174 : MoT → Int32 → Int32 → Option (MoT)) (hk166 : ∀ (s0 : MoT) (x1 : Int32), k166 s0 x1 = some r → zj_J l G M_X12_layWays W0 (zj_ret G M_X12_layWays W0 (none) (fun _ => [w_Mo G a0 r])) 0 0 [w_Mo G a0 s0] [some (.ref (a0 0)), some (.int x1), none, none, none] 166 []) (hk174 : ∀ (s0 : MoT) (x1 : Int32) (x2 : Int32), k174 s0 x1 x2 = some r → zj_J l G M_X12_layWays W0 (zj_ret G M_X12_layWays W0 (none) (fun _ => [w_Mo G a0 r])) 0 0 [w_Mo G a0 s0] [some (.ref (a0 0)), some (.int x1), some (.int x2), none, none] 174 []) (x1 : Int32) (x2 : Int32) (hf : f_X12_layWays_H174 s0 k166 k174 x1 x2 = some r) : zj_J l G M_X12_layWays W0 (zj_ret G M_X12_layWays W0 (none) (fun _ => [w_Mo G a0 r])) 0 0 [w_Mo G a0 s0] [some (.ref (a0 0)), some (.int x1), some (.int x2), none, none] 174 [] := by
  unfold f_X12_layWays_H174 at hf
  refine zr_run [(.iload_n 2, 0, 0, 0, .null), (.bipush 10, 0, 0, 0, .int (10 : Int32))] [] (WW' := [w_Mo G a0 s0]) (lv' := [some (.ref (a0 0)), some (.int x1), some (.int x2), none, none]) (pc' := 177) (st' := [.int (10 : Int32), .int x2]) (by decide +kernel) rfl rfl ⟨trivial, trivial, trivial⟩ ?_
  refine zr_icmp_ge (off := 124) (tgt := 301) (by decide +kernel) (by decide) (fun hc => ?_) (fun hc => ?_)
  · have hf := zift hf hc
    obtain ⟨h10, hf⟩ := zck_of hf
    obtain ⟨y11, e11, hf⟩ := zlet_of hf
    refine zr_run [(.aload_n 0, 0, 0, 0, .null), (.getfield 16, 0, 0, 15, .null), (.sipush 243, 0, 0, 0, .int (243 : Int32)), (.bipush 10, 0, 0, 0, .int (10 : Int32)), (.iload_n 1, 0, 0, 0, .null), (.imul, 0, 0, 0, .null), (.iadd, 0, 0, 0, .null), (.iload_n 2, 0, 0, 0, .null), (.iadd, 0, 0, 0, .null), (.iaload, 0, 3, 0, .null), (.istore_n 3, 0, 0, 0, .null)] [] (WW' := [w_Mo G a0 s0]) (lv' := [some (.ref (a0 0)), some (.int x1), some (.int x2), some (.int ((Mo_read s0) (((243 : Int32) + ((10 : Int32) * x1)) + x2).toNatClampNeg)), none]) (pc' := 196) (st' := []) (by decide +kernel) rfl rfl ⟨trivial, ⟨rfl, rfl, zw_6_44⟩, trivial, trivial, trivial, trivial, trivial, trivial, trivial, ⟨rfl, rfl, h10⟩, trivial, trivial⟩ ?_
    refine zr_eq (WW2 := [w_Mo G a0 s0]) (lv2 := [some (.ref (a0 0)), some (.int x1), some (.int x2), some (.int y11), none]) (st2 := []) rfl (by rw [e11]) rfl ?_
    obtain ⟨h12, hf⟩ := zck_of hf
    obtain ⟨y13, e13, hf⟩ := zlet_of hf
    refine zr_run [(.aload_n 0, 0, 0, 0, .null), (.getfield 16, 0, 0, 15, .null), (.sipush 343, 0, 0, 0, .int (343 : Int32)), (.bipush 10, 0, 0, 0, .int (10 : Int32)), (.iload_n 1, 0, 0, 0, .null), (.imul, 0, 0, 0, .null), (.iadd, 0, 0, 0, .null), (.iload_n 2, 0, 0, 0, .null), (.iadd, 0, 0, 0, .null), (.iconst (-1), 0, 0, 0, .int (-1 : Int32)), (.iastore, 0, 3, 0, .null)] [] (WW' := [w_Mo G a0 (Mo_s_read s0 ((upd (Mo_read s0) (((343 : Int32) + ((10 : Int32) * x1)) + x2).toNatClampNeg (-1 : Int32))))]) (lv' := [some (.ref (a0 0)), some (.int x1), some (.int x2), some (.int y11), none]) (pc' := 212) (st' := []) (by decide +kernel) rfl rfl ⟨trivial, ⟨rfl, rfl, zw_6_44⟩, trivial, trivial, trivial, trivial, trivial, trivial, trivial, trivial, ⟨rfl, rfl, h12⟩, trivial⟩ ?_
    refine zr_eq (WW2 := [w_Mo G a0 y13]) (lv2 := [some (.ref (a0 0)), some (.int x1), some (.int x2), some (.int y11), none]) (st2 := []) (by rw [e13]) rfl rfl ?_
    refine zr_run [(.bipush 9, 0, 0, 0, .int (9 : Int32)), (.istore 4, 0, 0, 0, .null)] [] (WW' := [w_Mo G a0 y13]) (lv' := [some (.ref (a0 0)), some (.int x1), some (.int x2), some (.int y11), some (.int (9 : Int32))]) (pc' := 216) (st' := []) (by decide +kernel) rfl rfl ⟨trivial, trivial, trivial⟩ ?_
    exact t_X12_layWays_L216 l G a0 W0 r k166 k174 hk166 hk174 zFU y13 x1 x2 y11 (9 : Int32) hf
  · have hf := ziff hf hc
    refine zr_run [(.iinc 1 1, 0, 0, 0, .int (1 : Int32))] [] (WW' := [w_Mo G a0 s0]) (lv' := [some (.ref (a0 0)), some (.int (x1 + (1 : Int32))), some (.int x2), none, none]) (pc' := 304) (st' := []) (by decide +kernel) rfl rfl ⟨trivial, trivial⟩ ?_
    refine zr_run [] [2] (WW' := [w_Mo G a0 s0]) (lv' := [some (.ref (a0 0)), some (.int (x1 + (1 : Int32))), none, none, none]) (pc' := 304) (st' := []) (by decide +kernel) rfl rfl trivial ?_
    refine zr_goto (off := -138) (tgt := 166) (by decide +kernel) (by decide) ?_
    exact hk166 s0 (x1 + (1 : Int32)) hf
theorem t_X12_layWays_L174 (l : Launch) (G : zj_G) (a0 : Nat → Nat) (W0 : List va_W) (r : MoT)  (k166 : MoT → Int32 → Option (MoT)) (hk166 : ∀ (s0 : MoT) (x1 : Int32), k166 s0 x1 = some r → zj_J l G M_X12_layWays W0 (zj_ret G M_X12_layWays W0 (none) (fun _ => [w_Mo G a0 r])) 0 0 [w_Mo G a0 s0] [some (.ref (a0 0)), some (.int x1), none, none, none] 166 []) : ∀ (n : Nat) (s0 : MoT) (x1 : Int32) (x2 : Int32), f_X12_layWays_L174 k166 n s0 x1 x2 = some r → zj_J l G M_X12_layWays W0 (zj_ret G M_X12_layWays W0 (none) (fun _ => [w_Mo G a0 r])) 0 0 [w_Mo G a0 s0] [some (.ref (a0 0)), some (.int x1), some (.int x2), none, none] 174 [] := by
  intro n
  induction n with
  | zero => intro s0 x1 x2 hf; exact nomatch (show none = some r from hf)
  | succ n ih => intro s0 x1 x2 hf; exact t_X12_layWays_H174 l G a0 W0 r s0 k166 (f_X12_layWays_L174 k166 n) hk166 ih x1 x2  hf
set_option maxRecDepth 100000 in
set_option maxHeartbeats 4000000 in
theorem t_X12_layWays_H166 (l : Launch) (G : zj_G) (a0 : Nat → Nat) (W0 : List va_W) (r : MoT) (s0 : MoT) (k166 : MoT → Int32 → Option (MoT)) (hk166 : ∀ (s0 : MoT) (x1 : Int32), k166 s0 x1 = some r → zj_J l G M_X12_layWays W0 (zj_ret G M_X12_layWays W0 (none) (fun _ => [w_Mo G a0 r])) 0 0 [w_Mo G a0 s0] [some (.ref (a0 0)), some (.int x1), none, none, none] 166 []) (x1 : Int32) (hf : f_X12_layWays_H166 s0 k166 x1 = some r) : zj_J l G M_X12_layWays W0 (zj_ret G M_X12_layWays W0 (none) (fun _ => [w_Mo G a0 r])) 0 0 [w_Mo G a0 s0] [some (.ref (a0 0)), some (.int x1), none, none, none] 166 [] := by
  unfold f_X12_layWays_H166 at hf
  refine zr_run [(.iload_n 1, 0, 0, 0, .null), (.bipush 10, 0, 0, 0, .int (10 : Int32))] [] (WW' := [w_Mo G a0 s0]) (lv' := [some (.ref (a0 0)), some (.int x1), none, none, none]) (pc' := 169) (st' := [.int (10 : Int32), .int x1]) (by decide +kernel) rfl rfl ⟨trivial, trivial, trivial⟩ ?_
  refine zr_icmp_ge (off := 138) (tgt := 307) (by decide +kernel) (by decide) (fun hc => ?_) (fun hc => ?_)
  · have hf := zift hf hc
    refine zr_run [(.iconst 0, 0, 0, 0, .int (0 : Int32)), (.istore_n 2, 0, 0, 0, .null)] [] (WW' := [w_Mo G a0 s0]) (lv' := [some (.ref (a0 0)), some (.int x1), some (.int (0 : Int32)), none, none]) (pc' := 174) (st' := []) (by decide +kernel) rfl rfl ⟨trivial, trivial, trivial⟩ ?_
    exact t_X12_layWays_L174 l G a0 W0 r k166 hk166 zFU s0 x1 (0 : Int32) hf
  · have hf := ziff hf hc
    obtain rfl := Option.some.inj hf
    exact zr_vret (b0 := fun _ => 0) (by decide +kernel) rfl rfl rfl rfl rfl
theorem t_X12_layWays_L166 (l : Launch) (G : zj_G) (a0 : Nat → Nat) (W0 : List va_W) (r : MoT)    : ∀ (n : Nat) (s0 : MoT) (x1 : Int32), f_X12_layWays_L166 n s0 x1 = some r → zj_J l G M_X12_layWays W0 (zj_ret G M_X12_layWays W0 (none) (fun _ => [w_Mo G a0 r])) 0 0 [w_Mo G a0 s0] [some (.ref (a0 0)), some (.int x1), none, none, none] 166 [] := by
  intro n
  induction n with
  | zero => intro s0 x1 hf; exact nomatch (show none = some r from hf)
  | succ n ih => intro s0 x1 hf; exact t_X12_layWays_H166 l G a0 W0 r s0  (f_X12_layWays_L166 n)  ih x1  hf
set_option maxRecDepth 100000 in
set_option maxHeartbeats 4000000 in
theorem t_X12_layWays_H60 (l : Launch) (G : zj_G) (a0 : Nat → Nat) (W0 : List va_W) (r : MoT) (s0 : MoT) (k60 : MoT → Int32 → Option (MoT)) (hk60 : ∀ (s0 : MoT) (x1 : Int32), k60 s0 x1 = some r → zj_J l G M_X12_layWays W0 (zj_ret G M_X12_layWays W0 (none) (fun _ => [w_Mo G a0 r])) 0 0 [w_Mo G a0 s0] [some (.ref (a0 0)), some (.int x1), none, none, none] 60 []) (x1 : Int32) (hf : f_X12_layWays_H60 s0 k60 x1 = some r) : zj_J l G M_X12_layWays W0 (zj_ret G M_X12_layWays W0 (none) (fun _ => [w_Mo G a0 r])) 0 0 [w_Mo G a0 s0] [some (.ref (a0 0)), some (.int x1), none, none, none] 60 [] := by
  unfold f_X12_layWays_H60 at hf
  refine zr_run [(.iload_n 1, 0, 0, 0, .null), (.bipush 10, 0, 0, 0, .int (10 : Int32))] [] (WW' := [w_Mo G a0 s0]) (lv' := [some (.ref (a0 0)), some (.int x1), none, none, none]) (pc' := 63) (st' := [.int (10 : Int32), .int x1]) (by decide +kernel) rfl rfl ⟨trivial, trivial, trivial⟩ ?_
  refine zr_icmp_ge (off := 101) (tgt := 164) (by decide +kernel) (by decide) (fun hc => ?_) (fun hc => ?_)
  · have hf := zift hf hc
    refine zr_run [(.iconst 0, 0, 0, 0, .int (0 : Int32)), (.istore_n 2, 0, 0, 0, .null)] [] (WW' := [w_Mo G a0 s0]) (lv' := [some (.ref (a0 0)), some (.int x1), some (.int (0 : Int32)), none, none]) (pc' := 68) (st' := []) (by decide +kernel) rfl rfl ⟨trivial, trivial, trivial⟩ ?_
    exact t_X12_layWays_L68 l G a0 W0 r k60 hk60 zFU s0 x1 (0 : Int32) hf
  · have hf := ziff hf hc
    refine zr_run [(.iconst 0, 0, 0, 0, .int (0 : Int32)), (.istore_n 1, 0, 0, 0, .null)] [] (WW' := [w_Mo G a0 s0]) (lv' := [some (.ref (a0 0)), some (.int (0 : Int32)), none, none, none]) (pc' := 166) (st' := []) (by decide +kernel) rfl rfl ⟨trivial, trivial, trivial⟩ ?_
    exact t_X12_layWays_L166 l G a0 W0 r zFU s0 (0 : Int32) hf
theorem t_X12_layWays_L60 (l : Launch) (G : zj_G) (a0 : Nat → Nat) (W0 : List va_W) (r : MoT)    : ∀ (n : Nat) (s0 : MoT) (x1 : Int32), f_X12_layWays_L60 n s0 x1 = some r → zj_J l G M_X12_layWays W0 (zj_ret G M_X12_layWays W0 (none) (fun _ => [w_Mo G a0 r])) 0 0 [w_Mo G a0 s0] [some (.ref (a0 0)), some (.int x1), none, none, none] 60 [] := by
  intro n
  induction n with
  | zero => intro s0 x1 hf; exact nomatch (show none = some r from hf)
  | succ n ih => intro s0 x1 hf; exact t_X12_layWays_H60 l G a0 W0 r s0  (f_X12_layWays_L60 n)  ih x1  hf
set_option maxRecDepth 100000 in
set_option maxHeartbeats 4000000 in
theorem t_X12_layWays_H2 (l : Launch) (G : zj_G) (a0 : Nat → Nat) (W0 : List va_W) (r : MoT) (s0 : MoT) (k2 : MoT → Int32 → Option (MoT)) (hk2 : ∀ (s0 : MoT) (x1 : Int32), k2 s0 x1 = some r → zj_J l G M_X12_layWays W0 (zj_ret G M_X12_layWays W0 (none) (fun _ => [w_Mo G a0 r])) 0 0 [w_Mo G a0 s0] [some (.ref (a0 0)), some (.int x1), none, none, none] 2 []) (x1 : Int32) (hf : f_X12_layWays_H2 s0 k2 x1 = some r) : zj_J l G M_X12_layWays W0 (zj_ret G M_X12_layWays W0 (none) (fun _ => [w_Mo G a0 r])) 0 0 [w_Mo G a0 s0] [some (.ref (a0 0)), some (.int x1), none, none, none] 2 [] := by
  unfold f_X12_layWays_H2 at hf
  refine zr_run [(.iload_n 1, 0, 0, 0, .null), (.bipush 10, 0, 0, 0, .int (10 : Int32))] [] (WW' := [w_Mo G a0 s0]) (lv' := [some (.ref (a0 0)), some (.int x1), none, none, none]) (pc' := 5) (st' := [.int (10 : Int32), .int x1]) (by decide +kernel) rfl rfl ⟨trivial, trivial, trivial⟩ ?_
  refine zr_icmp_ge (off := 53) (tgt := 58) (by decide +kernel) (by decide) (fun hc => ?_) (fun hc => ?_)
  · have hf := zift hf hc
    refine zr_run [(.iconst 0, 0, 0, 0, .int (0 : Int32)), (.istore_n 2, 0, 0, 0, .null)] [] (WW' := [w_Mo G a0 s0]) (lv' := [some (.ref (a0 0)), some (.int x1), some (.int (0 : Int32)), none, none]) (pc' := 10) (st' := []) (by decide +kernel) rfl rfl ⟨trivial, trivial, trivial⟩ ?_
    exact t_X12_layWays_L10 l G a0 W0 r k2 hk2 zFU s0 x1 (0 : Int32) hf
  · have hf := ziff hf hc
    refine zr_run [(.iconst 0, 0, 0, 0, .int (0 : Int32)), (.istore_n 1, 0, 0, 0, .null)] [] (WW' := [w_Mo G a0 s0]) (lv' := [some (.ref (a0 0)), some (.int (0 : Int32)), none, none, none]) (pc' := 60) (st' := []) (by decide +kernel) rfl rfl ⟨trivial, trivial, trivial⟩ ?_
    exact t_X12_layWays_L60 l G a0 W0 r zFU s0 (0 : Int32) hf
theorem t_X12_layWays_L2 (l : Launch) (G : zj_G) (a0 : Nat → Nat) (W0 : List va_W) (r : MoT)    : ∀ (n : Nat) (s0 : MoT) (x1 : Int32), f_X12_layWays_L2 n s0 x1 = some r → zj_J l G M_X12_layWays W0 (zj_ret G M_X12_layWays W0 (none) (fun _ => [w_Mo G a0 r])) 0 0 [w_Mo G a0 s0] [some (.ref (a0 0)), some (.int x1), none, none, none] 2 [] := by
  intro n
  induction n with
  | zero => intro s0 x1 hf; exact nomatch (show none = some r from hf)
  | succ n ih => intro s0 x1 hf; exact t_X12_layWays_H2 l G a0 W0 r s0  (f_X12_layWays_L2 n)  ih x1  hf
set_option maxRecDepth 100000 in
set_option maxHeartbeats 4000000 in
theorem c_X12_layWays (l : Launch) (G : zj_G) (a0 : Nat → Nat) (s0 : MoT)  (r : MoT) (hf : f_X12_layWays s0 = some r) : zj_C l G M_X12_layWays yX12_layWays [w_Mo G a0 s0] [.ref (a0 0)] (none) (fun _ => [w_Mo G a0 r]) := by
  have key : ∀ W0 : List va_W, zj_J l G M_X12_layWays W0 (zj_ret G M_X12_layWays W0 (none) (fun _ => [w_Mo G a0 r])) 0 0 [w_Mo G a0 s0] [some (.ref (a0 0)), none, none, none, none] 0 [] := by
    intro W0
    unfold f_X12_layWays at hf
    refine zr_run [(.iconst 0, 0, 0, 0, .int (0 : Int32)), (.istore_n 1, 0, 0, 0, .null)] [] (WW' := [w_Mo G a0 s0]) (lv' := [some (.ref (a0 0)), some (.int (0 : Int32)), none, none, none]) (pc' := 2) (st' := []) (by decide +kernel) rfl rfl ⟨trivial, trivial, trivial⟩ ?_
    exact t_X12_layWays_L2 l G a0 W0 r zFU s0 (0 : Int32) hf
  exact zj_entry [some (.ref (a0 0)), none, none, none, none] (by decide +kernel) rfl (by decide) (Nat.le_of_ble_eq_true rfl) rfl rfl (key _)
def M_X12_land : zj_M := (RX12, cX12_land, 3, (some .int), { frames := 6, cells := 0, slots := 0, locals := 133 }, false)
theorem nm_X12_land : zj_nm yX12_land 0 := ⟨by decide +kernel, by decide +kernel, by decide +kernel⟩
def f_X12_land_H98  (s0 : MoT) (k98 : MoT → Int32 → Int32 → Option (Int32 × MoT)) (x1 : Int32) (x2 : Int32) : Option (Int32 × MoT) := (if x2 < (16 : Int32) then (if zb_in x2 16 = true then (if zb_in x2 16 = true then (zlet (Mo_s_name s0 ((vp_updL (Mo_name s0) x2.toNatClampNeg ((Mo_readName s0) x2.toNatClampNeg)))) fun y10 => k98 y10 x1 (x2 + (1 : Int32))) else none) else none) else ((f_X12_startSo s0).bind fun q11 => (zlet (Mo_s_snapMany q11 (0 : Int32)) fun y12 => some (x1, y12))))
def f_X12_land_L98    : Nat → MoT → Int32 → Int32 → Option (Int32 × MoT)
  | 0 => fun _ _ _ => none
  | n + 1 => fun s0 x1 x2 => f_X12_land_H98 s0 (f_X12_land_L98  n) x1 x2
def f_X12_land_H71  (s0 : MoT) (k71 : MoT → Int32 → Int32 → Option (Int32 × MoT)) (x1 : Int32) (x2 : Int32) : Option (Int32 × MoT) := (if x2 < (443 : Int32) then (if zb_in x2 443 = true then (if zb_in x2 758 = true then (zlet (Mo_s_now s0 ((upd (Mo_now s0) x2.toNatClampNeg ((Mo_read s0) x2.toNatClampNeg)))) fun y7 => k71 y7 x1 (x2 + (1 : Int32))) else none) else none) else f_X12_land_L98 zFU s0 x1 (0 : Int32))
def f_X12_land_L71    : Nat → MoT → Int32 → Int32 → Option (Int32 × MoT)
  | 0 => fun _ _ _ => none
  | n + 1 => fun s0 x1 x2 => f_X12_land_H71 s0 (f_X12_land_L71  n) x1 x2
def f_X12_land_b52  (s0 : MoT)   : Option (Int32 × MoT) := some (((-1 : Int32) - (Mo_place s0)), s0)
def f_X12_land_H31  (s0 : MoT) (k31 : MoT → Int32 → Option (Int32 × MoT)) (x1 : Int32) : Option (Int32 × MoT) := (if (Mo_kind s0) = 0 then ((f_X12_layWays s0).bind fun q4 => f_X12_land_L71 zFU q4 x1 (0 : Int32)) else ((f_X12_readLine s0).bind fun q13 => (if q13.1 = 0 then f_X12_land_b52 q13.2 else ((f_X12_readEnd q13.2).bind fun q14 => (if q14.1 = 0 then f_X12_land_b52 q14.2 else k31 q14.2 (x1 + (1 : Int32)))))))
def f_X12_land_L31    : Nat → MoT → Int32 → Option (Int32 × MoT)
  | 0 => fun _ _ => none
  | n + 1 => fun s0 x1 => f_X12_land_H31 s0 (f_X12_land_L31  n) x1
def f_X12_land_H9  (s0 : MoT) (k9 : MoT → Int32 → Option (Int32 × MoT)) (x1 : Int32) : Option (Int32 × MoT) := (if x1 < (443 : Int32) then (if zb_in x1 443 = true then (zlet (Mo_s_read s0 ((upd (Mo_read s0) x1.toNatClampNeg (0 : Int32)))) fun y3 => k9 y3 (x1 + (1 : Int32))) else none) else f_X12_land_L31 zFU s0 (0 : Int32))
def f_X12_land_L9    : Nat → MoT → Int32 → Option (Int32 × MoT)
  | 0 => fun _ _ => none
  | n + 1 => fun s0 x1 => f_X12_land_H9 s0 (f_X12_land_L9  n) x1
def f_X12_land  (s0 : MoT)  : Option (Int32 × MoT) := ((f_X12_begin s0 (900 : Int32)).bind fun q1 => f_X12_land_L9 zFU q1 (0 : Int32))
set_option maxRecDepth 100000 in
set_option maxHeartbeats 4000000 in
theorem t_X12_land_H98 (l : Launch) (G : zj_G) (a0 : Nat → Nat) (W0 : List va_W) (r : Int32 × MoT) (s0 : MoT) (k98 : MoT → Int32 → Int32 → Option (Int32 × MoT)) (hk98 : ∀ (s0 : MoT) (x1 : Int32) (x2 : Int32), k98 s0 x1 x2 = some r → zj_J l G M_X12_land W0 (zj_ret G M_X12_land W0 (some (.int r.1)) (fun _ => [w_Mo G a0 r.2])) 0 0 [w_Mo G a0 s0] [some (.ref (a0 0)), some (.int x1), some (.int x2)] 98 []) (x1 : Int32) (x2 : Int32) (hf : f_X12_land_H98 s0 k98 x1 x2 = some r) : zj_J l G M_X12_land W0 (zj_ret G M_X12_land W0 (some (.int r.1)) (fun _ => [w_Mo G a0 r.2])) 0 0 [w_Mo G a0 s0] [some (.ref (a0 0)), some (.int x1), some (.int x2)] 98 [] := by
  unfold f_X12_land_H98 at hf
  refine zr_run [(.iload_n 2, 0, 0, 0, .null), (.bipush 16, 0, 0, 0, .int (16 : Int32))] [] (WW' := [w_Mo G a0 s0]) (lv' := [some (.ref (a0 0)), some (.int x1), some (.int x2)]) (pc' := 101) (st' := [.int (16 : Int32), .int x2]) (by decide +kernel) rfl rfl ⟨trivial, trivial, trivial⟩ ?_
  refine zr_icmp_ge (off := 21) (tgt := 122) (by decide +kernel) (by decide) (fun hc => ?_) (fun hc => ?_)
  · have hf := zift hf hc
    obtain ⟨h8, hf⟩ := zck_of hf
    obtain ⟨h9, hf⟩ := zck_of hf
    obtain ⟨y10, e10, hf⟩ := zlet_of hf
    refine zr_run [(.aload_n 0, 0, 0, 0, .null), (.getfield 28, 0, 0, 19, .null), (.iload_n 2, 0, 0, 0, .null), (.aload_n 0, 0, 0, 0, .null), (.getfield 32, 0, 0, 20, .null), (.iload_n 2, 0, 0, 0, .null), (.laload, 0, 8, 0, .null), (.lastore, 0, 7, 0, .null)] [] (WW' := [w_Mo G a0 (Mo_s_name s0 ((vp_updL (Mo_name s0) x2.toNatClampNeg ((Mo_readName s0) x2.toNatClampNeg))))]) (lv' := [some (.ref (a0 0)), some (.int x1), some (.int x2)]) (pc' := 116) (st' := []) (by decide +kernel) rfl rfl ⟨trivial, ⟨rfl, rfl, zw_6_48⟩, trivial, trivial, ⟨rfl, rfl, zw_6_49⟩, trivial, ⟨rfl, rfl, h8⟩, ⟨rfl, rfl, h9⟩, trivial⟩ ?_
    refine zr_eq (WW2 := [w_Mo G a0 y10]) (lv2 := [some (.ref (a0 0)), some (.int x1), some (.int x2)]) (st2 := []) (by rw [e10]) rfl rfl ?_
    refine zr_run [(.iinc 2 1, 0, 0, 0, .int (1 : Int32))] [] (WW' := [w_Mo G a0 y10]) (lv' := [some (.ref (a0 0)), some (.int x1), some (.int (x2 + (1 : Int32)))]) (pc' := 119) (st' := []) (by decide +kernel) rfl rfl ⟨trivial, trivial⟩ ?_
    refine zr_goto (off := -21) (tgt := 98) (by decide +kernel) (by decide) ?_
    exact hk98 y10 x1 (x2 + (1 : Int32)) hf
  · have hf := ziff hf hc
    obtain ⟨q11, e11, hf⟩ := zbi_of hf
    refine zr_run [(.aload_n 0, 0, 0, 0, .null)] [] (WW' := [w_Mo G a0 s0]) (lv' := [some (.ref (a0 0)), some (.int x1), some (.int x2)]) (pc' := 123) (st' := [.ref (a0 0)]) (by decide +kernel) rfl rfl ⟨trivial, trivial⟩ ?_
    refine zr_callV (c_X12_startSo l G a0 s0 q11 e11) (WW' := fun _ => [w_Mo G a0 q11]) (st := []) (st' := []) [0] rfl rfl (fun _ => Nat.le_of_ble_eq_true rfl) (fun _ => rfl) rfl rfl nm_X12_startSo zw_7_84 zw_7_86 zw_0_69 zw_1_18 zw_7_87 rfl rfl rfl (Nat.le_of_ble_eq_true rfl) ⟨Nat.le_of_ble_eq_true rfl, Nat.le_of_ble_eq_true rfl⟩ (by decide +kernel) (fun _ => ?_)
    obtain ⟨y12, e12, hf⟩ := zlet_of hf
    refine zr_run [(.aload_n 0, 0, 0, 0, .null), (.iconst 0, 0, 0, 0, .int (0 : Int32)), (.putfield 241, 0, 0, 23, .null)] [] (WW' := [w_Mo G a0 (Mo_s_snapMany q11 (0 : Int32))]) (lv' := [some (.ref (a0 0)), some (.int x1), some (.int x2)]) (pc' := 131) (st' := []) (by decide +kernel) rfl rfl ⟨trivial, trivial, ⟨rfl, rfl, rfl, trivial, rfl, rfl, zw_6_52⟩, trivial⟩ ?_
    refine zr_eq (WW2 := [w_Mo G a0 y12]) (lv2 := [some (.ref (a0 0)), some (.int x1), some (.int x2)]) (st2 := []) (by rw [e12]) rfl rfl ?_
    refine zr_run [(.iload_n 1, 0, 0, 0, .null)] [] (WW' := [w_Mo G a0 y12]) (lv' := [some (.ref (a0 0)), some (.int x1), some (.int x2)]) (pc' := 132) (st' := [.int x1]) (by decide +kernel) rfl rfl ⟨trivial, trivial⟩ ?_
    obtain rfl := Option.some.inj hf
    exact zr_iret (b0 := fun _ => 0) (by decide +kernel) rfl rfl rfl rfl rfl
theorem t_X12_land_L98 (l : Launch) (G : zj_G) (a0 : Nat → Nat) (W0 : List va_W) (r : Int32 × MoT)    : ∀ (n : Nat) (s0 : MoT) (x1 : Int32) (x2 : Int32), f_X12_land_L98 n s0 x1 x2 = some r → zj_J l G M_X12_land W0 (zj_ret G M_X12_land W0 (some (.int r.1)) (fun _ => [w_Mo G a0 r.2])) 0 0 [w_Mo G a0 s0] [some (.ref (a0 0)), some (.int x1), some (.int x2)] 98 [] := by
  intro n
  induction n with
  | zero => intro s0 x1 x2 hf; exact nomatch (show none = some r from hf)
  | succ n ih => intro s0 x1 x2 hf; exact t_X12_land_H98 l G a0 W0 r s0  (f_X12_land_L98 n)  ih x1 x2  hf
set_option maxRecDepth 100000 in
set_option maxHeartbeats 4000000 in
theorem t_X12_land_H71 (l : Launch) (G : zj_G) (a0 : Nat → Nat) (W0 : List va_W) (r : Int32 × MoT) (s0 : MoT) (k71 : MoT → Int32 → Int32 → Option (Int32 × MoT)) (hk71 : ∀ (s0 : MoT) (x1 : Int32) (x2 : Int32), k71 s0 x1 x2 = some r → zj_J l G M_X12_land W0 (zj_ret G M_X12_land W0 (some (.int r.1)) (fun _ => [w_Mo G a0 r.2])) 0 0 [w_Mo G a0 s0] [some (.ref (a0 0)), some (.int x1), some (.int x2)] 71 []) (x1 : Int32) (x2 : Int32) (hf : f_X12_land_H71 s0 k71 x1 x2 = some r) : zj_J l G M_X12_land W0 (zj_ret G M_X12_land W0 (some (.int r.1)) (fun _ => [w_Mo G a0 r.2])) 0 0 [w_Mo G a0 s0] [some (.ref (a0 0)), some (.int x1), some (.int x2)] 71 [] := by
  unfold f_X12_land_H71 at hf
  refine zr_run [(.iload_n 2, 0, 0, 0, .null), (.sipush 443, 0, 0, 0, .int (443 : Int32))] [] (WW' := [w_Mo G a0 s0]) (lv' := [some (.ref (a0 0)), some (.int x1), some (.int x2)]) (pc' := 75) (st' := [.int (443 : Int32), .int x2]) (by decide +kernel) rfl rfl ⟨trivial, trivial, trivial⟩ ?_
  refine zr_icmp_ge (off := 21) (tgt := 96) (by decide +kernel) (by decide) (fun hc => ?_) (fun hc => ?_)
  · have hf := zift hf hc
    obtain ⟨h5, hf⟩ := zck_of hf
    obtain ⟨h6, hf⟩ := zck_of hf
    obtain ⟨y7, e7, hf⟩ := zlet_of hf
    refine zr_run [(.aload_n 0, 0, 0, 0, .null), (.getfield 13, 0, 0, 14, .null), (.iload_n 2, 0, 0, 0, .null), (.aload_n 0, 0, 0, 0, .null), (.getfield 16, 0, 0, 15, .null), (.iload_n 2, 0, 0, 0, .null), (.iaload, 0, 3, 0, .null), (.iastore, 0, 2, 0, .null)] [] (WW' := [w_Mo G a0 (Mo_s_now s0 ((upd (Mo_now s0) x2.toNatClampNeg ((Mo_read s0) x2.toNatClampNeg))))]) (lv' := [some (.ref (a0 0)), some (.int x1), some (.int x2)]) (pc' := 90) (st' := []) (by decide +kernel) rfl rfl ⟨trivial, ⟨rfl, rfl, zw_6_43⟩, trivial, trivial, ⟨rfl, rfl, zw_6_44⟩, trivial, ⟨rfl, rfl, h5⟩, ⟨rfl, rfl, h6⟩, trivial⟩ ?_
    refine zr_eq (WW2 := [w_Mo G a0 y7]) (lv2 := [some (.ref (a0 0)), some (.int x1), some (.int x2)]) (st2 := []) (by rw [e7]) rfl rfl ?_
    refine zr_run [(.iinc 2 1, 0, 0, 0, .int (1 : Int32))] [] (WW' := [w_Mo G a0 y7]) (lv' := [some (.ref (a0 0)), some (.int x1), some (.int (x2 + (1 : Int32)))]) (pc' := 93) (st' := []) (by decide +kernel) rfl rfl ⟨trivial, trivial⟩ ?_
    refine zr_goto (off := -22) (tgt := 71) (by decide +kernel) (by decide) ?_
    exact hk71 y7 x1 (x2 + (1 : Int32)) hf
  · have hf := ziff hf hc
    refine zr_run [(.iconst 0, 0, 0, 0, .int (0 : Int32)), (.istore_n 2, 0, 0, 0, .null)] [] (WW' := [w_Mo G a0 s0]) (lv' := [some (.ref (a0 0)), some (.int x1), some (.int (0 : Int32))]) (pc' := 98) (st' := []) (by decide +kernel) rfl rfl ⟨trivial, trivial, trivial⟩ ?_
    exact t_X12_land_L98 l G a0 W0 r zFU s0 x1 (0 : Int32) hf
theorem t_X12_land_L71 (l : Launch) (G : zj_G) (a0 : Nat → Nat) (W0 : List va_W) (r : Int32 × MoT)    : ∀ (n : Nat) (s0 : MoT) (x1 : Int32) (x2 : Int32), f_X12_land_L71 n s0 x1 x2 = some r → zj_J l G M_X12_land W0 (zj_ret G M_X12_land W0 (some (.int r.1)) (fun _ => [w_Mo G a0 r.2])) 0 0 [w_Mo G a0 s0] [some (.ref (a0 0)), some (.int x1), some (.int x2)] 71 [] := by
  intro n
  induction n with
  | zero => intro s0 x1 x2 hf; exact nomatch (show none = some r from hf)
  | succ n ih => intro s0 x1 x2 hf; exact t_X12_land_H71 l G a0 W0 r s0  (f_X12_land_L71 n)  ih x1 x2  hf
set_option maxRecDepth 100000 in
set_option maxHeartbeats 4000000 in
theorem t_X12_land_b52 (l : Launch) (G : zj_G) (a0 : Nat → Nat) (W0 : List va_W) (r : Int32 × MoT) (s0 : MoT)    (hf : f_X12_land_b52 s0 = some r) : zj_J l G M_X12_land W0 (zj_ret G M_X12_land W0 (some (.int r.1)) (fun _ => [w_Mo G a0 r.2])) 0 0 [w_Mo G a0 s0] [some (.ref (a0 0)), none, none] 52 [] := by
  unfold f_X12_land_b52 at hf
  refine zr_run [(.iconst (-1), 0, 0, 0, .int (-1 : Int32)), (.aload_n 0, 0, 0, 0, .null), (.getfield 152, 0, 0, 11, .null), (.isub, 0, 0, 0, .null)] [] (WW' := [w_Mo G a0 s0]) (lv' := [some (.ref (a0 0)), none, none]) (pc' := 58) (st' := [.int ((-1 : Int32) - (Mo_place s0))]) (by decide +kernel) rfl rfl ⟨trivial, trivial, ⟨rfl, rfl, zw_6_40⟩, trivial, trivial⟩ ?_
  obtain rfl := Option.some.inj hf
  exact zr_iret (b0 := fun _ => 0) (by decide +kernel) rfl rfl rfl rfl rfl
set_option maxRecDepth 100000 in
set_option maxHeartbeats 4000000 in
theorem t_X12_land_H31 (l : Launch) (G : zj_G) (a0 : Nat → Nat) (W0 : List va_W) (r : Int32 × MoT) (s0 : MoT) (k31 : MoT → Int32 → Option (Int32 × MoT)) (hk31 : ∀ (s0 : MoT) (x1 : Int32), k31 s0 x1 = some r → zj_J l G M_X12_land W0 (zj_ret G M_X12_land W0 (some (.int r.1)) (fun _ => [w_Mo G a0 r.2])) 0 0 [w_Mo G a0 s0] [some (.ref (a0 0)), some (.int x1), none] 31 []) (x1 : Int32) (hf : f_X12_land_H31 s0 k31 x1 = some r) : zj_J l G M_X12_land W0 (zj_ret G M_X12_land W0 (some (.int r.1)) (fun _ => [w_Mo G a0 r.2])) 0 0 [w_Mo G a0 s0] [some (.ref (a0 0)), some (.int x1), none] 31 [] := by
  unfold f_X12_land_H31 at hf
  refine zr_run [(.aload_n 0, 0, 0, 0, .null), (.getfield 113, 0, 0, 7, .null)] [] (WW' := [w_Mo G a0 s0]) (lv' := [some (.ref (a0 0)), some (.int x1), none]) (pc' := 35) (st' := [.int (Mo_kind s0)]) (by decide +kernel) rfl rfl ⟨trivial, ⟨rfl, rfl, zw_6_36⟩, trivial⟩ ?_
  refine zr_if_eq (off := 30) (tgt := 65) (by decide +kernel) (by decide) (fun hc => ?_) (fun hc => ?_)
  · have hf := zift hf hc
    obtain ⟨q4, e4, hf⟩ := zbi_of hf
    refine zr_run [(.aload_n 0, 0, 0, 0, .null)] [] (WW' := [w_Mo G a0 s0]) (lv' := [some (.ref (a0 0)), some (.int x1), none]) (pc' := 66) (st' := [.ref (a0 0)]) (by decide +kernel) rfl rfl ⟨trivial, trivial⟩ ?_
    refine zr_callV (c_X12_layWays l G a0 s0 q4 e4) (WW' := fun _ => [w_Mo G a0 q4]) (st := []) (st' := []) [0] rfl rfl (fun _ => Nat.le_of_ble_eq_true rfl) (fun _ => rfl) rfl rfl nm_X12_layWays zw_7_72 zw_7_74 zw_0_67 zw_1_18 zw_7_75 rfl rfl rfl (Nat.le_of_ble_eq_true rfl) ⟨Nat.le_of_ble_eq_true rfl, Nat.le_of_ble_eq_true rfl⟩ (by decide +kernel) (fun _ => ?_)
    refine zr_run [(.iconst 0, 0, 0, 0, .int (0 : Int32)), (.istore_n 2, 0, 0, 0, .null)] [] (WW' := [w_Mo G a0 q4]) (lv' := [some (.ref (a0 0)), some (.int x1), some (.int (0 : Int32))]) (pc' := 71) (st' := []) (by decide +kernel) rfl rfl ⟨trivial, trivial, trivial⟩ ?_
    exact t_X12_land_L71 l G a0 W0 r zFU q4 x1 (0 : Int32) hf
  · have hf := ziff hf hc
    obtain ⟨q13, e13, hf⟩ := zbi_of hf
    refine zr_run [(.aload_n 0, 0, 0, 0, .null)] [] (WW' := [w_Mo G a0 s0]) (lv' := [some (.ref (a0 0)), some (.int x1), none]) (pc' := 39) (st' := [.ref (a0 0)]) (by decide +kernel) rfl rfl ⟨trivial, trivial⟩ ?_
    refine zr_callV (c_X12_readLine l G a0 s0 q13 e13) (WW' := fun _ => [w_Mo G a0 q13.2]) (st := []) (st' := [.int q13.1]) [0] rfl rfl (fun _ => Nat.le_of_ble_eq_true rfl) (fun _ => rfl) rfl rfl nm_X12_readLine zw_6_237 zw_6_239 zw_0_52 zw_1_18 zw_7_0 rfl rfl rfl (Nat.le_of_ble_eq_true rfl) ⟨Nat.le_of_ble_eq_true rfl, Nat.le_of_ble_eq_true rfl⟩ (by decide +kernel) (fun _ => ?_)
    refine zr_if_eq (off := 10) (tgt := 52) (by decide +kernel) (by decide) (fun hc => ?_) (fun hc => ?_)
    · have hf := zift hf hc
      refine zr_run [] [1] (WW' := [w_Mo G a0 q13.2]) (lv' := [some (.ref (a0 0)), none, none]) (pc' := 52) (st' := []) (by decide +kernel) rfl rfl trivial ?_
      exact t_X12_land_b52 l G a0 W0 r q13.2 hf
    · have hf := ziff hf hc
      obtain ⟨q14, e14, hf⟩ := zbi_of hf
      refine zr_run [(.aload_n 0, 0, 0, 0, .null)] [] (WW' := [w_Mo G a0 q13.2]) (lv' := [some (.ref (a0 0)), some (.int x1), none]) (pc' := 46) (st' := [.ref (a0 0)]) (by decide +kernel) rfl rfl ⟨trivial, trivial⟩ ?_
      refine zr_callV (c_X12_readEnd l G a0 q13.2 q14 e14) (WW' := fun _ => [w_Mo G a0 q14.2]) (st := []) (st' := [.int q14.1]) [0] rfl rfl (fun _ => Nat.le_of_ble_eq_true rfl) (fun _ => rfl) rfl rfl nm_X12_readEnd zw_7_64 zw_7_66 zw_0_65 zw_1_18 zw_7_67 rfl rfl rfl (Nat.le_of_ble_eq_true rfl) ⟨Nat.le_of_ble_eq_true rfl, Nat.le_of_ble_eq_true rfl⟩ (by decide +kernel) (fun _ => ?_)
      refine zr_if_ne (off := 10) (tgt := 59) (by decide +kernel) (by decide) (fun hc => ?_) (fun hc => ?_)
      · have hf := zift hf hc
        refine zr_run [] [1] (WW' := [w_Mo G a0 q14.2]) (lv' := [some (.ref (a0 0)), none, none]) (pc' := 52) (st' := []) (by decide +kernel) rfl rfl trivial ?_
        exact t_X12_land_b52 l G a0 W0 r q14.2 hf
      · have hf := ziff hf hc
        refine zr_run [(.iinc 1 1, 0, 0, 0, .int (1 : Int32))] [] (WW' := [w_Mo G a0 q14.2]) (lv' := [some (.ref (a0 0)), some (.int (x1 + (1 : Int32))), none]) (pc' := 62) (st' := []) (by decide +kernel) rfl rfl ⟨trivial, trivial⟩ ?_
        refine zr_goto (off := -31) (tgt := 31) (by decide +kernel) (by decide) ?_
        exact hk31 q14.2 (x1 + (1 : Int32)) hf
theorem t_X12_land_L31 (l : Launch) (G : zj_G) (a0 : Nat → Nat) (W0 : List va_W) (r : Int32 × MoT)    : ∀ (n : Nat) (s0 : MoT) (x1 : Int32), f_X12_land_L31 n s0 x1 = some r → zj_J l G M_X12_land W0 (zj_ret G M_X12_land W0 (some (.int r.1)) (fun _ => [w_Mo G a0 r.2])) 0 0 [w_Mo G a0 s0] [some (.ref (a0 0)), some (.int x1), none] 31 [] := by
  intro n
  induction n with
  | zero => intro s0 x1 hf; exact nomatch (show none = some r from hf)
  | succ n ih => intro s0 x1 hf; exact t_X12_land_H31 l G a0 W0 r s0  (f_X12_land_L31 n)  ih x1  hf
set_option maxRecDepth 100000 in
set_option maxHeartbeats 4000000 in
theorem t_X12_land_H9 (l : Launch) (G : zj_G) (a0 : Nat → Nat) (W0 : List va_W) (r : Int32 × MoT) (s0 : MoT) (k9 : MoT → Int32 → Option (Int32 × MoT)) (hk9 : ∀ (s0 : MoT) (x1 : Int32), k9 s0 x1 = some r → zj_J l G M_X12_land W0 (zj_ret G M_X12_land W0 (some (.int r.1)) (fun _ => [w_Mo G a0 r.2])) 0 0 [w_Mo G a0 s0] [some (.ref (a0 0)), some (.int x1), none] 9 []) (x1 : Int32) (hf : f_X12_land_H9 s0 k9 x1 = some r) : zj_J l G M_X12_land W0 (zj_ret G M_X12_land W0 (some (.int r.1)) (fun _ => [w_Mo G a0 r.2])) 0 0 [w_Mo G a0 s0] [some (.ref (a0 0)), some (.int x1), none] 9 [] := by
  unfold f_X12_land_H9 at hf
  refine zr_run [(.iload_n 1, 0, 0, 0, .null), (.sipush 443, 0, 0, 0, .int (443 : Int32))] [] (WW' := [w_Mo G a0 s0]) (lv' := [some (.ref (a0 0)), some (.int x1), none]) (pc' := 13) (st' := [.int (443 : Int32), .int x1]) (by decide +kernel) rfl rfl ⟨trivial, trivial, trivial⟩ ?_
  refine zr_icmp_ge (off := 16) (tgt := 29) (by decide +kernel) (by decide) (fun hc => ?_) (fun hc => ?_)
  · have hf := zift hf hc
    obtain ⟨h2, hf⟩ := zck_of hf
    obtain ⟨y3, e3, hf⟩ := zlet_of hf
    refine zr_run [(.aload_n 0, 0, 0, 0, .null), (.getfield 16, 0, 0, 15, .null), (.iload_n 1, 0, 0, 0, .null), (.iconst 0, 0, 0, 0, .int (0 : Int32)), (.iastore, 0, 3, 0, .null)] [] (WW' := [w_Mo G a0 (Mo_s_read s0 ((upd (Mo_read s0) x1.toNatClampNeg (0 : Int32))))]) (lv' := [some (.ref (a0 0)), some (.int x1), none]) (pc' := 23) (st' := []) (by decide +kernel) rfl rfl ⟨trivial, ⟨rfl, rfl, zw_6_44⟩, trivial, trivial, ⟨rfl, rfl, h2⟩, trivial⟩ ?_
    refine zr_eq (WW2 := [w_Mo G a0 y3]) (lv2 := [some (.ref (a0 0)), some (.int x1), none]) (st2 := []) (by rw [e3]) rfl rfl ?_
    refine zr_run [(.iinc 1 1, 0, 0, 0, .int (1 : Int32))] [] (WW' := [w_Mo G a0 y3]) (lv' := [some (.ref (a0 0)), some (.int (x1 + (1 : Int32))), none]) (pc' := 26) (st' := []) (by decide +kernel) rfl rfl ⟨trivial, trivial⟩ ?_
    refine zr_goto (off := -17) (tgt := 9) (by decide +kernel) (by decide) ?_
    exact hk9 y3 (x1 + (1 : Int32)) hf
  · have hf := ziff hf hc
    refine zr_run [(.iconst 0, 0, 0, 0, .int (0 : Int32)), (.istore_n 1, 0, 0, 0, .null)] [] (WW' := [w_Mo G a0 s0]) (lv' := [some (.ref (a0 0)), some (.int (0 : Int32)), none]) (pc' := 31) (st' := []) (by decide +kernel) rfl rfl ⟨trivial, trivial, trivial⟩ ?_
    exact t_X12_land_L31 l G a0 W0 r zFU s0 (0 : Int32) hf
theorem t_X12_land_L9 (l : Launch) (G : zj_G) (a0 : Nat → Nat) (W0 : List va_W) (r : Int32 × MoT)    : ∀ (n : Nat) (s0 : MoT) (x1 : Int32), f_X12_land_L9 n s0 x1 = some r → zj_J l G M_X12_land W0 (zj_ret G M_X12_land W0 (some (.int r.1)) (fun _ => [w_Mo G a0 r.2])) 0 0 [w_Mo G a0 s0] [some (.ref (a0 0)), some (.int x1), none] 9 [] := by
  intro n
  induction n with
  | zero => intro s0 x1 hf; exact nomatch (show none = some r from hf)
  | succ n ih => intro s0 x1 hf; exact t_X12_land_H9 l G a0 W0 r s0  (f_X12_land_L9 n)  ih x1  hf
set_option maxRecDepth 100000 in
set_option maxHeartbeats 4000000 in
theorem c_X12_land (l : Launch) (G : zj_G) (a0 : Nat → Nat) (s0 : MoT)  (r : Int32 × MoT) (hf : f_X12_land s0 = some r) : zj_C l G M_X12_land yX12_land [w_Mo G a0 s0] [.ref (a0 0)] (some (.int r.1)) (fun _ => [w_Mo G a0 r.2]) := by
  have key : ∀ W0 : List va_W, zj_J l G M_X12_land W0 (zj_ret G M_X12_land W0 (some (.int r.1)) (fun _ => [w_Mo G a0 r.2])) 0 0 [w_Mo G a0 s0] [some (.ref (a0 0)), none, none] 0 [] := by
    intro W0
    unfold f_X12_land at hf
    obtain ⟨q1, e1, hf⟩ := zbi_of hf
    refine zr_run [(.aload_n 0, 0, 0, 0, .null), (.sipush 900, 0, 0, 0, .int (900 : Int32))] [] (WW' := [w_Mo G a0 s0]) (lv' := [some (.ref (a0 0)), none, none]) (pc' := 4) (st' := [.int (900 : Int32), .ref (a0 0)]) (by decide +kernel) rfl rfl ⟨trivial, trivial, trivial⟩ ?_
    refine zr_callV (c_X12_begin l G a0 s0 (900 : Int32) q1 e1) (WW' := fun _ => [w_Mo G a0 q1]) (st := []) (st' := []) [0] rfl rfl (fun _ => Nat.le_of_ble_eq_true rfl) (fun _ => rfl) rfl rfl nm_X12_begin zw_6_213 zw_6_215 zw_0_48 zw_1_18 zw_6_216 rfl rfl rfl (Nat.le_of_ble_eq_true rfl) ⟨Nat.le_of_ble_eq_true rfl, Nat.le_of_ble_eq_true rfl⟩ (by decide +kernel) (fun _ => ?_)
    refine zr_run [(.iconst 0, 0, 0, 0, .int (0 : Int32)), (.istore_n 1, 0, 0, 0, .null)] [] (WW' := [w_Mo G a0 q1]) (lv' := [some (.ref (a0 0)), some (.int (0 : Int32)), none]) (pc' := 9) (st' := []) (by decide +kernel) rfl rfl ⟨trivial, trivial, trivial⟩ ?_
    exact t_X12_land_L9 l G a0 W0 r zFU q1 (0 : Int32) hf
  exact zj_entry [some (.ref (a0 0)), none, none] (by decide +kernel) rfl (by decide) (Nat.le_of_ble_eq_true rfl) rfl rfl (key _)
def M_X12_fault : zj_M := (RX12, cX12_fault, 1, (some .int), { frames := 0, cells := 0, slots := 0, locals := 0 }, false)
theorem nm_X12_fault : zj_nm yX12_fault 0 := ⟨by decide +kernel, by decide +kernel, by decide +kernel⟩
def f_X12_fault  (s0 : MoT)  : Option (Int32 × MoT) := (zlet (Mo_s_thrown s0 (0 : Int32)) fun y1 => some ((Mo_fault y1), y1))
set_option maxRecDepth 100000 in
set_option maxHeartbeats 4000000 in
theorem c_X12_fault (l : Launch) (G : zj_G) (a0 : Nat → Nat) (s0 : MoT)  (r : Int32 × MoT) (hf : f_X12_fault s0 = some r) : zj_C l G M_X12_fault yX12_fault [w_Mo G a0 s0] [.ref (a0 0)] (some (.int r.1)) (fun _ => [w_Mo G a0 r.2]) := by
  have key : ∀ W0 : List va_W, zj_J l G M_X12_fault W0 (zj_ret G M_X12_fault W0 (some (.int r.1)) (fun _ => [w_Mo G a0 r.2])) 0 0 [w_Mo G a0 s0] [some (.ref (a0 0))] 0 [] := by
    intro W0
    unfold f_X12_fault at hf
    obtain ⟨y1, e1, hf⟩ := zlet_of hf
    refine zr_run [(.aload_n 0, 0, 0, 0, .null), (.iconst 0, 0, 0, 0, .int (0 : Int32)), (.putfield 91, 0, 0, 0, .null)] [] (WW' := [w_Mo G a0 (Mo_s_thrown s0 (0 : Int32))]) (lv' := [some (.ref (a0 0))]) (pc' := 5) (st' := []) (by decide +kernel) rfl rfl ⟨trivial, trivial, ⟨rfl, rfl, rfl, trivial, rfl, rfl, zw_6_29⟩, trivial⟩ ?_
    refine zr_eq (WW2 := [w_Mo G a0 y1]) (lv2 := [some (.ref (a0 0))]) (st2 := []) (by rw [e1]) rfl rfl ?_
    refine zr_run [(.aload_n 0, 0, 0, 0, .null), (.getfield 149, 0, 0, 10, .null)] [] (WW' := [w_Mo G a0 y1]) (lv' := [some (.ref (a0 0))]) (pc' := 9) (st' := [.int (Mo_fault y1)]) (by decide +kernel) rfl rfl ⟨trivial, ⟨rfl, rfl, zw_6_39⟩, trivial⟩ ?_
    obtain rfl := Option.some.inj hf
    exact zr_iret (b0 := fun _ => 0) (by decide +kernel) rfl rfl rfl rfl rfl
  exact zj_entry [some (.ref (a0 0))] (by decide +kernel) rfl (by decide) (Nat.le_of_ble_eq_true rfl) rfl rfl (key _)
def M_X12_isPlace : zj_M := (RX12, cX12_isPlace, 2, (some .boolean), { frames := 1, cells := 0, slots := 0, locals := 22 }, false)
theorem nm_X12_isPlace : zj_nm yX12_isPlace 1 := ⟨by decide +kernel, by decide +kernel, by decide +kernel⟩
def f_X12_isPlace  (s0 : MoT) (x1 : Int32) : Option (Int32) := ((f_X12_isIn x1 (0 : Int32) (((Mo_now s0) (0 : Int32).toNatClampNeg) - (1 : Int32))).bind fun q1 => (if zb_bo q1 = true then some q1 else none))
set_option maxRecDepth 100000 in
set_option maxHeartbeats 4000000 in
theorem c_X12_isPlace (l : Launch) (G : zj_G) (a0 : Nat → Nat) (s0 : MoT) (x1 : Int32) (r : Int32) (hf : f_X12_isPlace s0 x1 = some r) : zj_C l G M_X12_isPlace yX12_isPlace [w_Mo G a0 s0] [.ref (a0 0), .int x1] (some (.int r)) (fun _ => [w_Mo G a0 s0]) := by
  have key : ∀ W0 : List va_W, zj_J l G M_X12_isPlace W0 (zj_ret G M_X12_isPlace W0 (some (.int r)) (fun _ => [w_Mo G a0 s0])) 0 0 [w_Mo G a0 s0] [some (.ref (a0 0)), some (.int x1)] 0 [] := by
    intro W0
    unfold f_X12_isPlace at hf
    obtain ⟨q1, e1, hf⟩ := zbi_of hf
    refine zr_run [(.iload_n 1, 0, 0, 0, .null), (.iconst 0, 0, 0, 0, .int (0 : Int32)), (.aload_n 0, 0, 0, 0, .null), (.getfield 13, 0, 0, 14, .null), (.iconst 0, 0, 0, 0, .int (0 : Int32)), (.iaload, 0, 2, 0, .null), (.iconst 1, 0, 0, 0, .int (1 : Int32)), (.isub, 0, 0, 0, .null)] [] (WW' := [w_Mo G a0 s0]) (lv' := [some (.ref (a0 0)), some (.int x1)]) (pc' := 10) (st' := [.int (((Mo_now s0) (0 : Int32).toNatClampNeg) - (1 : Int32)), .int (0 : Int32), .int x1]) (by decide +kernel) rfl rfl ⟨trivial, trivial, trivial, ⟨rfl, rfl, zw_6_43⟩, trivial, ⟨rfl, rfl, (by decide)⟩, trivial, trivial, trivial⟩ ?_
    refine zr_callS (c_X12_isIn l G x1 (0 : Int32) (((Mo_now s0) (0 : Int32).toNatClampNeg) - (1 : Int32)) q1 e1) (WW' := fun _ => [w_Mo G a0 s0]) (st := []) (st' := [.int q1]) [] rfl rfl (fun _ => Nat.le_of_ble_eq_true rfl) (fun _ => rfl) rfl rfl nm_X12_isIn zw_7_38 zw_7_39 zw_1_18 zw_7_40 rfl (Nat.le_of_ble_eq_true rfl) ⟨Nat.le_of_ble_eq_true rfl, Nat.le_of_ble_eq_true rfl⟩ (by decide +kernel) (fun _ => ?_)
    obtain ⟨h2, hf⟩ := zck_of hf
    obtain rfl := Option.some.inj hf
    exact zr_zret h2 (b0 := fun _ => 0) (by decide +kernel) rfl rfl rfl rfl rfl
  exact zj_entry [some (.ref (a0 0)), some (.int x1)] (by decide +kernel) rfl (by decide) (Nat.le_of_ble_eq_true rfl) rfl rfl (key _)
def M_X12_isPort : zj_M := (RX12, cX12_isPort, 2, (some .boolean), { frames := 2, cells := 0, slots := 0, locals := 43 }, false)
theorem nm_X12_isPort : zj_nm yX12_isPort 1 := ⟨by decide +kernel, by decide +kernel, by decide +kernel⟩
def f_X12_isPort_b24  (s0 : MoT)   : Option (Int32) := some (0 : Int32)
def f_X12_isPort  (s0 : MoT) (x1 : Int32) : Option (Int32) := ((f_X12_isPlace s0 x1).bind fun q1 => (if q1 = 0 then f_X12_isPort_b24 s0 else (if zb_in ((4 : Int32) + x1) 758 = true then (if ((Mo_now s0) ((4 : Int32) + x1).toNatClampNeg) = (2 : Int32) then some (1 : Int32) else f_X12_isPort_b24 s0) else none)))
set_option maxRecDepth 100000 in
set_option maxHeartbeats 4000000 in
theorem t_X12_isPort_b24 (l : Launch) (G : zj_G) (a0 : Nat → Nat) (W0 : List va_W) (r : Int32) (s0 : MoT)    (hf : f_X12_isPort_b24 s0 = some r) : zj_J l G M_X12_isPort W0 (zj_ret G M_X12_isPort W0 (some (.int r)) (fun _ => [w_Mo G a0 s0])) 0 0 [w_Mo G a0 s0] [none, none] 24 [] := by
  unfold f_X12_isPort_b24 at hf
  refine zr_run [(.iconst 0, 0, 0, 0, .int (0 : Int32))] [] (WW' := [w_Mo G a0 s0]) (lv' := [none, none]) (pc' := 25) (st' := [.int (0 : Int32)]) (by decide +kernel) rfl rfl ⟨trivial, trivial⟩ ?_
  obtain rfl := Option.some.inj hf
  exact zr_zret (by decide) (b0 := fun _ => 0) (by decide +kernel) rfl rfl rfl rfl rfl
set_option maxRecDepth 100000 in
set_option maxHeartbeats 4000000 in
theorem c_X12_isPort (l : Launch) (G : zj_G) (a0 : Nat → Nat) (s0 : MoT) (x1 : Int32) (r : Int32) (hf : f_X12_isPort s0 x1 = some r) : zj_C l G M_X12_isPort yX12_isPort [w_Mo G a0 s0] [.ref (a0 0), .int x1] (some (.int r)) (fun _ => [w_Mo G a0 s0]) := by
  have key : ∀ W0 : List va_W, zj_J l G M_X12_isPort W0 (zj_ret G M_X12_isPort W0 (some (.int r)) (fun _ => [w_Mo G a0 s0])) 0 0 [w_Mo G a0 s0] [some (.ref (a0 0)), some (.int x1)] 0 [] := by
    intro W0
    unfold f_X12_isPort at hf
    obtain ⟨q1, e1, hf⟩ := zbi_of hf
    refine zr_run [(.aload_n 0, 0, 0, 0, .null), (.iload_n 1, 0, 0, 0, .null)] [] (WW' := [w_Mo G a0 s0]) (lv' := [some (.ref (a0 0)), some (.int x1)]) (pc' := 2) (st' := [.int x1, .ref (a0 0)]) (by decide +kernel) rfl rfl ⟨trivial, trivial, trivial⟩ ?_
    refine zr_callV (c_X12_isPlace l G a0 s0 x1 q1 e1) (WW' := fun _ => [w_Mo G a0 s0]) (st := []) (st' := [.int q1]) [0] rfl rfl (fun _ => Nat.le_of_ble_eq_true rfl) (fun _ => rfl) rfl rfl nm_X12_isPlace zw_7_96 zw_7_98 zw_0_70 zw_1_18 zw_7_99 rfl rfl rfl (Nat.le_of_ble_eq_true rfl) ⟨Nat.le_of_ble_eq_true rfl, Nat.le_of_ble_eq_true rfl⟩ (by decide +kernel) (fun _ => ?_)
    refine zr_if_eq (off := 19) (tgt := 24) (by decide +kernel) (by decide) (fun hc => ?_) (fun hc => ?_)
    · have hf := zift hf hc
      refine zr_run [] [0, 1] (WW' := [w_Mo G a0 s0]) (lv' := [none, none]) (pc' := 24) (st' := []) (by decide +kernel) rfl rfl trivial ?_
      exact t_X12_isPort_b24 l G a0 W0 r s0 hf
    · have hf := ziff hf hc
      obtain ⟨h2, hf⟩ := zck_of hf
      refine zr_run [(.aload_n 0, 0, 0, 0, .null), (.getfield 13, 0, 0, 14, .null), (.iconst 4, 0, 0, 0, .int (4 : Int32)), (.iload_n 1, 0, 0, 0, .null), (.iadd, 0, 0, 0, .null), (.iaload, 0, 2, 0, .null), (.iconst 2, 0, 0, 0, .int (2 : Int32))] [] (WW' := [w_Mo G a0 s0]) (lv' := [some (.ref (a0 0)), some (.int x1)]) (pc' := 17) (st' := [.int (2 : Int32), .int ((Mo_now s0) ((4 : Int32) + x1).toNatClampNeg)]) (by decide +kernel) rfl rfl ⟨trivial, ⟨rfl, rfl, zw_6_43⟩, trivial, trivial, trivial, ⟨rfl, rfl, h2⟩, trivial, trivial⟩ ?_
      refine zr_icmp_ne (off := 7) (tgt := 24) (by decide +kernel) (by decide) (fun hc => ?_) (fun hc => ?_)
      · have hf := zift hf hc
        refine zr_run [(.iconst 1, 0, 0, 0, .int (1 : Int32))] [] (WW' := [w_Mo G a0 s0]) (lv' := [some (.ref (a0 0)), some (.int x1)]) (pc' := 21) (st' := [.int (1 : Int32)]) (by decide +kernel) rfl rfl ⟨trivial, trivial⟩ ?_
        refine zr_goto (off := 4) (tgt := 25) (by decide +kernel) (by decide) ?_
        obtain rfl := Option.some.inj hf
        exact zr_zret (by decide) (b0 := fun _ => 0) (by decide +kernel) rfl rfl rfl rfl rfl
      · have hf := ziff hf hc
        refine zr_run [] [0, 1] (WW' := [w_Mo G a0 s0]) (lv' := [none, none]) (pc' := 24) (st' := []) (by decide +kernel) rfl rfl trivial ?_
        exact t_X12_isPort_b24 l G a0 W0 r s0 hf
  exact zj_entry [some (.ref (a0 0)), some (.int x1)] (by decide +kernel) rfl (by decide) (Nat.le_of_ble_eq_true rfl) rfl rfl (key _)
def M_X12_isMan : zj_M := (RX12, cX12_isMan, 2, (some .boolean), { frames := 1, cells := 0, slots := 0, locals := 22 }, false)
theorem nm_X12_isMan : zj_nm yX12_isMan 1 := ⟨by decide +kernel, by decide +kernel, by decide +kernel⟩
def f_X12_isMan  (s0 : MoT) (x1 : Int32) : Option (Int32) := ((f_X12_isIn x1 (0 : Int32) (((Mo_now s0) (2 : Int32).toNatClampNeg) - (1 : Int32))).bind fun q1 => (if zb_bo q1 = true then some q1 else none))
set_option maxRecDepth 100000 in
set_option maxHeartbeats 4000000 in
theorem c_X12_isMan (l : Launch) (G : zj_G) (a0 : Nat → Nat) (s0 : MoT) (x1 : Int32) (r : Int32) (hf : f_X12_isMan s0 x1 = some r) : zj_C l G M_X12_isMan yX12_isMan [w_Mo G a0 s0] [.ref (a0 0), .int x1] (some (.int r)) (fun _ => [w_Mo G a0 s0]) := by
  have key : ∀ W0 : List va_W, zj_J l G M_X12_isMan W0 (zj_ret G M_X12_isMan W0 (some (.int r)) (fun _ => [w_Mo G a0 s0])) 0 0 [w_Mo G a0 s0] [some (.ref (a0 0)), some (.int x1)] 0 [] := by
    intro W0
    unfold f_X12_isMan at hf
    obtain ⟨q1, e1, hf⟩ := zbi_of hf
    refine zr_run [(.iload_n 1, 0, 0, 0, .null), (.iconst 0, 0, 0, 0, .int (0 : Int32)), (.aload_n 0, 0, 0, 0, .null), (.getfield 13, 0, 0, 14, .null), (.iconst 2, 0, 0, 0, .int (2 : Int32)), (.iaload, 0, 2, 0, .null), (.iconst 1, 0, 0, 0, .int (1 : Int32)), (.isub, 0, 0, 0, .null)] [] (WW' := [w_Mo G a0 s0]) (lv' := [some (.ref (a0 0)), some (.int x1)]) (pc' := 10) (st' := [.int (((Mo_now s0) (2 : Int32).toNatClampNeg) - (1 : Int32)), .int (0 : Int32), .int x1]) (by decide +kernel) rfl rfl ⟨trivial, trivial, trivial, ⟨rfl, rfl, zw_6_43⟩, trivial, ⟨rfl, rfl, (by decide)⟩, trivial, trivial, trivial⟩ ?_
    refine zr_callS (c_X12_isIn l G x1 (0 : Int32) (((Mo_now s0) (2 : Int32).toNatClampNeg) - (1 : Int32)) q1 e1) (WW' := fun _ => [w_Mo G a0 s0]) (st := []) (st' := [.int q1]) [] rfl rfl (fun _ => Nat.le_of_ble_eq_true rfl) (fun _ => rfl) rfl rfl nm_X12_isIn zw_7_38 zw_7_39 zw_1_18 zw_7_40 rfl (Nat.le_of_ble_eq_true rfl) ⟨Nat.le_of_ble_eq_true rfl, Nat.le_of_ble_eq_true rfl⟩ (by decide +kernel) (fun _ => ?_)
    obtain ⟨h2, hf⟩ := zck_of hf
    obtain rfl := Option.some.inj hf
    exact zr_zret h2 (b0 := fun _ => 0) (by decide +kernel) rfl rfl rfl rfl rfl
  exact zj_entry [some (.ref (a0 0)), some (.int x1)] (by decide +kernel) rfl (by decide) (Nat.le_of_ble_eq_true rfl) rfl rfl (key _)
def M_X12_farOf : zj_M := (RX12, cX12_farOf, 3, (some .int), { frames := 0, cells := 0, slots := 0, locals := 0 }, false)
theorem nm_X12_farOf : zj_nm yX12_farOf 2 := ⟨by decide +kernel, by decide +kernel, by decide +kernel⟩
def f_X12_farOf  (s0 : MoT) (x1 : Int32) (x2 : Int32) : Option (Int32) := (if zb_in (((243 : Int32) + ((10 : Int32) * x1)) + x2) 758 = true then some ((Mo_now s0) (((243 : Int32) + ((10 : Int32) * x1)) + x2).toNatClampNeg) else none)
set_option maxRecDepth 100000 in
set_option maxHeartbeats 4000000 in
theorem c_X12_farOf (l : Launch) (G : zj_G) (a0 : Nat → Nat) (s0 : MoT) (x1 : Int32) (x2 : Int32) (r : Int32) (hf : f_X12_farOf s0 x1 x2 = some r) : zj_C l G M_X12_farOf yX12_farOf [w_Mo G a0 s0] [.ref (a0 0), .int x1, .int x2] (some (.int r)) (fun _ => [w_Mo G a0 s0]) := by
  have key : ∀ W0 : List va_W, zj_J l G M_X12_farOf W0 (zj_ret G M_X12_farOf W0 (some (.int r)) (fun _ => [w_Mo G a0 s0])) 0 0 [w_Mo G a0 s0] [some (.ref (a0 0)), some (.int x1), some (.int x2)] 0 [] := by
    intro W0
    unfold f_X12_farOf at hf
    obtain ⟨h1, hf⟩ := zck_of hf
    refine zr_run [(.aload_n 0, 0, 0, 0, .null), (.getfield 13, 0, 0, 14, .null), (.sipush 243, 0, 0, 0, .int (243 : Int32)), (.bipush 10, 0, 0, 0, .int (10 : Int32)), (.iload_n 1, 0, 0, 0, .null), (.imul, 0, 0, 0, .null), (.iadd, 0, 0, 0, .null), (.iload_n 2, 0, 0, 0, .null), (.iadd, 0, 0, 0, .null), (.iaload, 0, 2, 0, .null)] [] (WW' := [w_Mo G a0 s0]) (lv' := [some (.ref (a0 0)), some (.int x1), some (.int x2)]) (pc' := 15) (st' := [.int ((Mo_now s0) (((243 : Int32) + ((10 : Int32) * x1)) + x2).toNatClampNeg)]) (by decide +kernel) rfl rfl ⟨trivial, ⟨rfl, rfl, zw_6_43⟩, trivial, trivial, trivial, trivial, trivial, trivial, trivial, ⟨rfl, rfl, h1⟩, trivial⟩ ?_
    obtain rfl := Option.some.inj hf
    exact zr_iret (b0 := fun _ => 0) (by decide +kernel) rfl rfl rfl rfl rfl
  exact zj_entry [some (.ref (a0 0)), some (.int x1), some (.int x2)] (by decide +kernel) rfl (by decide) (Nat.le_of_ble_eq_true rfl) rfl rfl (key _)
def M_X12_nextOf : zj_M := (RX12, cX12_nextOf, 3, (some .int), { frames := 0, cells := 0, slots := 0, locals := 0 }, false)
theorem nm_X12_nextOf : zj_nm yX12_nextOf 2 := ⟨by decide +kernel, by decide +kernel, by decide +kernel⟩
def f_X12_nextOf  (s0 : MoT) (x1 : Int32) (x2 : Int32) : Option (Int32) := (if zb_in (((343 : Int32) + ((10 : Int32) * x1)) + x2) 758 = true then some ((Mo_now s0) (((343 : Int32) + ((10 : Int32) * x1)) + x2).toNatClampNeg) else none)
set_option maxRecDepth 100000 in
set_option maxHeartbeats 4000000 in
theorem c_X12_nextOf (l : Launch) (G : zj_G) (a0 : Nat → Nat) (s0 : MoT) (x1 : Int32) (x2 : Int32) (r : Int32) (hf : f_X12_nextOf s0 x1 x2 = some r) : zj_C l G M_X12_nextOf yX12_nextOf [w_Mo G a0 s0] [.ref (a0 0), .int x1, .int x2] (some (.int r)) (fun _ => [w_Mo G a0 s0]) := by
  have key : ∀ W0 : List va_W, zj_J l G M_X12_nextOf W0 (zj_ret G M_X12_nextOf W0 (some (.int r)) (fun _ => [w_Mo G a0 s0])) 0 0 [w_Mo G a0 s0] [some (.ref (a0 0)), some (.int x1), some (.int x2)] 0 [] := by
    intro W0
    unfold f_X12_nextOf at hf
    obtain ⟨h1, hf⟩ := zck_of hf
    refine zr_run [(.aload_n 0, 0, 0, 0, .null), (.getfield 13, 0, 0, 14, .null), (.sipush 343, 0, 0, 0, .int (343 : Int32)), (.bipush 10, 0, 0, 0, .int (10 : Int32)), (.iload_n 1, 0, 0, 0, .null), (.imul, 0, 0, 0, .null), (.iadd, 0, 0, 0, .null), (.iload_n 2, 0, 0, 0, .null), (.iadd, 0, 0, 0, .null), (.iaload, 0, 2, 0, .null)] [] (WW' := [w_Mo G a0 s0]) (lv' := [some (.ref (a0 0)), some (.int x1), some (.int x2)]) (pc' := 15) (st' := [.int ((Mo_now s0) (((343 : Int32) + ((10 : Int32) * x1)) + x2).toNatClampNeg)]) (by decide +kernel) rfl rfl ⟨trivial, ⟨rfl, rfl, zw_6_43⟩, trivial, trivial, trivial, trivial, trivial, trivial, trivial, ⟨rfl, rfl, h1⟩, trivial⟩ ?_
    obtain rfl := Option.some.inj hf
    exact zr_iret (b0 := fun _ => 0) (by decide +kernel) rfl rfl rfl rfl rfl
  exact zj_entry [some (.ref (a0 0)), some (.int x1), some (.int x2)] (by decide +kernel) rfl (by decide) (Nat.le_of_ble_eq_true rfl) rfl rfl (key _)
def M_X12_roadOf : zj_M := (RX12, cX12_roadOf, 3, (some .int), { frames := 0, cells := 0, slots := 0, locals := 0 }, false)
theorem nm_X12_roadOf : zj_nm yX12_roadOf 2 := ⟨by decide +kernel, by decide +kernel, by decide +kernel⟩
def f_X12_roadOf  (s0 : MoT) (x1 : Int32) (x2 : Int32) : Option (Int32) := (if zb_in (((44 : Int32) + ((10 : Int32) * x1)) + x2) 758 = true then some (((Mo_now s0) (((44 : Int32) + ((10 : Int32) * x1)) + x2).toNatClampNeg) - (1 : Int32)) else none)
set_option maxRecDepth 100000 in
set_option maxHeartbeats 4000000 in
theorem c_X12_roadOf (l : Launch) (G : zj_G) (a0 : Nat → Nat) (s0 : MoT) (x1 : Int32) (x2 : Int32) (r : Int32) (hf : f_X12_roadOf s0 x1 x2 = some r) : zj_C l G M_X12_roadOf yX12_roadOf [w_Mo G a0 s0] [.ref (a0 0), .int x1, .int x2] (some (.int r)) (fun _ => [w_Mo G a0 s0]) := by
  have key : ∀ W0 : List va_W, zj_J l G M_X12_roadOf W0 (zj_ret G M_X12_roadOf W0 (some (.int r)) (fun _ => [w_Mo G a0 s0])) 0 0 [w_Mo G a0 s0] [some (.ref (a0 0)), some (.int x1), some (.int x2)] 0 [] := by
    intro W0
    unfold f_X12_roadOf at hf
    obtain ⟨h1, hf⟩ := zck_of hf
    refine zr_run [(.aload_n 0, 0, 0, 0, .null), (.getfield 13, 0, 0, 14, .null), (.bipush 44, 0, 0, 0, .int (44 : Int32)), (.bipush 10, 0, 0, 0, .int (10 : Int32)), (.iload_n 1, 0, 0, 0, .null), (.imul, 0, 0, 0, .null), (.iadd, 0, 0, 0, .null), (.iload_n 2, 0, 0, 0, .null), (.iadd, 0, 0, 0, .null), (.iaload, 0, 2, 0, .null), (.iconst 1, 0, 0, 0, .int (1 : Int32)), (.isub, 0, 0, 0, .null)] [] (WW' := [w_Mo G a0 s0]) (lv' := [some (.ref (a0 0)), some (.int x1), some (.int x2)]) (pc' := 16) (st' := [.int (((Mo_now s0) (((44 : Int32) + ((10 : Int32) * x1)) + x2).toNatClampNeg) - (1 : Int32))]) (by decide +kernel) rfl rfl ⟨trivial, ⟨rfl, rfl, zw_6_43⟩, trivial, trivial, trivial, trivial, trivial, trivial, trivial, ⟨rfl, rfl, h1⟩, trivial, trivial, trivial⟩ ?_
    obtain rfl := Option.some.inj hf
    exact zr_iret (b0 := fun _ => 0) (by decide +kernel) rfl rfl rfl rfl rfl
  exact zj_entry [some (.ref (a0 0)), some (.int x1), some (.int x2)] (by decide +kernel) rfl (by decide) (Nat.le_of_ble_eq_true rfl) rfl rfl (key _)
def M_X12_layThere : zj_M := (RX12, cX12_layThere, 7, none, { frames := 1, cells := 0, slots := 0, locals := 22 }, false)
theorem nm_X12_layThere : zj_nm yX12_layThere 3 := ⟨by decide +kernel, by decide +kernel, by decide +kernel⟩
def f_X12_layThere_H11  (s0 : MoT) (k11 : MoT → Int32 → Int32 → Int32 → Option (MoT)) (x2 : Int32) (x4 : Int32) (x5 : Int32) : Option (MoT) := (if 0 < x5 then ((f_X12_nextOf s0 x4 x2).bind fun q2 => ((f_X12_roadOf s0 x4 q2).bind fun q3 => (zlet (Mo_s_roadThere s0 q3) fun y4 => (if zb_in ((144 : Int32) + (Mo_roadThere y4)) 758 = true then k11 y4 x2 q2 (x5 - ((Mo_now y4) ((144 : Int32) + (Mo_roadThere y4)).toNatClampNeg)) else none)))) else (if x5 = 0 then (zlet (Mo_s_placeThere s0 x4) fun y6 => some y6) else (zlet (Mo_s_placeThere s0 (-1 : Int32)) fun y7 => some y7)))
def f_X12_layThere_L11    : Nat → MoT → Int32 → Int32 → Int32 → Option (MoT)
  | 0 => fun _ _ _ _ => none
  | n + 1 => fun s0 x2 x4 x5 => f_X12_layThere_H11 s0 (f_X12_layThere_L11  n) x2 x4 x5
def f_X12_layThere  (s0 : MoT) (x1 : Int32) (x2 : Int32) (x3 : Int32) : Option (MoT) := (zlet (Mo_s_roadThere s0 (-1 : Int32)) fun y1 => f_X12_layThere_L11 zFU y1 x2 x1 x3)
set_option maxRecDepth 100000 in
set_option maxHeartbeats 4000000 in
theorem t_X12_layThere_H11 (l : Launch) (G : zj_G) (a0 : Nat → Nat) (W0 : List va_W) (r : MoT) (s0 : MoT) (k11 : MoT → Int32 → Int32 → Int32 → Option (MoT)) (hk11 : ∀ (s0 : MoT) (x2 : Int32) (x4 : Int32) (x5 : Int32), k11 s0 x2 x4 x5 = some r → zj_J l G M_X12_layThere W0 (zj_ret G M_X12_layThere W0 (none) (fun _ => [w_Mo G a0 r])) 0 0 [w_Mo G a0 s0] [some (.ref (a0 0)), none, some (.int x2), none, some (.int x4), some (.int x5), none] 11 []) (x2 : Int32) (x4 : Int32) (x5 : Int32) (hf : f_X12_layThere_H11 s0 k11 x2 x4 x5 = some r) : zj_J l G M_X12_layThere W0 (zj_ret G M_X12_layThere W0 (none) (fun _ => [w_Mo G a0 r])) 0 0 [w_Mo G a0 s0] [some (.ref (a0 0)), none, some (.int x2), none, some (.int x4), some (.int x5), none] 11 [] := by
  unfold f_X12_layThere_H11 at hf
  refine zr_run [(.iload 5, 0, 0, 0, .null)] [] (WW' := [w_Mo G a0 s0]) (lv' := [some (.ref (a0 0)), none, some (.int x2), none, some (.int x4), some (.int x5), none]) (pc' := 13) (st' := [.int x5]) (by decide +kernel) rfl rfl ⟨trivial, trivial⟩ ?_
  refine zr_if_le (off := 49) (tgt := 62) (by decide +kernel) (by decide) (fun hc => ?_) (fun hc => ?_)
  · have hf := zift hf hc
    obtain ⟨q2, e2, hf⟩ := zbi_of hf
    refine zr_run [(.aload_n 0, 0, 0, 0, .null), (.iload 4, 0, 0, 0, .null), (.iload_n 2, 0, 0, 0, .null)] [] (WW' := [w_Mo G a0 s0]) (lv' := [some (.ref (a0 0)), none, some (.int x2), none, some (.int x4), some (.int x5), none]) (pc' := 20) (st' := [.int x2, .int x4, .ref (a0 0)]) (by decide +kernel) rfl rfl ⟨trivial, trivial, trivial, trivial⟩ ?_
    refine zr_callV (c_X12_nextOf l G a0 s0 x4 x2 q2 e2) (WW' := fun _ => [w_Mo G a0 s0]) (st := []) (st' := [.int q2]) [0] rfl rfl (fun _ => Nat.le_of_ble_eq_true rfl) (fun _ => rfl) rfl rfl nm_X12_nextOf zw_7_112 zw_7_114 zw_0_74 zw_1_18 zw_7_115 rfl rfl rfl (Nat.le_of_ble_eq_true rfl) ⟨Nat.le_of_ble_eq_true rfl, Nat.le_of_ble_eq_true rfl⟩ (by decide +kernel) (fun _ => ?_)
    obtain ⟨q3, e3, hf⟩ := zbi_of hf
    refine zr_run [(.istore 6, 0, 0, 0, .null), (.aload_n 0, 0, 0, 0, .null), (.aload_n 0, 0, 0, 0, .null), (.iload 4, 0, 0, 0, .null), (.iload 6, 0, 0, 0, .null)] [] (WW' := [w_Mo G a0 s0]) (lv' := [some (.ref (a0 0)), none, some (.int x2), none, some (.int x4), some (.int x5), some (.int q2)]) (pc' := 31) (st' := [.int q2, .int x4, .ref (a0 0), .ref (a0 0)]) (by decide +kernel) rfl rfl ⟨trivial, trivial, trivial, trivial, trivial, trivial⟩ ?_
    refine zr_callV (c_X12_roadOf l G a0 s0 x4 q2 q3 e3) (WW' := fun _ => [w_Mo G a0 s0]) (st := [.ref (a0 0)]) (st' := [.int q3, .ref (a0 0)]) [0] rfl rfl (fun _ => Nat.le_of_ble_eq_true rfl) (fun _ => rfl) rfl rfl nm_X12_roadOf zw_7_116 zw_7_118 zw_0_75 zw_1_18 zw_7_119 rfl rfl rfl (Nat.le_of_ble_eq_true rfl) ⟨Nat.le_of_ble_eq_true rfl, Nat.le_of_ble_eq_true rfl⟩ (by decide +kernel) (fun _ => ?_)
    obtain ⟨y4, e4, hf⟩ := zlet_of hf
    refine zr_run [(.putfield 247, 0, 0, 24, .null)] [] (WW' := [w_Mo G a0 (Mo_s_roadThere s0 q3)]) (lv' := [some (.ref (a0 0)), none, some (.int x2), none, some (.int x4), some (.int x5), some (.int q2)]) (pc' := 37) (st' := []) (by decide +kernel) rfl rfl ⟨⟨rfl, rfl, rfl, trivial, rfl, rfl, zw_6_53⟩, trivial⟩ ?_
    refine zr_eq (WW2 := [w_Mo G a0 y4]) (lv2 := [some (.ref (a0 0)), none, some (.int x2), none, some (.int x4), some (.int x5), some (.int q2)]) (st2 := []) (by rw [e4]) rfl rfl ?_
    obtain ⟨h5, hf⟩ := zck_of hf
    refine zr_run [(.iload 5, 0, 0, 0, .null), (.aload_n 0, 0, 0, 0, .null), (.getfield 13, 0, 0, 14, .null), (.sipush 144, 0, 0, 0, .int (144 : Int32)), (.aload_n 0, 0, 0, 0, .null), (.getfield 247, 0, 0, 24, .null), (.iadd, 0, 0, 0, .null), (.iaload, 0, 2, 0, .null), (.isub, 0, 0, 0, .null), (.istore 5, 0, 0, 0, .null), (.iload 6, 0, 0, 0, .null), (.istore 4, 0, 0, 0, .null)] [] (WW' := [w_Mo G a0 y4]) (lv' := [some (.ref (a0 0)), none, some (.int x2), none, some (.int q2), some (.int (x5 - ((Mo_now y4) ((144 : Int32) + (Mo_roadThere y4)).toNatClampNeg))), some (.int q2)]) (pc' := 59) (st' := []) (by decide +kernel) rfl rfl ⟨trivial, trivial, ⟨rfl, rfl, zw_6_43⟩, trivial, trivial, ⟨rfl, rfl, zw_6_53⟩, trivial, ⟨rfl, rfl, h5⟩, trivial, trivial, trivial, trivial, trivial⟩ ?_
    refine zr_run [] [6] (WW' := [w_Mo G a0 y4]) (lv' := [some (.ref (a0 0)), none, some (.int x2), none, some (.int q2), some (.int (x5 - ((Mo_now y4) ((144 : Int32) + (Mo_roadThere y4)).toNatClampNeg))), none]) (pc' := 59) (st' := []) (by decide +kernel) rfl rfl trivial ?_
    refine zr_goto (off := -48) (tgt := 11) (by decide +kernel) (by decide) ?_
    exact hk11 y4 x2 q2 (x5 - ((Mo_now y4) ((144 : Int32) + (Mo_roadThere y4)).toNatClampNeg)) hf
  · have hf := ziff hf hc
    refine zr_run [(.aload_n 0, 0, 0, 0, .null), (.iload 5, 0, 0, 0, .null)] [] (WW' := [w_Mo G a0 s0]) (lv' := [some (.ref (a0 0)), none, some (.int x2), none, some (.int x4), some (.int x5), none]) (pc' := 65) (st' := [.int x5, .ref (a0 0)]) (by decide +kernel) rfl rfl ⟨trivial, trivial, trivial⟩ ?_
    refine zr_if_ne (off := 8) (tgt := 73) (by decide +kernel) (by decide) (fun hc => ?_) (fun hc => ?_)
    · have hf := zift hf hc
      refine zr_run [(.iload 4, 0, 0, 0, .null)] [] (WW' := [w_Mo G a0 s0]) (lv' := [some (.ref (a0 0)), none, some (.int x2), none, some (.int x4), some (.int x5), none]) (pc' := 70) (st' := [.int x4, .ref (a0 0)]) (by decide +kernel) rfl rfl ⟨trivial, trivial⟩ ?_
      refine zr_goto (off := 4) (tgt := 74) (by decide +kernel) (by decide) ?_
      obtain ⟨y6, e6, hf⟩ := zlet_of hf
      refine zr_run [(.putfield 256, 0, 0, 25, .null)] [] (WW' := [w_Mo G a0 (Mo_s_placeThere s0 x4)]) (lv' := [some (.ref (a0 0)), none, some (.int x2), none, some (.int x4), some (.int x5), none]) (pc' := 77) (st' := []) (by decide +kernel) rfl rfl ⟨⟨rfl, rfl, rfl, trivial, rfl, rfl, zw_6_54⟩, trivial⟩ ?_
      refine zr_eq (WW2 := [w_Mo G a0 y6]) (lv2 := [some (.ref (a0 0)), none, some (.int x2), none, some (.int x4), some (.int x5), none]) (st2 := []) (by rw [e6]) rfl rfl ?_
      obtain rfl := Option.some.inj hf
      exact zr_vret (b0 := fun _ => 0) (by decide +kernel) rfl rfl rfl rfl rfl
    · have hf := ziff hf hc
      obtain ⟨y7, e7, hf⟩ := zlet_of hf
      refine zr_run [(.iconst (-1), 0, 0, 0, .int (-1 : Int32)), (.putfield 256, 0, 0, 25, .null)] [] (WW' := [w_Mo G a0 (Mo_s_placeThere s0 (-1 : Int32))]) (lv' := [some (.ref (a0 0)), none, some (.int x2), none, some (.int x4), some (.int x5), none]) (pc' := 77) (st' := []) (by decide +kernel) rfl rfl ⟨trivial, ⟨rfl, rfl, rfl, trivial, rfl, rfl, zw_6_54⟩, trivial⟩ ?_
      refine zr_eq (WW2 := [w_Mo G a0 y7]) (lv2 := [some (.ref (a0 0)), none, some (.int x2), none, some (.int x4), some (.int x5), none]) (st2 := []) (by rw [e7]) rfl rfl ?_
      obtain rfl := Option.some.inj hf
      exact zr_vret (b0 := fun _ => 0) (by decide +kernel) rfl rfl rfl rfl rfl
theorem t_X12_layThere_L11 (l : Launch) (G : zj_G) (a0 : Nat → Nat) (W0 : List va_W) (r : MoT)    : ∀ (n : Nat) (s0 : MoT) (x2 : Int32) (x4 : Int32) (x5 : Int32), f_X12_layThere_L11 n s0 x2 x4 x5 = some r → zj_J l G M_X12_layThere W0 (zj_ret G M_X12_layThere W0 (none) (fun _ => [w_Mo G a0 r])) 0 0 [w_Mo G a0 s0] [some (.ref (a0 0)), none, some (.int x2), none, some (.int x4), some (.int x5), none] 11 [] := by
  intro n
  induction n with
  | zero => intro s0 x2 x4 x5 hf; exact nomatch (show none = some r from hf)
  | succ n ih => intro s0 x2 x4 x5 hf; exact t_X12_layThere_H11 l G a0 W0 r s0  (f_X12_layThere_L11 n)  ih x2 x4 x5  hf
set_option maxRecDepth 100000 in
set_option maxHeartbeats 4000000 in
theorem c_X12_layThere (l : Launch) (G : zj_G) (a0 : Nat → Nat) (s0 : MoT) (x1 : Int32) (x2 : Int32) (x3 : Int32) (r : MoT) (hf : f_X12_layThere s0 x1 x2 x3 = some r) : zj_C l G M_X12_layThere yX12_layThere [w_Mo G a0 s0] [.ref (a0 0), .int x1, .int x2, .int x3] (none) (fun _ => [w_Mo G a0 r]) := by
  have key : ∀ W0 : List va_W, zj_J l G M_X12_layThere W0 (zj_ret G M_X12_layThere W0 (none) (fun _ => [w_Mo G a0 r])) 0 0 [w_Mo G a0 s0] [some (.ref (a0 0)), some (.int x1), some (.int x2), some (.int x3), none, none, none] 0 [] := by
    intro W0
    unfold f_X12_layThere at hf
    obtain ⟨y1, e1, hf⟩ := zlet_of hf
    refine zr_run [(.iload_n 1, 0, 0, 0, .null), (.istore 4, 0, 0, 0, .null), (.iload_n 3, 0, 0, 0, .null), (.istore 5, 0, 0, 0, .null), (.aload_n 0, 0, 0, 0, .null), (.iconst (-1), 0, 0, 0, .int (-1 : Int32)), (.putfield 247, 0, 0, 24, .null)] [] (WW' := [w_Mo G a0 (Mo_s_roadThere s0 (-1 : Int32))]) (lv' := [some (.ref (a0 0)), some (.int x1), some (.int x2), some (.int x3), some (.int x1), some (.int x3), none]) (pc' := 11) (st' := []) (by decide +kernel) rfl rfl ⟨trivial, trivial, trivial, trivial, trivial, trivial, ⟨rfl, rfl, rfl, trivial, rfl, rfl, zw_6_53⟩, trivial⟩ ?_
    refine zr_eq (WW2 := [w_Mo G a0 y1]) (lv2 := [some (.ref (a0 0)), some (.int x1), some (.int x2), some (.int x3), some (.int x1), some (.int x3), none]) (st2 := []) (by rw [e1]) rfl rfl ?_
    refine zr_run [] [1, 3] (WW' := [w_Mo G a0 y1]) (lv' := [some (.ref (a0 0)), none, some (.int x2), none, some (.int x1), some (.int x3), none]) (pc' := 11) (st' := []) (by decide +kernel) rfl rfl trivial ?_
    exact t_X12_layThere_L11 l G a0 W0 r zFU y1 x2 x1 x3 hf
  exact zj_entry [some (.ref (a0 0)), some (.int x1), some (.int x2), some (.int x3), none, none, none] (by decide +kernel) rfl (by decide) (Nat.le_of_ble_eq_true rfl) rfl rfl (key _)
def M_X12_layThere_ : zj_M := (RX12, cX12_layThere_, 3, none, { frames := 2, cells := 0, slots := 0, locals := 48 }, false)
theorem nm_X12_layThere_ : zj_nm yX12_layThere_ 2 := ⟨by decide +kernel, by decide +kernel, by decide +kernel⟩
def f_X12_layThere_  (s0 : MoT) (x1 : Int32) (x2 : Int32) : Option (MoT) := (if zb_in ((468 : Int32) + x1) 758 = true then (if zb_in ((462 : Int32) + x1) 758 = true then ((f_X12_layThere s0 ((Mo_now s0) ((468 : Int32) + x1).toNatClampNeg) ((Mo_now s0) ((462 : Int32) + x1).toNatClampNeg) x2).bind fun q3 => some q3) else none) else none)
set_option maxRecDepth 100000 in
set_option maxHeartbeats 4000000 in
theorem c_X12_layThere_ (l : Launch) (G : zj_G) (a0 : Nat → Nat) (s0 : MoT) (x1 : Int32) (x2 : Int32) (r : MoT) (hf : f_X12_layThere_ s0 x1 x2 = some r) : zj_C l G M_X12_layThere_ yX12_layThere_ [w_Mo G a0 s0] [.ref (a0 0), .int x1, .int x2] (none) (fun _ => [w_Mo G a0 r]) := by
  have key : ∀ W0 : List va_W, zj_J l G M_X12_layThere_ W0 (zj_ret G M_X12_layThere_ W0 (none) (fun _ => [w_Mo G a0 r])) 0 0 [w_Mo G a0 s0] [some (.ref (a0 0)), some (.int x1), some (.int x2)] 0 [] := by
    intro W0
    unfold f_X12_layThere_ at hf
    obtain ⟨h1, hf⟩ := zck_of hf
    obtain ⟨h2, hf⟩ := zck_of hf
    obtain ⟨q3, e3, hf⟩ := zbi_of hf
    refine zr_run [(.aload_n 0, 0, 0, 0, .null), (.aload_n 0, 0, 0, 0, .null), (.getfield 13, 0, 0, 14, .null), (.sipush 468, 0, 0, 0, .int (468 : Int32)), (.iload_n 1, 0, 0, 0, .null), (.iadd, 0, 0, 0, .null), (.iaload, 0, 2, 0, .null), (.aload_n 0, 0, 0, 0, .null), (.getfield 13, 0, 0, 14, .null), (.sipush 462, 0, 0, 0, .int (462 : Int32)), (.iload_n 1, 0, 0, 0, .null), (.iadd, 0, 0, 0, .null), (.iaload, 0, 2, 0, .null), (.iload_n 2, 0, 0, 0, .null)] [] (WW' := [w_Mo G a0 s0]) (lv' := [some (.ref (a0 0)), some (.int x1), some (.int x2)]) (pc' := 22) (st' := [.int x2, .int ((Mo_now s0) ((462 : Int32) + x1).toNatClampNeg), .int ((Mo_now s0) ((468 : Int32) + x1).toNatClampNeg), .ref (a0 0)]) (by decide +kernel) rfl rfl ⟨trivial, trivial, ⟨rfl, rfl, zw_6_43⟩, trivial, trivial, trivial, ⟨rfl, rfl, h1⟩, trivial, ⟨rfl, rfl, zw_6_43⟩, trivial, trivial, trivial, ⟨rfl, rfl, h2⟩, trivial, trivial⟩ ?_
    refine zr_callV (c_X12_layThere l G a0 s0 ((Mo_now s0) ((468 : Int32) + x1).toNatClampNeg) ((Mo_now s0) ((462 : Int32) + x1).toNatClampNeg) x2 q3 e3) (WW' := fun _ => [w_Mo G a0 q3]) (st := []) (st' := []) [0] rfl rfl (fun _ => Nat.le_of_ble_eq_true rfl) (fun _ => rfl) rfl rfl nm_X12_layThere zw_7_108 zw_7_110 zw_0_73 zw_1_18 zw_7_111 rfl rfl rfl (Nat.le_of_ble_eq_true rfl) ⟨Nat.le_of_ble_eq_true rfl, Nat.le_of_ble_eq_true rfl⟩ (by decide +kernel) (fun _ => ?_)
    obtain rfl := Option.some.inj hf
    exact zr_vret (b0 := fun _ => 0) (by decide +kernel) rfl rfl rfl rfl rfl
  exact zj_entry [some (.ref (a0 0)), some (.int x1), some (.int x2)] (by decide +kernel) rfl (by decide) (Nat.le_of_ble_eq_true rfl) rfl rfl (key _)
def M_X12_placeOf : zj_M := (RX12, cX12_placeOf, 2, (some .int), { frames := 3, cells := 0, slots := 0, locals := 70 }, false)
theorem nm_X12_placeOf : zj_nm yX12_placeOf 1 := ⟨by decide +kernel, by decide +kernel, by decide +kernel⟩
def f_X12_placeOf  (s0 : MoT) (x1 : Int32) : Option (Int32 × MoT) := (if zb_in ((444 : Int32) + x1) 758 = true then (if ((Mo_now s0) ((444 : Int32) + x1).toNatClampNeg) = 0 then (if zb_in ((468 : Int32) + x1) 758 = true then some (((Mo_now s0) ((468 : Int32) + x1).toNatClampNeg), s0) else none) else (if zb_in ((444 : Int32) + x1) 758 = true then (if ((Mo_now s0) ((444 : Int32) + x1).toNatClampNeg) = (2 : Int32) then (if zb_in ((462 : Int32) + x1) 758 = true then some (((Mo_now s0) ((462 : Int32) + x1).toNatClampNeg), s0) else none) else (if zb_in ((444 : Int32) + x1) 758 = true then (if ((Mo_now s0) ((444 : Int32) + x1).toNatClampNeg) = (1 : Int32) then (if zb_in ((474 : Int32) + x1) 758 = true then ((f_X12_layThere_ s0 x1 ((Mo_now s0) ((474 : Int32) + x1).toNatClampNeg)).bind fun q7 => some ((Mo_placeThere q7), q7)) else none) else some ((-1 : Int32), s0)) else none)) else none)) else none)
set_option maxRecDepth 100000 in
set_option maxHeartbeats 4000000 in
theorem c_X12_placeOf (l : Launch) (G : zj_G) (a0 : Nat → Nat) (s0 : MoT) (x1 : Int32) (r : Int32 × MoT) (hf : f_X12_placeOf s0 x1 = some r) : zj_C l G M_X12_placeOf yX12_placeOf [w_Mo G a0 s0] [.ref (a0 0), .int x1] (some (.int r.1)) (fun _ => [w_Mo G a0 r.2]) := by
  have key : ∀ W0 : List va_W, zj_J l G M_X12_placeOf W0 (zj_ret G M_X12_placeOf W0 (some (.int r.1)) (fun _ => [w_Mo G a0 r.2])) 0 0 [w_Mo G a0 s0] [some (.ref (a0 0)), some (.int x1)] 0 [] := by
    intro W0
    unfold f_X12_placeOf at hf
    obtain ⟨h1, hf⟩ := zck_of hf
    refine zr_run [(.aload_n 0, 0, 0, 0, .null), (.getfield 13, 0, 0, 14, .null), (.sipush 444, 0, 0, 0, .int (444 : Int32)), (.iload_n 1, 0, 0, 0, .null), (.iadd, 0, 0, 0, .null), (.iaload, 0, 2, 0, .null)] [] (WW' := [w_Mo G a0 s0]) (lv' := [some (.ref (a0 0)), some (.int x1)]) (pc' := 10) (st' := [.int ((Mo_now s0) ((444 : Int32) + x1).toNatClampNeg)]) (by decide +kernel) rfl rfl ⟨trivial, ⟨rfl, rfl, zw_6_43⟩, trivial, trivial, trivial, ⟨rfl, rfl, h1⟩, trivial⟩ ?_
    refine zr_if_ne (off := 14) (tgt := 24) (by decide +kernel) (by decide) (fun hc => ?_) (fun hc => ?_)
    · have hf := zift hf hc
      obtain ⟨h2, hf⟩ := zck_of hf
      refine zr_run [(.aload_n 0, 0, 0, 0, .null), (.getfield 13, 0, 0, 14, .null), (.sipush 468, 0, 0, 0, .int (468 : Int32)), (.iload_n 1, 0, 0, 0, .null), (.iadd, 0, 0, 0, .null), (.iaload, 0, 2, 0, .null)] [] (WW' := [w_Mo G a0 s0]) (lv' := [some (.ref (a0 0)), some (.int x1)]) (pc' := 23) (st' := [.int ((Mo_now s0) ((468 : Int32) + x1).toNatClampNeg)]) (by decide +kernel) rfl rfl ⟨trivial, ⟨rfl, rfl, zw_6_43⟩, trivial, trivial, trivial, ⟨rfl, rfl, h2⟩, trivial⟩ ?_
      obtain rfl := Option.some.inj hf
      exact zr_iret (b0 := fun _ => 0) (by decide +kernel) rfl rfl rfl rfl rfl
    · have hf := ziff hf hc
      obtain ⟨h3, hf⟩ := zck_of hf
      refine zr_run [(.aload_n 0, 0, 0, 0, .null), (.getfield 13, 0, 0, 14, .null), (.sipush 444, 0, 0, 0, .int (444 : Int32)), (.iload_n 1, 0, 0, 0, .null), (.iadd, 0, 0, 0, .null), (.iaload, 0, 2, 0, .null), (.iconst 2, 0, 0, 0, .int (2 : Int32))] [] (WW' := [w_Mo G a0 s0]) (lv' := [some (.ref (a0 0)), some (.int x1)]) (pc' := 35) (st' := [.int (2 : Int32), .int ((Mo_now s0) ((444 : Int32) + x1).toNatClampNeg)]) (by decide +kernel) rfl rfl ⟨trivial, ⟨rfl, rfl, zw_6_43⟩, trivial, trivial, trivial, ⟨rfl, rfl, h3⟩, trivial, trivial⟩ ?_
      refine zr_icmp_ne (off := 14) (tgt := 49) (by decide +kernel) (by decide) (fun hc => ?_) (fun hc => ?_)
      · have hf := zift hf hc
        obtain ⟨h4, hf⟩ := zck_of hf
        refine zr_run [(.aload_n 0, 0, 0, 0, .null), (.getfield 13, 0, 0, 14, .null), (.sipush 462, 0, 0, 0, .int (462 : Int32)), (.iload_n 1, 0, 0, 0, .null), (.iadd, 0, 0, 0, .null), (.iaload, 0, 2, 0, .null)] [] (WW' := [w_Mo G a0 s0]) (lv' := [some (.ref (a0 0)), some (.int x1)]) (pc' := 48) (st' := [.int ((Mo_now s0) ((462 : Int32) + x1).toNatClampNeg)]) (by decide +kernel) rfl rfl ⟨trivial, ⟨rfl, rfl, zw_6_43⟩, trivial, trivial, trivial, ⟨rfl, rfl, h4⟩, trivial⟩ ?_
        obtain rfl := Option.some.inj hf
        exact zr_iret (b0 := fun _ => 0) (by decide +kernel) rfl rfl rfl rfl rfl
      · have hf := ziff hf hc
        obtain ⟨h5, hf⟩ := zck_of hf
        refine zr_run [(.aload_n 0, 0, 0, 0, .null), (.getfield 13, 0, 0, 14, .null), (.sipush 444, 0, 0, 0, .int (444 : Int32)), (.iload_n 1, 0, 0, 0, .null), (.iadd, 0, 0, 0, .null), (.iaload, 0, 2, 0, .null), (.iconst 1, 0, 0, 0, .int (1 : Int32))] [] (WW' := [w_Mo G a0 s0]) (lv' := [some (.ref (a0 0)), some (.int x1)]) (pc' := 60) (st' := [.int (1 : Int32), .int ((Mo_now s0) ((444 : Int32) + x1).toNatClampNeg)]) (by decide +kernel) rfl rfl ⟨trivial, ⟨rfl, rfl, zw_6_43⟩, trivial, trivial, trivial, ⟨rfl, rfl, h5⟩, trivial, trivial⟩ ?_
        refine zr_icmp_eq (off := 5) (tgt := 65) (by decide +kernel) (by decide) (fun hc => ?_) (fun hc => ?_)
        · have hf := zift hf hc
          obtain ⟨h6, hf⟩ := zck_of hf
          obtain ⟨q7, e7, hf⟩ := zbi_of hf
          refine zr_run [(.aload_n 0, 0, 0, 0, .null), (.iload_n 1, 0, 0, 0, .null), (.aload_n 0, 0, 0, 0, .null), (.getfield 13, 0, 0, 14, .null), (.sipush 474, 0, 0, 0, .int (474 : Int32)), (.iload_n 1, 0, 0, 0, .null), (.iadd, 0, 0, 0, .null), (.iaload, 0, 2, 0, .null)] [] (WW' := [w_Mo G a0 s0]) (lv' := [some (.ref (a0 0)), some (.int x1)]) (pc' := 77) (st' := [.int ((Mo_now s0) ((474 : Int32) + x1).toNatClampNeg), .int x1, .ref (a0 0)]) (by decide +kernel) rfl rfl ⟨trivial, trivial, trivial, ⟨rfl, rfl, zw_6_43⟩, trivial, trivial, trivial, ⟨rfl, rfl, h6⟩, trivial⟩ ?_
          refine zr_callV (c_X12_layThere_ l G a0 s0 x1 ((Mo_now s0) ((474 : Int32) + x1).toNatClampNeg) q7 e7) (WW' := fun _ => [w_Mo G a0 q7]) (st := []) (st' := []) [0] rfl rfl (fun _ => Nat.le_of_ble_eq_true rfl) (fun _ => rfl) rfl rfl nm_X12_layThere_ zw_7_104 zw_7_106 zw_0_72 zw_1_18 zw_7_107 rfl rfl rfl (Nat.le_of_ble_eq_true rfl) ⟨Nat.le_of_ble_eq_true rfl, Nat.le_of_ble_eq_true rfl⟩ (by decide +kernel) (fun _ => ?_)
          refine zr_run [(.aload_n 0, 0, 0, 0, .null), (.getfield 256, 0, 0, 25, .null)] [] (WW' := [w_Mo G a0 q7]) (lv' := [some (.ref (a0 0)), some (.int x1)]) (pc' := 84) (st' := [.int (Mo_placeThere q7)]) (by decide +kernel) rfl rfl ⟨trivial, ⟨rfl, rfl, zw_6_54⟩, trivial⟩ ?_
          obtain rfl := Option.some.inj hf
          exact zr_iret (b0 := fun _ => 0) (by decide +kernel) rfl rfl rfl rfl rfl
        · have hf := ziff hf hc
          refine zr_run [(.iconst (-1), 0, 0, 0, .int (-1 : Int32))] [] (WW' := [w_Mo G a0 s0]) (lv' := [some (.ref (a0 0)), some (.int x1)]) (pc' := 64) (st' := [.int (-1 : Int32)]) (by decide +kernel) rfl rfl ⟨trivial, trivial⟩ ?_
          obtain rfl := Option.some.inj hf
          exact zr_iret (b0 := fun _ => 0) (by decide +kernel) rfl rfl rfl rfl rfl
  exact zj_entry [some (.ref (a0 0)), some (.int x1)] (by decide +kernel) rfl (by decide) (Nat.le_of_ble_eq_true rfl) rfl rfl (key _)
def M_X12_those : zj_M := (RX12, cX12_those, 4, (some .int), { frames := 0, cells := 0, slots := 0, locals := 0 }, false)
theorem nm_X12_those : zj_nm yX12_those 1 := ⟨by decide +kernel, by decide +kernel, by decide +kernel⟩
def f_X12_those_b34  (s0 : MoT) (k4 : Int32 → Int32 → Int32 → Option (Int32)) (x1 : Int32) (x2 : Int32) (x3 : Int32) : Option (Int32) := k4 x1 x2 (x3 + (1 : Int32))
def f_X12_those_H4  (s0 : MoT) (k4 : Int32 → Int32 → Int32 → Option (Int32)) (x1 : Int32) (x2 : Int32) (x3 : Int32) : Option (Int32) := (if x3 < ((Mo_now s0) (2 : Int32).toNatClampNeg) then (if zb_in ((444 : Int32) + x3) 758 = true then (if ((Mo_now s0) ((444 : Int32) + x3).toNatClampNeg) = x1 then f_X12_those_b34 s0 k4 x1 (x2 ||| (zr_shl (1 : Int32) x3)) x3 else f_X12_those_b34 s0 k4 x1 x2 x3) else none) else some x2)
def f_X12_those_L4  (s0 : MoT)  : Nat → Int32 → Int32 → Int32 → Option (Int32)
  | 0 => fun _ _ _ => none
  | n + 1 => fun x1 x2 x3 => f_X12_those_H4 s0 (f_X12_those_L4 s0 n) x1 x2 x3
def f_X12_those  (s0 : MoT) (x1 : Int32) : Option (Int32) := f_X12_those_L4 s0 zFU x1 (0 : Int32) (0 : Int32)
set_option maxRecDepth 100000 in
set_option maxHeartbeats 4000000 in
theorem t_X12_those_b34 (l : Launch) (G : zj_G) (a0 : Nat → Nat) (W0 : List va_W) (r : Int32) (s0 : MoT) (k4 : Int32 → Int32 → Int32 → Option (Int32)) (hk4 : ∀ (x1 : Int32) (x2 : Int32) (x3 : Int32), k4 x1 x2 x3 = some r → zj_J l G M_X12_those W0 (zj_ret G M_X12_those W0 (some (.int r)) (fun _ => [w_Mo G a0 s0])) 0 0 [w_Mo G a0 s0] [some (.ref (a0 0)), some (.int x1), some (.int x2), some (.int x3)] 4 []) (x1 : Int32) (x2 : Int32) (x3 : Int32) (hf : f_X12_those_b34 s0 k4 x1 x2 x3 = some r) : zj_J l G M_X12_those W0 (zj_ret G M_X12_those W0 (some (.int r)) (fun _ => [w_Mo G a0 s0])) 0 0 [w_Mo G a0 s0] [some (.ref (a0 0)), some (.int x1), some (.int x2), some (.int x3)] 34 [] := by
  unfold f_X12_those_b34 at hf
  refine zr_run [(.iinc 3 1, 0, 0, 0, .int (1 : Int32))] [] (WW' := [w_Mo G a0 s0]) (lv' := [some (.ref (a0 0)), some (.int x1), some (.int x2), some (.int (x3 + (1 : Int32)))]) (pc' := 37) (st' := []) (by decide +kernel) rfl rfl ⟨trivial, trivial⟩ ?_
  refine zr_goto (off := -33) (tgt := 4) (by decide +kernel) (by decide) ?_
  exact hk4 x1 x2 (x3 + (1 : Int32)) hf
set_option maxRecDepth 100000 in
set_option maxHeartbeats 4000000 in
theorem t_X12_those_H4 (l : Launch) (G : zj_G) (a0 : Nat → Nat) (W0 : List va_W) (r : Int32) (s0 : MoT) (k4 : Int32 → Int32 → Int32 → Option (Int32)) (hk4 : ∀ (x1 : Int32) (x2 : Int32) (x3 : Int32), k4 x1 x2 x3 = some r → zj_J l G M_X12_those W0 (zj_ret G M_X12_those W0 (some (.int r)) (fun _ => [w_Mo G a0 s0])) 0 0 [w_Mo G a0 s0] [some (.ref (a0 0)), some (.int x1), some (.int x2), some (.int x3)] 4 []) (x1 : Int32) (x2 : Int32) (x3 : Int32) (hf : f_X12_those_H4 s0 k4 x1 x2 x3 = some r) : zj_J l G M_X12_those W0 (zj_ret G M_X12_those W0 (some (.int r)) (fun _ => [w_Mo G a0 s0])) 0 0 [w_Mo G a0 s0] [some (.ref (a0 0)), some (.int x1), some (.int x2), some (.int x3)] 4 [] := by
  unfold f_X12_those_H4 at hf
  refine zr_run [(.iload_n 3, 0, 0, 0, .null), (.aload_n 0, 0, 0, 0, .null), (.getfield 13, 0, 0, 14, .null), (.iconst 2, 0, 0, 0, .int (2 : Int32)), (.iaload, 0, 2, 0, .null)] [] (WW' := [w_Mo G a0 s0]) (lv' := [some (.ref (a0 0)), some (.int x1), some (.int x2), some (.int x3)]) (pc' := 11) (st' := [.int ((Mo_now s0) (2 : Int32).toNatClampNeg), .int x3]) (by decide +kernel) rfl rfl ⟨trivial, trivial, ⟨rfl, rfl, zw_6_43⟩, trivial, ⟨rfl, rfl, (by decide)⟩, trivial⟩ ?_
  refine zr_icmp_ge (off := 29) (tgt := 40) (by decide +kernel) (by decide) (fun hc => ?_) (fun hc => ?_)
  · have hf := zift hf hc
    obtain ⟨h1, hf⟩ := zck_of hf
    refine zr_run [(.aload_n 0, 0, 0, 0, .null), (.getfield 13, 0, 0, 14, .null), (.sipush 444, 0, 0, 0, .int (444 : Int32)), (.iload_n 3, 0, 0, 0, .null), (.iadd, 0, 0, 0, .null), (.iaload, 0, 2, 0, .null), (.iload_n 1, 0, 0, 0, .null)] [] (WW' := [w_Mo G a0 s0]) (lv' := [some (.ref (a0 0)), some (.int x1), some (.int x2), some (.int x3)]) (pc' := 25) (st' := [.int x1, .int ((Mo_now s0) ((444 : Int32) + x3).toNatClampNeg)]) (by decide +kernel) rfl rfl ⟨trivial, ⟨rfl, rfl, zw_6_43⟩, trivial, trivial, trivial, ⟨rfl, rfl, h1⟩, trivial, trivial⟩ ?_
    refine zr_icmp_ne (off := 9) (tgt := 34) (by decide +kernel) (by decide) (fun hc => ?_) (fun hc => ?_)
    · have hf := zift hf hc
      refine zr_run [(.iload_n 2, 0, 0, 0, .null), (.iconst 1, 0, 0, 0, .int (1 : Int32)), (.iload_n 3, 0, 0, 0, .null), (.ishl, 0, 0, 0, .null), (.ior, 0, 0, 0, .null), (.istore_n 2, 0, 0, 0, .null)] [] (WW' := [w_Mo G a0 s0]) (lv' := [some (.ref (a0 0)), some (.int x1), some (.int (x2 ||| (zr_shl (1 : Int32) x3))), some (.int x3)]) (pc' := 34) (st' := []) (by decide +kernel) rfl rfl ⟨trivial, trivial, trivial, trivial, trivial, trivial, trivial⟩ ?_
      exact t_X12_those_b34 l G a0 W0 r s0 k4 hk4 x1 (x2 ||| (zr_shl (1 : Int32) x3)) x3 hf
    · have hf := ziff hf hc
      exact t_X12_those_b34 l G a0 W0 r s0 k4 hk4 x1 x2 x3 hf
  · have hf := ziff hf hc
    refine zr_run [(.iload_n 2, 0, 0, 0, .null)] [] (WW' := [w_Mo G a0 s0]) (lv' := [some (.ref (a0 0)), some (.int x1), some (.int x2), some (.int x3)]) (pc' := 41) (st' := [.int x2]) (by decide +kernel) rfl rfl ⟨trivial, trivial⟩ ?_
    obtain rfl := Option.some.inj hf
    exact zr_iret (b0 := fun _ => 0) (by decide +kernel) rfl rfl rfl rfl rfl
theorem t_X12_those_L4 (l : Launch) (G : zj_G) (a0 : Nat → Nat) (W0 : List va_W) (r : Int32) (s0 : MoT)   : ∀ (n : Nat) (x1 : Int32) (x2 : Int32) (x3 : Int32), f_X12_those_L4 s0 n x1 x2 x3 = some r → zj_J l G M_X12_those W0 (zj_ret G M_X12_those W0 (some (.int r)) (fun _ => [w_Mo G a0 s0])) 0 0 [w_Mo G a0 s0] [some (.ref (a0 0)), some (.int x1), some (.int x2), some (.int x3)] 4 [] := by
  intro n
  induction n with
  | zero => intro x1 x2 x3 hf; exact nomatch (show none = some r from hf)
  | succ n ih => intro x1 x2 x3 hf; exact t_X12_those_H4 l G a0 W0 r s0  (f_X12_those_L4 s0 n)  ih x1 x2 x3  hf
set_option maxRecDepth 100000 in
set_option maxHeartbeats 4000000 in
theorem c_X12_those (l : Launch) (G : zj_G) (a0 : Nat → Nat) (s0 : MoT) (x1 : Int32) (r : Int32) (hf : f_X12_those s0 x1 = some r) : zj_C l G M_X12_those yX12_those [w_Mo G a0 s0] [.ref (a0 0), .int x1] (some (.int r)) (fun _ => [w_Mo G a0 s0]) := by
  have key : ∀ W0 : List va_W, zj_J l G M_X12_those W0 (zj_ret G M_X12_those W0 (some (.int r)) (fun _ => [w_Mo G a0 s0])) 0 0 [w_Mo G a0 s0] [some (.ref (a0 0)), some (.int x1), none, none] 0 [] := by
    intro W0
    unfold f_X12_those at hf
    refine zr_run [(.iconst 0, 0, 0, 0, .int (0 : Int32)), (.istore_n 2, 0, 0, 0, .null), (.iconst 0, 0, 0, 0, .int (0 : Int32)), (.istore_n 3, 0, 0, 0, .null)] [] (WW' := [w_Mo G a0 s0]) (lv' := [some (.ref (a0 0)), some (.int x1), some (.int (0 : Int32)), some (.int (0 : Int32))]) (pc' := 4) (st' := []) (by decide +kernel) rfl rfl ⟨trivial, trivial, trivial, trivial, trivial⟩ ?_
    exact t_X12_those_L4 l G a0 W0 r s0 zFU x1 (0 : Int32) (0 : Int32) hf
  exact zj_entry [some (.ref (a0 0)), some (.int x1), none, none] (by decide +kernel) rfl (by decide) (Nat.le_of_ble_eq_true rfl) rfl rfl (key _)
def M_X12_place : zj_M := (RX12, cX12_place, 5, (some .int), { frames := 4, cells := 0, slots := 0, locals := 91 }, false)
theorem nm_X12_place : zj_nm yX12_place 2 := ⟨by decide +kernel, by decide +kernel, by decide +kernel⟩
def f_X12_place_b122  (s0 : MoT) (k94 : MoT → Int32 → Int32 → Int32 → Option (Int32 × MoT)) (x1 : Int32) (x3 : Int32) (x4 : Int32) : Option (Int32 × MoT) := k94 s0 x1 x3 (x4 + (1 : Int32))
def f_X12_place_H94  (s0 : MoT) (k94 : MoT → Int32 → Int32 → Int32 → Option (Int32 × MoT)) (x1 : Int32) (x3 : Int32) (x4 : Int32) : Option (Int32 × MoT) := (if x4 < ((Mo_now s0) (2 : Int32).toNatClampNeg) then ((f_X12_placeOf s0 x4).bind fun q7 => (if q7.1 = x1 then f_X12_place_b122 q7.2 k94 x1 (x3 ||| (zr_shl (1 : Int32) x4)) x4 else f_X12_place_b122 q7.2 k94 x1 x3 x4)) else some (x3, s0))
def f_X12_place_L94    : Nat → MoT → Int32 → Int32 → Int32 → Option (Int32 × MoT)
  | 0 => fun _ _ _ _ => none
  | n + 1 => fun s0 x1 x3 x4 => f_X12_place_H94 s0 (f_X12_place_L94  n) x1 x3 x4
def f_X12_place  (s0 : MoT) (x1 : Int32) (x2 : Int32) : Option (Int32 × MoT) := (zlet (Mo_s_thrown s0 (0 : Int32)) fun y1 => ((f_X12_isPlace y1 x1).bind fun q2 => (if q2 = 0 then some ((-1 : Int32), y1) else (if x2 = (0 : Int32) then (if zb_in ((4 : Int32) + x1) 758 = true then some (((Mo_now y1) ((4 : Int32) + x1).toNatClampNeg), y1) else none) else (if x2 = (1 : Int32) then (if zb_in ((14 : Int32) + x1) 758 = true then some (((Mo_now y1) ((14 : Int32) + x1).toNatClampNeg), y1) else none) else (if x2 = (2 : Int32) then (if zb_in ((24 : Int32) + x1) 758 = true then some (((Mo_now y1) ((24 : Int32) + x1).toNatClampNeg), y1) else none) else (if x2 = (3 : Int32) then (if zb_in ((34 : Int32) + x1) 758 = true then some (((Mo_now y1) ((34 : Int32) + x1).toNatClampNeg), y1) else none) else (if x2 = (4 : Int32) then f_X12_place_L94 zFU y1 x1 (0 : Int32) (0 : Int32) else some ((-1 : Int32), y1)))))))))
set_option maxRecDepth 100000 in
set_option maxHeartbeats 4000000 in
theorem t_X12_place_b122 (l : Launch) (G : zj_G) (a0 : Nat → Nat) (W0 : List va_W) (r : Int32 × MoT) (s0 : MoT) (k94 : MoT → Int32 → Int32 → Int32 → Option (Int32 × MoT)) (hk94 : ∀ (s0 : MoT) (x1 : Int32) (x3 : Int32) (x4 : Int32), k94 s0 x1 x3 x4 = some r → zj_J l G M_X12_place W0 (zj_ret G M_X12_place W0 (some (.int r.1)) (fun _ => [w_Mo G a0 r.2])) 0 0 [w_Mo G a0 s0] [some (.ref (a0 0)), some (.int x1), none, some (.int x3), some (.int x4)] 94 []) (x1 : Int32) (x3 : Int32) (x4 : Int32) (hf : f_X12_place_b122 s0 k94 x1 x3 x4 = some r) : zj_J l G M_X12_place W0 (zj_ret G M_X12_place W0 (some (.int r.1)) (fun _ => [w_Mo G a0 r.2])) 0 0 [w_Mo G a0 s0] [some (.ref (a0 0)), some (.int x1), none, some (.int x3), some (.int x4)] 122 [] := by
  unfold f_X12_place_b122 at hf
  refine zr_run [(.iinc 4 1, 0, 0, 0, .int (1 : Int32))] [] (WW' := [w_Mo G a0 s0]) (lv' := [some (.ref (a0 0)), some (.int x1), none, some (.int x3), some (.int (x4 + (1 : Int32)))]) (pc' := 125) (st' := []) (by decide +kernel) rfl rfl ⟨trivial, trivial⟩ ?_
  refine zr_goto (off := -31) (tgt := 94) (by decide +kernel) (by decide) ?_
  exact hk94 s0 x1 x3 (x4 + (1 : Int32)) hf
set_option maxRecDepth 100000 in
set_option maxHeartbeats 4000000 in
theorem t_X12_place_H94 (l : Launch) (G : zj_G) (a0 : Nat → Nat) (W0 : List va_W) (r : Int32 × MoT) (s0 : MoT) (k94 : MoT → Int32 → Int32 → Int32 → Option (Int32 × MoT)) (hk94 : ∀ (s0 : MoT) (x1 : Int32) (x3 : Int32) (x4 : Int32), k94 s0 x1 x3 x4 = some r → zj_J l G M_X12_place W0 (zj_ret G M_X12_place W0 (some (.int r.1)) (fun _ => [w_Mo G a0 r.2])) 0 0 [w_Mo G a0 s0] [some (.ref (a0 0)), some (.int x1), none, some (.int x3), some (.int x4)] 94 []) (x1 : Int32) (x3 : Int32) (x4 : Int32) (hf : f_X12_place_H94 s0 k94 x1 x3 x4 = some r) : zj_J l G M_X12_place W0 (zj_ret G M_X12_place W0 (some (.int r.1)) (fun _ => [w_Mo G a0 r.2])) 0 0 [w_Mo G a0 s0] [some (.ref (a0 0)), some (.int x1), none, some (.int x3), some (.int x4)] 94 [] := by
  unfold f_X12_place_H94 at hf
  refine zr_run [(.iload 4, 0, 0, 0, .null), (.aload_n 0, 0, 0, 0, .null), (.getfield 13, 0, 0, 14, .null), (.iconst 2, 0, 0, 0, .int (2 : Int32)), (.iaload, 0, 2, 0, .null)] [] (WW' := [w_Mo G a0 s0]) (lv' := [some (.ref (a0 0)), some (.int x1), none, some (.int x3), some (.int x4)]) (pc' := 102) (st' := [.int ((Mo_now s0) (2 : Int32).toNatClampNeg), .int x4]) (by decide +kernel) rfl rfl ⟨trivial, trivial, ⟨rfl, rfl, zw_6_43⟩, trivial, ⟨rfl, rfl, (by decide)⟩, trivial⟩ ?_
  refine zr_icmp_ge (off := 26) (tgt := 128) (by decide +kernel) (by decide) (fun hc => ?_) (fun hc => ?_)
  · have hf := zift hf hc
    obtain ⟨q7, e7, hf⟩ := zbi_of hf
    refine zr_run [(.aload_n 0, 0, 0, 0, .null), (.iload 4, 0, 0, 0, .null)] [] (WW' := [w_Mo G a0 s0]) (lv' := [some (.ref (a0 0)), some (.int x1), none, some (.int x3), some (.int x4)]) (pc' := 108) (st' := [.int x4, .ref (a0 0)]) (by decide +kernel) rfl rfl ⟨trivial, trivial, trivial⟩ ?_
    refine zr_callV (c_X12_placeOf l G a0 s0 x4 q7 e7) (WW' := fun _ => [w_Mo G a0 q7.2]) (st := []) (st' := [.int q7.1]) [0] rfl rfl (fun _ => Nat.le_of_ble_eq_true rfl) (fun _ => rfl) rfl rfl nm_X12_placeOf zw_7_100 zw_7_102 zw_0_71 zw_1_18 zw_7_103 rfl rfl rfl (Nat.le_of_ble_eq_true rfl) ⟨Nat.le_of_ble_eq_true rfl, Nat.le_of_ble_eq_true rfl⟩ (by decide +kernel) (fun _ => ?_)
    refine zr_run [(.iload_n 1, 0, 0, 0, .null)] [] (WW' := [w_Mo G a0 q7.2]) (lv' := [some (.ref (a0 0)), some (.int x1), none, some (.int x3), some (.int x4)]) (pc' := 112) (st' := [.int x1, .int q7.1]) (by decide +kernel) rfl rfl ⟨trivial, trivial⟩ ?_
    refine zr_icmp_ne (off := 10) (tgt := 122) (by decide +kernel) (by decide) (fun hc => ?_) (fun hc => ?_)
    · have hf := zift hf hc
      refine zr_run [(.iload_n 3, 0, 0, 0, .null), (.iconst 1, 0, 0, 0, .int (1 : Int32)), (.iload 4, 0, 0, 0, .null), (.ishl, 0, 0, 0, .null), (.ior, 0, 0, 0, .null), (.istore_n 3, 0, 0, 0, .null)] [] (WW' := [w_Mo G a0 q7.2]) (lv' := [some (.ref (a0 0)), some (.int x1), none, some (.int (x3 ||| (zr_shl (1 : Int32) x4))), some (.int x4)]) (pc' := 122) (st' := []) (by decide +kernel) rfl rfl ⟨trivial, trivial, trivial, trivial, trivial, trivial, trivial⟩ ?_
      exact t_X12_place_b122 l G a0 W0 r q7.2 k94 hk94 x1 (x3 ||| (zr_shl (1 : Int32) x4)) x4 hf
    · have hf := ziff hf hc
      exact t_X12_place_b122 l G a0 W0 r q7.2 k94 hk94 x1 x3 x4 hf
  · have hf := ziff hf hc
    refine zr_run [(.iload_n 3, 0, 0, 0, .null)] [] (WW' := [w_Mo G a0 s0]) (lv' := [some (.ref (a0 0)), some (.int x1), none, some (.int x3), some (.int x4)]) (pc' := 129) (st' := [.int x3]) (by decide +kernel) rfl rfl ⟨trivial, trivial⟩ ?_
    obtain rfl := Option.some.inj hf
    exact zr_iret (b0 := fun _ => 0) (by decide +kernel) rfl rfl rfl rfl rfl
theorem t_X12_place_L94 (l : Launch) (G : zj_G) (a0 : Nat → Nat) (W0 : List va_W) (r : Int32 × MoT)    : ∀ (n : Nat) (s0 : MoT) (x1 : Int32) (x3 : Int32) (x4 : Int32), f_X12_place_L94 n s0 x1 x3 x4 = some r → zj_J l G M_X12_place W0 (zj_ret G M_X12_place W0 (some (.int r.1)) (fun _ => [w_Mo G a0 r.2])) 0 0 [w_Mo G a0 s0] [some (.ref (a0 0)), some (.int x1), none, some (.int x3), some (.int x4)] 94 [] := by
  intro n
  induction n with
  | zero => intro s0 x1 x3 x4 hf; exact nomatch (show none = some r from hf)
  | succ n ih => intro s0 x1 x3 x4 hf; exact t_X12_place_H94 l G a0 W0 r s0  (f_X12_place_L94 n)  ih x1 x3 x4  hf
set_option maxRecDepth 100000 in
set_option maxHeartbeats 4000000 in
theorem c_X12_place (l : Launch) (G : zj_G) (a0 : Nat → Nat) (s0 : MoT) (x1 : Int32) (x2 : Int32) (r : Int32 × MoT) (hf : f_X12_place s0 x1 x2 = some r) : zj_C l G M_X12_place yX12_place [w_Mo G a0 s0] [.ref (a0 0), .int x1, .int x2] (some (.int r.1)) (fun _ => [w_Mo G a0 r.2]) := by
  have key : ∀ W0 : List va_W, zj_J l G M_X12_place W0 (zj_ret G M_X12_place W0 (some (.int r.1)) (fun _ => [w_Mo G a0 r.2])) 0 0 [w_Mo G a0 s0] [some (.ref (a0 0)), some (.int x1), some (.int x2), none, none] 0 [] := by
    intro W0
    unfold f_X12_place at hf
    obtain ⟨y1, e1, hf⟩ := zlet_of hf
    refine zr_run [(.aload_n 0, 0, 0, 0, .null), (.iconst 0, 0, 0, 0, .int (0 : Int32)), (.putfield 91, 0, 0, 0, .null)] [] (WW' := [w_Mo G a0 (Mo_s_thrown s0 (0 : Int32))]) (lv' := [some (.ref (a0 0)), some (.int x1), some (.int x2), none, none]) (pc' := 5) (st' := []) (by decide +kernel) rfl rfl ⟨trivial, trivial, ⟨rfl, rfl, rfl, trivial, rfl, rfl, zw_6_29⟩, trivial⟩ ?_
    refine zr_eq (WW2 := [w_Mo G a0 y1]) (lv2 := [some (.ref (a0 0)), some (.int x1), some (.int x2), none, none]) (st2 := []) (by rw [e1]) rfl rfl ?_
    obtain ⟨q2, e2, hf⟩ := zbi_of hf
    refine zr_run [(.aload_n 0, 0, 0, 0, .null), (.iload_n 1, 0, 0, 0, .null)] [] (WW' := [w_Mo G a0 y1]) (lv' := [some (.ref (a0 0)), some (.int x1), some (.int x2), none, none]) (pc' := 7) (st' := [.int x1, .ref (a0 0)]) (by decide +kernel) rfl rfl ⟨trivial, trivial, trivial⟩ ?_
    refine zr_callV (c_X12_isPlace l G a0 y1 x1 q2 e2) (WW' := fun _ => [w_Mo G a0 y1]) (st := []) (st' := [.int q2]) [0] rfl rfl (fun _ => Nat.le_of_ble_eq_true rfl) (fun _ => rfl) rfl rfl nm_X12_isPlace zw_7_96 zw_7_98 zw_0_70 zw_1_18 zw_7_99 rfl rfl rfl (Nat.le_of_ble_eq_true rfl) ⟨Nat.le_of_ble_eq_true rfl, Nat.le_of_ble_eq_true rfl⟩ (by decide +kernel) (fun _ => ?_)
    refine zr_if_ne (off := 5) (tgt := 15) (by decide +kernel) (by decide) (fun hc => ?_) (fun hc => ?_)
    · have hf := zift hf hc
      refine zr_run [(.iconst (-1), 0, 0, 0, .int (-1 : Int32))] [] (WW' := [w_Mo G a0 y1]) (lv' := [some (.ref (a0 0)), some (.int x1), some (.int x2), none, none]) (pc' := 14) (st' := [.int (-1 : Int32)]) (by decide +kernel) rfl rfl ⟨trivial, trivial⟩ ?_
      obtain rfl := Option.some.inj hf
      exact zr_iret (b0 := fun _ => 0) (by decide +kernel) rfl rfl rfl rfl rfl
    · have hf := ziff hf hc
      refine zr_run [(.iconst 0, 0, 0, 0, .int (0 : Int32)), (.istore_n 3, 0, 0, 0, .null), (.iload_n 2, 0, 0, 0, .null)] [] (WW' := [w_Mo G a0 y1]) (lv' := [some (.ref (a0 0)), some (.int x1), some (.int x2), some (.int (0 : Int32)), none]) (pc' := 18) (st' := [.int x2]) (by decide +kernel) rfl rfl ⟨trivial, trivial, trivial, trivial⟩ ?_
      by_cases hc0 : x2 = (0 : Int32)
      · have hf := zift hf hc0
        refine zr_tabIn (v := (0 : Int32)) (tgt := 52) (dflt := 112) (lo := 0) (hi := 4) (offs := #[34, 43, 53, 63, 73]) (len := 34) (off := 34) hc0 (by decide +kernel) (by decide) (by decide) (by decide) ?_
        obtain ⟨h3, hf⟩ := zck_of hf
        refine zr_run [(.aload_n 0, 0, 0, 0, .null), (.getfield 13, 0, 0, 14, .null), (.iconst 4, 0, 0, 0, .int (4 : Int32)), (.iload_n 1, 0, 0, 0, .null), (.iadd, 0, 0, 0, .null), (.iaload, 0, 2, 0, .null)] [] (WW' := [w_Mo G a0 y1]) (lv' := [some (.ref (a0 0)), some (.int x1), some (.int x2), some (.int (0 : Int32)), none]) (pc' := 60) (st' := [.int ((Mo_now y1) ((4 : Int32) + x1).toNatClampNeg)]) (by decide +kernel) rfl rfl ⟨trivial, ⟨rfl, rfl, zw_6_43⟩, trivial, trivial, trivial, ⟨rfl, rfl, h3⟩, trivial⟩ ?_
        obtain rfl := Option.some.inj hf
        exact zr_iret (b0 := fun _ => 0) (by decide +kernel) rfl rfl rfl rfl rfl
      · have hf := ziff hf hc0
        by_cases hc1 : x2 = (1 : Int32)
        · have hf := zift hf hc1
          refine zr_tabIn (v := (1 : Int32)) (tgt := 61) (dflt := 112) (lo := 0) (hi := 4) (offs := #[34, 43, 53, 63, 73]) (len := 34) (off := 43) hc1 (by decide +kernel) (by decide) (by decide) (by decide) ?_
          obtain ⟨h4, hf⟩ := zck_of hf
          refine zr_run [(.aload_n 0, 0, 0, 0, .null), (.getfield 13, 0, 0, 14, .null), (.bipush 14, 0, 0, 0, .int (14 : Int32)), (.iload_n 1, 0, 0, 0, .null), (.iadd, 0, 0, 0, .null), (.iaload, 0, 2, 0, .null)] [] (WW' := [w_Mo G a0 y1]) (lv' := [some (.ref (a0 0)), some (.int x1), some (.int x2), some (.int (0 : Int32)), none]) (pc' := 70) (st' := [.int ((Mo_now y1) ((14 : Int32) + x1).toNatClampNeg)]) (by decide +kernel) rfl rfl ⟨trivial, ⟨rfl, rfl, zw_6_43⟩, trivial, trivial, trivial, ⟨rfl, rfl, h4⟩, trivial⟩ ?_
          obtain rfl := Option.some.inj hf
          exact zr_iret (b0 := fun _ => 0) (by decide +kernel) rfl rfl rfl rfl rfl
        · have hf := ziff hf hc1
          by_cases hc2 : x2 = (2 : Int32)
          · have hf := zift hf hc2
            refine zr_tabIn (v := (2 : Int32)) (tgt := 71) (dflt := 112) (lo := 0) (hi := 4) (offs := #[34, 43, 53, 63, 73]) (len := 34) (off := 53) hc2 (by decide +kernel) (by decide) (by decide) (by decide) ?_
            obtain ⟨h5, hf⟩ := zck_of hf
            refine zr_run [(.aload_n 0, 0, 0, 0, .null), (.getfield 13, 0, 0, 14, .null), (.bipush 24, 0, 0, 0, .int (24 : Int32)), (.iload_n 1, 0, 0, 0, .null), (.iadd, 0, 0, 0, .null), (.iaload, 0, 2, 0, .null)] [] (WW' := [w_Mo G a0 y1]) (lv' := [some (.ref (a0 0)), some (.int x1), some (.int x2), some (.int (0 : Int32)), none]) (pc' := 80) (st' := [.int ((Mo_now y1) ((24 : Int32) + x1).toNatClampNeg)]) (by decide +kernel) rfl rfl ⟨trivial, ⟨rfl, rfl, zw_6_43⟩, trivial, trivial, trivial, ⟨rfl, rfl, h5⟩, trivial⟩ ?_
            obtain rfl := Option.some.inj hf
            exact zr_iret (b0 := fun _ => 0) (by decide +kernel) rfl rfl rfl rfl rfl
          · have hf := ziff hf hc2
            by_cases hc3 : x2 = (3 : Int32)
            · have hf := zift hf hc3
              refine zr_tabIn (v := (3 : Int32)) (tgt := 81) (dflt := 112) (lo := 0) (hi := 4) (offs := #[34, 43, 53, 63, 73]) (len := 34) (off := 63) hc3 (by decide +kernel) (by decide) (by decide) (by decide) ?_
              obtain ⟨h6, hf⟩ := zck_of hf
              refine zr_run [(.aload_n 0, 0, 0, 0, .null), (.getfield 13, 0, 0, 14, .null), (.bipush 34, 0, 0, 0, .int (34 : Int32)), (.iload_n 1, 0, 0, 0, .null), (.iadd, 0, 0, 0, .null), (.iaload, 0, 2, 0, .null)] [] (WW' := [w_Mo G a0 y1]) (lv' := [some (.ref (a0 0)), some (.int x1), some (.int x2), some (.int (0 : Int32)), none]) (pc' := 90) (st' := [.int ((Mo_now y1) ((34 : Int32) + x1).toNatClampNeg)]) (by decide +kernel) rfl rfl ⟨trivial, ⟨rfl, rfl, zw_6_43⟩, trivial, trivial, trivial, ⟨rfl, rfl, h6⟩, trivial⟩ ?_
              obtain rfl := Option.some.inj hf
              exact zr_iret (b0 := fun _ => 0) (by decide +kernel) rfl rfl rfl rfl rfl
            · have hf := ziff hf hc3
              by_cases hc4 : x2 = (4 : Int32)
              · have hf := zift hf hc4
                refine zr_tabIn (v := (4 : Int32)) (tgt := 91) (dflt := 112) (lo := 0) (hi := 4) (offs := #[34, 43, 53, 63, 73]) (len := 34) (off := 73) hc4 (by decide +kernel) (by decide) (by decide) (by decide) ?_
                refine zr_run [(.iconst 0, 0, 0, 0, .int (0 : Int32)), (.istore 4, 0, 0, 0, .null)] [2] (WW' := [w_Mo G a0 y1]) (lv' := [some (.ref (a0 0)), some (.int x1), none, some (.int (0 : Int32)), some (.int (0 : Int32))]) (pc' := 94) (st' := []) (by decide +kernel) rfl rfl ⟨trivial, trivial, trivial⟩ ?_
                exact t_X12_place_L94 l G a0 W0 r zFU y1 x1 (0 : Int32) (0 : Int32) hf
              · have hf := ziff hf hc4
                refine zr_tabOut (tgt := 130) (dflt := 112) (lo := 0) (hi := 4) (offs := #[34, 43, 53, 63, 73]) (len := 34) (by decide +kernel) (by have q0 := lv_neT hc0 (a := 0) (by decide); have q1 := lv_neT hc1 (a := 1) (by decide); have q2 := lv_neT hc2 (a := 2) (by decide); have q3 := lv_neT hc3 (a := 3) (by decide); have q4 := lv_neT hc4 (a := 4) (by decide); omega) (by decide) ?_
                refine zr_run [(.iconst (-1), 0, 0, 0, .int (-1 : Int32))] [] (WW' := [w_Mo G a0 y1]) (lv' := [some (.ref (a0 0)), some (.int x1), some (.int x2), some (.int (0 : Int32)), none]) (pc' := 131) (st' := [.int (-1 : Int32)]) (by decide +kernel) rfl rfl ⟨trivial, trivial⟩ ?_
                obtain rfl := Option.some.inj hf
                exact zr_iret (b0 := fun _ => 0) (by decide +kernel) rfl rfl rfl rfl rfl
  exact zj_entry [some (.ref (a0 0)), some (.int x1), some (.int x2), none, none] (by decide +kernel) rfl (by decide) (Nat.le_of_ble_eq_true rfl) rfl rfl (key _)
def M_X12_road : zj_M := (RX12, cX12_road, 5, (some .int), { frames := 2, cells := 0, slots := 0, locals := 43 }, false)
theorem nm_X12_road : zj_nm yX12_road 3 := ⟨by decide +kernel, by decide +kernel, by decide +kernel⟩
def f_X12_road  (s0 : MoT) (x1 : Int32) (x2 : Int32) (x3 : Int32) : Option (Int32 × MoT) := (zlet (Mo_s_thrown s0 (0 : Int32)) fun y1 => ((f_X12_isPlace y1 x1).bind fun q2 => (if q2 = 0 then some ((-1 : Int32), y1) else ((f_X12_isPlace y1 x2).bind fun q3 => (if q3 = 0 then some ((-1 : Int32), y1) else ((f_X12_roadOf y1 x1 x2).bind fun q4 => (if q4 = (-1 : Int32) then some ((-1 : Int32), y1) else ((f_X12_roadOf y1 x1 x2).bind fun q5 => (if x3 = 0 then (if zb_in ((144 : Int32) + q5) 758 = true then some (((Mo_now y1) ((144 : Int32) + q5).toNatClampNeg), y1) else none) else (if x3 = (1 : Int32) then (if zb_in ((160 : Int32) + q5) 758 = true then some (((Mo_now y1) ((160 : Int32) + q5).toNatClampNeg), y1) else none) else (if x3 = (2 : Int32) then (if zb_in ((176 : Int32) + q5) 758 = true then some (((Mo_now y1) ((176 : Int32) + q5).toNatClampNeg), y1) else none) else some ((-1 : Int32), y1))))))))))))
set_option maxRecDepth 100000 in
set_option maxHeartbeats 4000000 in
theorem c_X12_road (l : Launch) (G : zj_G) (a0 : Nat → Nat) (s0 : MoT) (x1 : Int32) (x2 : Int32) (x3 : Int32) (r : Int32 × MoT) (hf : f_X12_road s0 x1 x2 x3 = some r) : zj_C l G M_X12_road yX12_road [w_Mo G a0 s0] [.ref (a0 0), .int x1, .int x2, .int x3] (some (.int r.1)) (fun _ => [w_Mo G a0 r.2]) := by
  have key : ∀ W0 : List va_W, zj_J l G M_X12_road W0 (zj_ret G M_X12_road W0 (some (.int r.1)) (fun _ => [w_Mo G a0 r.2])) 0 0 [w_Mo G a0 s0] [some (.ref (a0 0)), some (.int x1), some (.int x2), some (.int x3), none] 0 [] := by
    intro W0
    unfold f_X12_road at hf
    obtain ⟨y1, e1, hf⟩ := zlet_of hf
    refine zr_run [(.aload_n 0, 0, 0, 0, .null), (.iconst 0, 0, 0, 0, .int (0 : Int32)), (.putfield 91, 0, 0, 0, .null)] [] (WW' := [w_Mo G a0 (Mo_s_thrown s0 (0 : Int32))]) (lv' := [some (.ref (a0 0)), some (.int x1), some (.int x2), some (.int x3), none]) (pc' := 5) (st' := []) (by decide +kernel) rfl rfl ⟨trivial, trivial, ⟨rfl, rfl, rfl, trivial, rfl, rfl, zw_6_29⟩, trivial⟩ ?_
    refine zr_eq (WW2 := [w_Mo G a0 y1]) (lv2 := [some (.ref (a0 0)), some (.int x1), some (.int x2), some (.int x3), none]) (st2 := []) (by rw [e1]) rfl rfl ?_
    obtain ⟨q2, e2, hf⟩ := zbi_of hf
    refine zr_run [(.aload_n 0, 0, 0, 0, .null), (.iload_n 1, 0, 0, 0, .null)] [] (WW' := [w_Mo G a0 y1]) (lv' := [some (.ref (a0 0)), some (.int x1), some (.int x2), some (.int x3), none]) (pc' := 7) (st' := [.int x1, .ref (a0 0)]) (by decide +kernel) rfl rfl ⟨trivial, trivial, trivial⟩ ?_
    refine zr_callV (c_X12_isPlace l G a0 y1 x1 q2 e2) (WW' := fun _ => [w_Mo G a0 y1]) (st := []) (st' := [.int q2]) [0] rfl rfl (fun _ => Nat.le_of_ble_eq_true rfl) (fun _ => rfl) rfl rfl nm_X12_isPlace zw_7_96 zw_7_98 zw_0_70 zw_1_18 zw_7_99 rfl rfl rfl (Nat.le_of_ble_eq_true rfl) ⟨Nat.le_of_ble_eq_true rfl, Nat.le_of_ble_eq_true rfl⟩ (by decide +kernel) (fun _ => ?_)
    refine zr_if_eq (off := 21) (tgt := 31) (by decide +kernel) (by decide) (fun hc => ?_) (fun hc => ?_)
    · have hf := zift hf hc
      refine zr_run [(.iconst (-1), 0, 0, 0, .int (-1 : Int32))] [] (WW' := [w_Mo G a0 y1]) (lv' := [some (.ref (a0 0)), some (.int x1), some (.int x2), some (.int x3), none]) (pc' := 32) (st' := [.int (-1 : Int32)]) (by decide +kernel) rfl rfl ⟨trivial, trivial⟩ ?_
      obtain rfl := Option.some.inj hf
      exact zr_iret (b0 := fun _ => 0) (by decide +kernel) rfl rfl rfl rfl rfl
    · have hf := ziff hf hc
      obtain ⟨q3, e3, hf⟩ := zbi_of hf
      refine zr_run [(.aload_n 0, 0, 0, 0, .null), (.iload_n 2, 0, 0, 0, .null)] [] (WW' := [w_Mo G a0 y1]) (lv' := [some (.ref (a0 0)), some (.int x1), some (.int x2), some (.int x3), none]) (pc' := 15) (st' := [.int x2, .ref (a0 0)]) (by decide +kernel) rfl rfl ⟨trivial, trivial, trivial⟩ ?_
      refine zr_callV (c_X12_isPlace l G a0 y1 x2 q3 e3) (WW' := fun _ => [w_Mo G a0 y1]) (st := []) (st' := [.int q3]) [0] rfl rfl (fun _ => Nat.le_of_ble_eq_true rfl) (fun _ => rfl) rfl rfl nm_X12_isPlace zw_7_96 zw_7_98 zw_0_70 zw_1_18 zw_7_99 rfl rfl rfl (Nat.le_of_ble_eq_true rfl) ⟨Nat.le_of_ble_eq_true rfl, Nat.le_of_ble_eq_true rfl⟩ (by decide +kernel) (fun _ => ?_)
      refine zr_if_eq (off := 13) (tgt := 31) (by decide +kernel) (by decide) (fun hc => ?_) (fun hc => ?_)
      · have hf := zift hf hc
        refine zr_run [(.iconst (-1), 0, 0, 0, .int (-1 : Int32))] [] (WW' := [w_Mo G a0 y1]) (lv' := [some (.ref (a0 0)), some (.int x1), some (.int x2), some (.int x3), none]) (pc' := 32) (st' := [.int (-1 : Int32)]) (by decide +kernel) rfl rfl ⟨trivial, trivial⟩ ?_
        obtain rfl := Option.some.inj hf
        exact zr_iret (b0 := fun _ => 0) (by decide +kernel) rfl rfl rfl rfl rfl
      · have hf := ziff hf hc
        obtain ⟨q4, e4, hf⟩ := zbi_of hf
        refine zr_run [(.aload_n 0, 0, 0, 0, .null), (.iload_n 1, 0, 0, 0, .null), (.iload_n 2, 0, 0, 0, .null)] [] (WW' := [w_Mo G a0 y1]) (lv' := [some (.ref (a0 0)), some (.int x1), some (.int x2), some (.int x3), none]) (pc' := 24) (st' := [.int x2, .int x1, .ref (a0 0)]) (by decide +kernel) rfl rfl ⟨trivial, trivial, trivial, trivial⟩ ?_
        refine zr_callV (c_X12_roadOf l G a0 y1 x1 x2 q4 e4) (WW' := fun _ => [w_Mo G a0 y1]) (st := []) (st' := [.int q4]) [0] rfl rfl (fun _ => Nat.le_of_ble_eq_true rfl) (fun _ => rfl) rfl rfl nm_X12_roadOf zw_7_116 zw_7_118 zw_0_75 zw_1_18 zw_7_119 rfl rfl rfl (Nat.le_of_ble_eq_true rfl) ⟨Nat.le_of_ble_eq_true rfl, Nat.le_of_ble_eq_true rfl⟩ (by decide +kernel) (fun _ => ?_)
        refine zr_run [(.iconst (-1), 0, 0, 0, .int (-1 : Int32))] [] (WW' := [w_Mo G a0 y1]) (lv' := [some (.ref (a0 0)), some (.int x1), some (.int x2), some (.int x3), none]) (pc' := 28) (st' := [.int (-1 : Int32), .int q4]) (by decide +kernel) rfl rfl ⟨trivial, trivial⟩ ?_
        refine zr_icmp_ne (off := 5) (tgt := 33) (by decide +kernel) (by decide) (fun hc => ?_) (fun hc => ?_)
        · have hf := zift hf hc
          refine zr_run [(.iconst (-1), 0, 0, 0, .int (-1 : Int32))] [] (WW' := [w_Mo G a0 y1]) (lv' := [some (.ref (a0 0)), some (.int x1), some (.int x2), some (.int x3), none]) (pc' := 32) (st' := [.int (-1 : Int32)]) (by decide +kernel) rfl rfl ⟨trivial, trivial⟩ ?_
          obtain rfl := Option.some.inj hf
          exact zr_iret (b0 := fun _ => 0) (by decide +kernel) rfl rfl rfl rfl rfl
        · have hf := ziff hf hc
          obtain ⟨q5, e5, hf⟩ := zbi_of hf
          refine zr_run [(.aload_n 0, 0, 0, 0, .null), (.iload_n 1, 0, 0, 0, .null), (.iload_n 2, 0, 0, 0, .null)] [] (WW' := [w_Mo G a0 y1]) (lv' := [some (.ref (a0 0)), some (.int x1), some (.int x2), some (.int x3), none]) (pc' := 36) (st' := [.int x2, .int x1, .ref (a0 0)]) (by decide +kernel) rfl rfl ⟨trivial, trivial, trivial, trivial⟩ ?_
          refine zr_callV (c_X12_roadOf l G a0 y1 x1 x2 q5 e5) (WW' := fun _ => [w_Mo G a0 y1]) (st := []) (st' := [.int q5]) [0] rfl rfl (fun _ => Nat.le_of_ble_eq_true rfl) (fun _ => rfl) rfl rfl nm_X12_roadOf zw_7_116 zw_7_118 zw_0_75 zw_1_18 zw_7_119 rfl rfl rfl (Nat.le_of_ble_eq_true rfl) ⟨Nat.le_of_ble_eq_true rfl, Nat.le_of_ble_eq_true rfl⟩ (by decide +kernel) (fun _ => ?_)
          refine zr_run [(.istore 4, 0, 0, 0, .null), (.iload_n 3, 0, 0, 0, .null)] [] (WW' := [w_Mo G a0 y1]) (lv' := [some (.ref (a0 0)), some (.int x1), some (.int x2), some (.int x3), some (.int q5)]) (pc' := 42) (st' := [.int x3]) (by decide +kernel) rfl rfl ⟨trivial, trivial, trivial⟩ ?_
          refine zr_if_ne (off := 17) (tgt := 59) (by decide +kernel) (by decide) (fun hc => ?_) (fun hc => ?_)
          · have hf := zift hf hc
            obtain ⟨h6, hf⟩ := zck_of hf
            refine zr_run [(.aload_n 0, 0, 0, 0, .null), (.getfield 13, 0, 0, 14, .null), (.sipush 144, 0, 0, 0, .int (144 : Int32)), (.iload 4, 0, 0, 0, .null), (.iadd, 0, 0, 0, .null), (.iaload, 0, 2, 0, .null)] [] (WW' := [w_Mo G a0 y1]) (lv' := [some (.ref (a0 0)), some (.int x1), some (.int x2), some (.int x3), some (.int q5)]) (pc' := 56) (st' := [.int ((Mo_now y1) ((144 : Int32) + q5).toNatClampNeg)]) (by decide +kernel) rfl rfl ⟨trivial, ⟨rfl, rfl, zw_6_43⟩, trivial, trivial, trivial, ⟨rfl, rfl, h6⟩, trivial⟩ ?_
            refine zr_goto (off := 42) (tgt := 98) (by decide +kernel) (by decide) ?_
            obtain rfl := Option.some.inj hf
            exact zr_iret (b0 := fun _ => 0) (by decide +kernel) rfl rfl rfl rfl rfl
          · have hf := ziff hf hc
            refine zr_run [(.iload_n 3, 0, 0, 0, .null), (.iconst 1, 0, 0, 0, .int (1 : Int32))] [] (WW' := [w_Mo G a0 y1]) (lv' := [some (.ref (a0 0)), some (.int x1), some (.int x2), some (.int x3), some (.int q5)]) (pc' := 61) (st' := [.int (1 : Int32), .int x3]) (by decide +kernel) rfl rfl ⟨trivial, trivial, trivial⟩ ?_
            refine zr_icmp_ne (off := 17) (tgt := 78) (by decide +kernel) (by decide) (fun hc => ?_) (fun hc => ?_)
            · have hf := zift hf hc
              obtain ⟨h7, hf⟩ := zck_of hf
              refine zr_run [(.aload_n 0, 0, 0, 0, .null), (.getfield 13, 0, 0, 14, .null), (.sipush 160, 0, 0, 0, .int (160 : Int32)), (.iload 4, 0, 0, 0, .null), (.iadd, 0, 0, 0, .null), (.iaload, 0, 2, 0, .null)] [] (WW' := [w_Mo G a0 y1]) (lv' := [some (.ref (a0 0)), some (.int x1), some (.int x2), some (.int x3), some (.int q5)]) (pc' := 75) (st' := [.int ((Mo_now y1) ((160 : Int32) + q5).toNatClampNeg)]) (by decide +kernel) rfl rfl ⟨trivial, ⟨rfl, rfl, zw_6_43⟩, trivial, trivial, trivial, ⟨rfl, rfl, h7⟩, trivial⟩ ?_
              refine zr_goto (off := 23) (tgt := 98) (by decide +kernel) (by decide) ?_
              obtain rfl := Option.some.inj hf
              exact zr_iret (b0 := fun _ => 0) (by decide +kernel) rfl rfl rfl rfl rfl
            · have hf := ziff hf hc
              refine zr_run [(.iload_n 3, 0, 0, 0, .null), (.iconst 2, 0, 0, 0, .int (2 : Int32))] [] (WW' := [w_Mo G a0 y1]) (lv' := [some (.ref (a0 0)), some (.int x1), some (.int x2), some (.int x3), some (.int q5)]) (pc' := 80) (st' := [.int (2 : Int32), .int x3]) (by decide +kernel) rfl rfl ⟨trivial, trivial, trivial⟩ ?_
              refine zr_icmp_ne (off := 17) (tgt := 97) (by decide +kernel) (by decide) (fun hc => ?_) (fun hc => ?_)
              · have hf := zift hf hc
                obtain ⟨h8, hf⟩ := zck_of hf
                refine zr_run [(.aload_n 0, 0, 0, 0, .null), (.getfield 13, 0, 0, 14, .null), (.sipush 176, 0, 0, 0, .int (176 : Int32)), (.iload 4, 0, 0, 0, .null), (.iadd, 0, 0, 0, .null), (.iaload, 0, 2, 0, .null)] [] (WW' := [w_Mo G a0 y1]) (lv' := [some (.ref (a0 0)), some (.int x1), some (.int x2), some (.int x3), some (.int q5)]) (pc' := 94) (st' := [.int ((Mo_now y1) ((176 : Int32) + q5).toNatClampNeg)]) (by decide +kernel) rfl rfl ⟨trivial, ⟨rfl, rfl, zw_6_43⟩, trivial, trivial, trivial, ⟨rfl, rfl, h8⟩, trivial⟩ ?_
                refine zr_goto (off := 4) (tgt := 98) (by decide +kernel) (by decide) ?_
                obtain rfl := Option.some.inj hf
                exact zr_iret (b0 := fun _ => 0) (by decide +kernel) rfl rfl rfl rfl rfl
              · have hf := ziff hf hc
                refine zr_run [(.iconst (-1), 0, 0, 0, .int (-1 : Int32))] [] (WW' := [w_Mo G a0 y1]) (lv' := [some (.ref (a0 0)), some (.int x1), some (.int x2), some (.int x3), some (.int q5)]) (pc' := 98) (st' := [.int (-1 : Int32)]) (by decide +kernel) rfl rfl ⟨trivial, trivial⟩ ?_
                obtain rfl := Option.some.inj hf
                exact zr_iret (b0 := fun _ => 0) (by decide +kernel) rfl rfl rfl rfl rfl
  exact zj_entry [some (.ref (a0 0)), some (.int x1), some (.int x2), some (.int x3), none] (by decide +kernel) rfl (by decide) (Nat.le_of_ble_eq_true rfl) rfl rfl (key _)
