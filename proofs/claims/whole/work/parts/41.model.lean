def M_X12_thrown : zj_M := (RX12, cX12_thrown, 1, (some .int), { frames := 0, cells := 0, slots := 0, locals := 0 }, false)
theorem nm_X12_thrown : zj_nm yX12_thrown 0 := ⟨by decide +kernel, by decide +kernel, by decide +kernel⟩
def f_X12_thrown  (s0 : MoT)  : Option (Int32) := some (Mo_thrown s0)
set_option maxRecDepth 100000 in
set_option maxHeartbeats 4000000 in
theorem c_X12_thrown (l : Launch) (G : zj_G) (a0 : Nat → Nat) (s0 : MoT)  (r : Int32) (hf : f_X12_thrown s0 = some r) : zj_C l G M_X12_thrown yX12_thrown [w_Mo G a0 s0] [.ref (a0 0)] (some (.int r)) (fun _ => [w_Mo G a0 s0]) := by
  have key : ∀ W0 : List va_W, zj_J l G M_X12_thrown W0 (zj_ret G M_X12_thrown W0 (some (.int r)) (fun _ => [w_Mo G a0 s0])) 0 0 [w_Mo G a0 s0] [some (.ref (a0 0))] 0 [] := by
    intro W0
    unfold f_X12_thrown at hf
    refine zr_run [(.aload_n 0, 0, 0, 0, .null), (.getfield 91, 0, 0, 0, .null)] [] (WW' := [w_Mo G a0 s0]) (lv' := [some (.ref (a0 0))]) (pc' := 4) (st' := [.int (Mo_thrown s0)]) (by decide +kernel) rfl rfl ⟨trivial, ⟨rfl, rfl, zw_6_29⟩, trivial⟩ ?_
    obtain rfl := Option.some.inj hf
    exact zr_iret (b0 := fun _ => 0) (by decide +kernel) rfl rfl rfl rfl rfl
  exact zj_entry [some (.ref (a0 0))] (by decide +kernel) rfl (by decide) (Nat.le_of_ble_eq_true rfl) rfl rfl (key _)
def M_X12_refuse : zj_M := (RX12, cX12_refuse, 1, (some .int), { frames := 0, cells := 0, slots := 0, locals := 0 }, false)
theorem nm_X12_refuse : zj_nm yX12_refuse 0 := ⟨by decide +kernel, by decide +kernel, by decide +kernel⟩
def f_X12_refuse  (s0 : MoT)  : Option (Int32 × MoT) := (zlet (Mo_s_thrown s0 (1 : Int32)) fun y1 => some ((0 : Int32), y1))
set_option maxRecDepth 100000 in
set_option maxHeartbeats 4000000 in
theorem c_X12_refuse (l : Launch) (G : zj_G) (a0 : Nat → Nat) (s0 : MoT)  (r : Int32 × MoT) (hf : f_X12_refuse s0 = some r) : zj_C l G M_X12_refuse yX12_refuse [w_Mo G a0 s0] [.ref (a0 0)] (some (.int r.1)) (fun _ => [w_Mo G a0 r.2]) := by
  have key : ∀ W0 : List va_W, zj_J l G M_X12_refuse W0 (zj_ret G M_X12_refuse W0 (some (.int r.1)) (fun _ => [w_Mo G a0 r.2])) 0 0 [w_Mo G a0 s0] [some (.ref (a0 0))] 0 [] := by
    intro W0
    unfold f_X12_refuse at hf
    obtain ⟨y1, e1, hf⟩ := zlet_of hf
    refine zr_run [(.aload_n 0, 0, 0, 0, .null), (.iconst 1, 0, 0, 0, .int (1 : Int32)), (.putfield 91, 0, 0, 0, .null)] [] (WW' := [w_Mo G a0 (Mo_s_thrown s0 (1 : Int32))]) (lv' := [some (.ref (a0 0))]) (pc' := 5) (st' := []) (by decide +kernel) rfl rfl ⟨trivial, trivial, ⟨rfl, rfl, rfl, trivial, rfl, rfl, zw_6_29⟩, trivial⟩ ?_
    refine zr_eq (WW2 := [w_Mo G a0 y1]) (lv2 := [some (.ref (a0 0))]) (st2 := []) (by rw [e1]) rfl rfl ?_
    refine zr_run [(.iconst 0, 0, 0, 0, .int (0 : Int32))] [] (WW' := [w_Mo G a0 y1]) (lv' := [some (.ref (a0 0))]) (pc' := 6) (st' := [.int (0 : Int32)]) (by decide +kernel) rfl rfl ⟨trivial, trivial⟩ ?_
    obtain rfl := Option.some.inj hf
    exact zr_iret (b0 := fun _ => 0) (by decide +kernel) rfl rfl rfl rfl rfl
  exact zj_entry [some (.ref (a0 0))] (by decide +kernel) rfl (by decide) (Nat.le_of_ble_eq_true rfl) rfl rfl (key _)
def M_X12_come : zj_M := (RX12, cX12_come, 3, none, { frames := 0, cells := 0, slots := 0, locals := 0 }, false)
theorem nm_X12_come : zj_nm yX12_come 1 := ⟨by decide +kernel, by decide +kernel, by decide +kernel⟩
def f_X12_come_H3  (s0 : MoT) (k3 : MoT → Int32 → Int32 → Option (MoT)) (x1 : Int32) (x2 : Int32) : Option (MoT) := (if x2 < 0 then some s0 else (zlet ((zr_ushr x1 x2) &&& (255 : Int32)) fun y1 => (if zb_in (Mo_taped s0) 940 = true then (zlet (Mo_s_tape s0 ((upd (Mo_tape s0) (Mo_taped s0).toNatClampNeg y1))) fun y3 => (zlet (Mo_s_taped y3 ((Mo_taped y3) + (1 : Int32))) fun y4 => k3 y4 x1 (x2 + (-8 : Int32)))) else none)))
def f_X12_come_L3    : Nat → MoT → Int32 → Int32 → Option (MoT)
  | 0 => fun _ _ _ => none
  | n + 1 => fun s0 x1 x2 => f_X12_come_H3 s0 (f_X12_come_L3  n) x1 x2
def f_X12_come  (s0 : MoT) (x1 : Int32) : Option (MoT) := f_X12_come_L3 zFU s0 x1 (24 : Int32)
set_option maxRecDepth 100000 in
set_option maxHeartbeats 4000000 in
theorem t_X12_come_H3 (l : Launch) (G : zj_G) (a0 : Nat → Nat) (W0 : List va_W) (r : MoT) (s0 : MoT) (k3 : MoT → Int32 → Int32 → Option (MoT)) (hk3 : ∀ (s0 : MoT) (x1 : Int32) (x2 : Int32), k3 s0 x1 x2 = some r → zj_J l G M_X12_come W0 (zj_ret G M_X12_come W0 (none) (fun _ => [w_Mo G a0 r])) 0 0 [w_Mo G a0 s0] [some (.ref (a0 0)), some (.int x1), some (.int x2)] 3 []) (x1 : Int32) (x2 : Int32) (hf : f_X12_come_H3 s0 k3 x1 x2 = some r) : zj_J l G M_X12_come W0 (zj_ret G M_X12_come W0 (none) (fun _ => [w_Mo G a0 r])) 0 0 [w_Mo G a0 s0] [some (.ref (a0 0)), some (.int x1), some (.int x2)] 3 [] := by
  unfold f_X12_come_H3 at hf
  refine zr_run [(.iload_n 2, 0, 0, 0, .null)] [] (WW' := [w_Mo G a0 s0]) (lv' := [some (.ref (a0 0)), some (.int x1), some (.int x2)]) (pc' := 4) (st' := [.int x2]) (by decide +kernel) rfl rfl ⟨trivial, trivial⟩ ?_
  refine zr_if_lt (off := 35) (tgt := 39) (by decide +kernel) (by decide) (fun hc => ?_) (fun hc => ?_)
  · have hf := zift hf hc
    obtain rfl := Option.some.inj hf
    exact zr_vret (b0 := fun _ => 0) (by decide +kernel) rfl rfl rfl rfl rfl
  · have hf := ziff hf hc
    obtain ⟨y1, e1, hf⟩ := zlet_of hf
    refine zr_run [(.aload_n 0, 0, 0, 0, .null), (.getfield 7, 0, 0, 1, .null), (.aload_n 0, 0, 0, 0, .null), (.getfield 94, 0, 0, 2, .null), (.iload_n 1, 0, 0, 0, .null), (.iload_n 2, 0, 0, 0, .null), (.iushr, 0, 0, 0, .null), (.sipush 255, 0, 0, 0, .int (255 : Int32)), (.iand, 0, 0, 0, .null)] [] (WW' := [w_Mo G a0 s0]) (lv' := [some (.ref (a0 0)), some (.int x1), some (.int x2)]) (pc' := 22) (st' := [.int ((zr_ushr x1 x2) &&& (255 : Int32)), .int (Mo_taped s0), .ref (a0 1)]) (by decide +kernel) rfl rfl ⟨trivial, ⟨rfl, rfl, zw_6_30⟩, trivial, ⟨rfl, rfl, zw_6_31⟩, trivial, trivial, trivial, trivial, trivial, trivial⟩ ?_
    refine zr_eq (WW2 := [w_Mo G a0 s0]) (lv2 := [some (.ref (a0 0)), some (.int x1), some (.int x2)]) (st2 := [.int y1, .int (Mo_taped s0), .ref (a0 1)]) rfl rfl (by rw [e1]) ?_
    obtain ⟨h2, hf⟩ := zck_of hf
    obtain ⟨y3, e3, hf⟩ := zlet_of hf
    refine zr_run [(.iastore, 0, 1, 0, .null)] [] (WW' := [w_Mo G a0 (Mo_s_tape s0 ((upd (Mo_tape s0) (Mo_taped s0).toNatClampNeg y1)))]) (lv' := [some (.ref (a0 0)), some (.int x1), some (.int x2)]) (pc' := 23) (st' := []) (by decide +kernel) rfl rfl ⟨⟨rfl, rfl, h2⟩, trivial⟩ ?_
    refine zr_eq (WW2 := [w_Mo G a0 y3]) (lv2 := [some (.ref (a0 0)), some (.int x1), some (.int x2)]) (st2 := []) (by rw [e3]) rfl rfl ?_
    obtain ⟨y4, e4, hf⟩ := zlet_of hf
    refine zr_run [(.aload_n 0, 0, 0, 0, .null), (.dup, 0, 0, 0, .null), (.getfield 94, 0, 0, 2, .null), (.iconst 1, 0, 0, 0, .int (1 : Int32)), (.iadd, 0, 0, 0, .null), (.putfield 94, 0, 0, 2, .null)] [] (WW' := [w_Mo G a0 (Mo_s_taped y3 ((Mo_taped y3) + (1 : Int32)))]) (lv' := [some (.ref (a0 0)), some (.int x1), some (.int x2)]) (pc' := 33) (st' := []) (by decide +kernel) rfl rfl ⟨trivial, trivial, ⟨rfl, rfl, zw_6_31⟩, trivial, trivial, ⟨rfl, rfl, rfl, trivial, rfl, rfl, zw_6_31⟩, trivial⟩ ?_
    refine zr_eq (WW2 := [w_Mo G a0 y4]) (lv2 := [some (.ref (a0 0)), some (.int x1), some (.int x2)]) (st2 := []) (by rw [e4]) rfl rfl ?_
    refine zr_run [(.iinc 2 (-8), 0, 0, 0, .int (-8 : Int32))] [] (WW' := [w_Mo G a0 y4]) (lv' := [some (.ref (a0 0)), some (.int x1), some (.int (x2 + (-8 : Int32)))]) (pc' := 36) (st' := []) (by decide +kernel) rfl rfl ⟨trivial, trivial⟩ ?_
    refine zr_goto (off := -33) (tgt := 3) (by decide +kernel) (by decide) ?_
    exact hk3 y4 x1 (x2 + (-8 : Int32)) hf
theorem t_X12_come_L3 (l : Launch) (G : zj_G) (a0 : Nat → Nat) (W0 : List va_W) (r : MoT)    : ∀ (n : Nat) (s0 : MoT) (x1 : Int32) (x2 : Int32), f_X12_come_L3 n s0 x1 x2 = some r → zj_J l G M_X12_come W0 (zj_ret G M_X12_come W0 (none) (fun _ => [w_Mo G a0 r])) 0 0 [w_Mo G a0 s0] [some (.ref (a0 0)), some (.int x1), some (.int x2)] 3 [] := by
  intro n
  induction n with
  | zero => intro s0 x1 x2 hf; exact nomatch (show none = some r from hf)
  | succ n ih => intro s0 x1 x2 hf; exact t_X12_come_H3 l G a0 W0 r s0  (f_X12_come_L3 n)  ih x1 x2  hf
set_option maxRecDepth 100000 in
set_option maxHeartbeats 4000000 in
theorem c_X12_come (l : Launch) (G : zj_G) (a0 : Nat → Nat) (s0 : MoT) (x1 : Int32) (r : MoT) (hf : f_X12_come s0 x1 = some r) : zj_C l G M_X12_come yX12_come [w_Mo G a0 s0] [.ref (a0 0), .int x1] (none) (fun _ => [w_Mo G a0 r]) := by
  have key : ∀ W0 : List va_W, zj_J l G M_X12_come W0 (zj_ret G M_X12_come W0 (none) (fun _ => [w_Mo G a0 r])) 0 0 [w_Mo G a0 s0] [some (.ref (a0 0)), some (.int x1), none] 0 [] := by
    intro W0
    unfold f_X12_come at hf
    refine zr_run [(.bipush 24, 0, 0, 0, .int (24 : Int32)), (.istore_n 2, 0, 0, 0, .null)] [] (WW' := [w_Mo G a0 s0]) (lv' := [some (.ref (a0 0)), some (.int x1), some (.int (24 : Int32))]) (pc' := 3) (st' := []) (by decide +kernel) rfl rfl ⟨trivial, trivial, trivial⟩ ?_
    exact t_X12_come_L3 l G a0 W0 r zFU s0 x1 (24 : Int32) hf
  exact zj_entry [some (.ref (a0 0)), some (.int x1), none] (by decide +kernel) rfl (by decide) (Nat.le_of_ble_eq_true rfl) rfl rfl (key _)
def M_X12_feed : zj_M := (RX12, cX12_feed, 6, (some .int), { frames := 1, cells := 0, slots := 0, locals := 22 }, false)
theorem nm_X12_feed : zj_nm yX12_feed 5 := ⟨by decide +kernel, by decide +kernel, by decide +kernel⟩
def f_X12_feed  (s0 : MoT) (x1 : Int32) (x2 : Int32) (x3 : Int32) (x4 : Int32) (x5 : Int32) : Option (Int32 × MoT) := (zlet (Mo_s_thrown s0 (0 : Int32)) fun y1 => (if (940 : Int32) < ((Mo_taped y1) + (20 : Int32)) then some ((-1 : Int32), y1) else ((f_X12_come y1 x1).bind fun q2 => ((f_X12_come q2 x2).bind fun q3 => ((f_X12_come q3 x3).bind fun q4 => ((f_X12_come q4 x4).bind fun q5 => ((f_X12_come q5 x5).bind fun q6 => some ((Mo_taped q6), q6))))))))
set_option maxRecDepth 100000 in
set_option maxHeartbeats 4000000 in
theorem c_X12_feed (l : Launch) (G : zj_G) (a0 : Nat → Nat) (s0 : MoT) (x1 : Int32) (x2 : Int32) (x3 : Int32) (x4 : Int32) (x5 : Int32) (r : Int32 × MoT) (hf : f_X12_feed s0 x1 x2 x3 x4 x5 = some r) : zj_C l G M_X12_feed yX12_feed [w_Mo G a0 s0] [.ref (a0 0), .int x1, .int x2, .int x3, .int x4, .int x5] (some (.int r.1)) (fun _ => [w_Mo G a0 r.2]) := by
  have key : ∀ W0 : List va_W, zj_J l G M_X12_feed W0 (zj_ret G M_X12_feed W0 (some (.int r.1)) (fun _ => [w_Mo G a0 r.2])) 0 0 [w_Mo G a0 s0] [some (.ref (a0 0)), some (.int x1), some (.int x2), some (.int x3), some (.int x4), some (.int x5)] 0 [] := by
    intro W0
    unfold f_X12_feed at hf
    obtain ⟨y1, e1, hf⟩ := zlet_of hf
    refine zr_run [(.aload_n 0, 0, 0, 0, .null), (.iconst 0, 0, 0, 0, .int (0 : Int32)), (.putfield 91, 0, 0, 0, .null)] [] (WW' := [w_Mo G a0 (Mo_s_thrown s0 (0 : Int32))]) (lv' := [some (.ref (a0 0)), some (.int x1), some (.int x2), some (.int x3), some (.int x4), some (.int x5)]) (pc' := 5) (st' := []) (by decide +kernel) rfl rfl ⟨trivial, trivial, ⟨rfl, rfl, rfl, trivial, rfl, rfl, zw_6_29⟩, trivial⟩ ?_
    refine zr_eq (WW2 := [w_Mo G a0 y1]) (lv2 := [some (.ref (a0 0)), some (.int x1), some (.int x2), some (.int x3), some (.int x4), some (.int x5)]) (st2 := []) (by rw [e1]) rfl rfl ?_
    refine zr_run [(.aload_n 0, 0, 0, 0, .null), (.getfield 94, 0, 0, 2, .null), (.bipush 20, 0, 0, 0, .int (20 : Int32)), (.iadd, 0, 0, 0, .null), (.sipush 940, 0, 0, 0, .int (940 : Int32))] [] (WW' := [w_Mo G a0 y1]) (lv' := [some (.ref (a0 0)), some (.int x1), some (.int x2), some (.int x3), some (.int x4), some (.int x5)]) (pc' := 15) (st' := [.int (940 : Int32), .int ((Mo_taped y1) + (20 : Int32))]) (by decide +kernel) rfl rfl ⟨trivial, ⟨rfl, rfl, zw_6_31⟩, trivial, trivial, trivial, trivial⟩ ?_
    refine zr_icmp_le (off := 5) (tgt := 20) (by decide +kernel) (by decide) (fun hc => ?_) (fun hc => ?_)
    · have hf := zift hf hc
      refine zr_run [(.iconst (-1), 0, 0, 0, .int (-1 : Int32))] [] (WW' := [w_Mo G a0 y1]) (lv' := [some (.ref (a0 0)), some (.int x1), some (.int x2), some (.int x3), some (.int x4), some (.int x5)]) (pc' := 19) (st' := [.int (-1 : Int32)]) (by decide +kernel) rfl rfl ⟨trivial, trivial⟩ ?_
      obtain rfl := Option.some.inj hf
      exact zr_iret (b0 := fun _ => 0) (by decide +kernel) rfl rfl rfl rfl rfl
    · have hf := ziff hf hc
      obtain ⟨q2, e2, hf⟩ := zbi_of hf
      refine zr_run [(.aload_n 0, 0, 0, 0, .null), (.iload_n 1, 0, 0, 0, .null)] [] (WW' := [w_Mo G a0 y1]) (lv' := [some (.ref (a0 0)), some (.int x1), some (.int x2), some (.int x3), some (.int x4), some (.int x5)]) (pc' := 22) (st' := [.int x1, .ref (a0 0)]) (by decide +kernel) rfl rfl ⟨trivial, trivial, trivial⟩ ?_
      refine zr_callV (c_X12_come l G a0 y1 x1 q2 e2) (WW' := fun _ => [w_Mo G a0 q2]) (st := []) (st' := []) [0] rfl rfl (fun _ => Nat.le_of_ble_eq_true rfl) (fun _ => rfl) rfl rfl nm_X12_come zw_6_201 zw_6_203 zw_0_47 zw_1_18 zw_6_204 rfl rfl rfl (Nat.le_of_ble_eq_true rfl) ⟨Nat.le_of_ble_eq_true rfl, Nat.le_of_ble_eq_true rfl⟩ (by decide +kernel) (fun _ => ?_)
      obtain ⟨q3, e3, hf⟩ := zbi_of hf
      refine zr_run [(.aload_n 0, 0, 0, 0, .null), (.iload_n 2, 0, 0, 0, .null)] [] (WW' := [w_Mo G a0 q2]) (lv' := [some (.ref (a0 0)), some (.int x1), some (.int x2), some (.int x3), some (.int x4), some (.int x5)]) (pc' := 27) (st' := [.int x2, .ref (a0 0)]) (by decide +kernel) rfl rfl ⟨trivial, trivial, trivial⟩ ?_
      refine zr_callV (c_X12_come l G a0 q2 x2 q3 e3) (WW' := fun _ => [w_Mo G a0 q3]) (st := []) (st' := []) [0] rfl rfl (fun _ => Nat.le_of_ble_eq_true rfl) (fun _ => rfl) rfl rfl nm_X12_come zw_6_201 zw_6_203 zw_0_47 zw_1_18 zw_6_204 rfl rfl rfl (Nat.le_of_ble_eq_true rfl) ⟨Nat.le_of_ble_eq_true rfl, Nat.le_of_ble_eq_true rfl⟩ (by decide +kernel) (fun _ => ?_)
      obtain ⟨q4, e4, hf⟩ := zbi_of hf
      refine zr_run [(.aload_n 0, 0, 0, 0, .null), (.iload_n 3, 0, 0, 0, .null)] [] (WW' := [w_Mo G a0 q3]) (lv' := [some (.ref (a0 0)), some (.int x1), some (.int x2), some (.int x3), some (.int x4), some (.int x5)]) (pc' := 32) (st' := [.int x3, .ref (a0 0)]) (by decide +kernel) rfl rfl ⟨trivial, trivial, trivial⟩ ?_
      refine zr_callV (c_X12_come l G a0 q3 x3 q4 e4) (WW' := fun _ => [w_Mo G a0 q4]) (st := []) (st' := []) [0] rfl rfl (fun _ => Nat.le_of_ble_eq_true rfl) (fun _ => rfl) rfl rfl nm_X12_come zw_6_201 zw_6_203 zw_0_47 zw_1_18 zw_6_204 rfl rfl rfl (Nat.le_of_ble_eq_true rfl) ⟨Nat.le_of_ble_eq_true rfl, Nat.le_of_ble_eq_true rfl⟩ (by decide +kernel) (fun _ => ?_)
      obtain ⟨q5, e5, hf⟩ := zbi_of hf
      refine zr_run [(.aload_n 0, 0, 0, 0, .null), (.iload 4, 0, 0, 0, .null)] [] (WW' := [w_Mo G a0 q4]) (lv' := [some (.ref (a0 0)), some (.int x1), some (.int x2), some (.int x3), some (.int x4), some (.int x5)]) (pc' := 38) (st' := [.int x4, .ref (a0 0)]) (by decide +kernel) rfl rfl ⟨trivial, trivial, trivial⟩ ?_
      refine zr_callV (c_X12_come l G a0 q4 x4 q5 e5) (WW' := fun _ => [w_Mo G a0 q5]) (st := []) (st' := []) [0] rfl rfl (fun _ => Nat.le_of_ble_eq_true rfl) (fun _ => rfl) rfl rfl nm_X12_come zw_6_201 zw_6_203 zw_0_47 zw_1_18 zw_6_204 rfl rfl rfl (Nat.le_of_ble_eq_true rfl) ⟨Nat.le_of_ble_eq_true rfl, Nat.le_of_ble_eq_true rfl⟩ (by decide +kernel) (fun _ => ?_)
      obtain ⟨q6, e6, hf⟩ := zbi_of hf
      refine zr_run [(.aload_n 0, 0, 0, 0, .null), (.iload 5, 0, 0, 0, .null)] [] (WW' := [w_Mo G a0 q5]) (lv' := [some (.ref (a0 0)), some (.int x1), some (.int x2), some (.int x3), some (.int x4), some (.int x5)]) (pc' := 44) (st' := [.int x5, .ref (a0 0)]) (by decide +kernel) rfl rfl ⟨trivial, trivial, trivial⟩ ?_
      refine zr_callV (c_X12_come l G a0 q5 x5 q6 e6) (WW' := fun _ => [w_Mo G a0 q6]) (st := []) (st' := []) [0] rfl rfl (fun _ => Nat.le_of_ble_eq_true rfl) (fun _ => rfl) rfl rfl nm_X12_come zw_6_201 zw_6_203 zw_0_47 zw_1_18 zw_6_204 rfl rfl rfl (Nat.le_of_ble_eq_true rfl) ⟨Nat.le_of_ble_eq_true rfl, Nat.le_of_ble_eq_true rfl⟩ (by decide +kernel) (fun _ => ?_)
      refine zr_run [(.aload_n 0, 0, 0, 0, .null), (.getfield 94, 0, 0, 2, .null)] [] (WW' := [w_Mo G a0 q6]) (lv' := [some (.ref (a0 0)), some (.int x1), some (.int x2), some (.int x3), some (.int x4), some (.int x5)]) (pc' := 51) (st' := [.int (Mo_taped q6)]) (by decide +kernel) rfl rfl ⟨trivial, ⟨rfl, rfl, zw_6_31⟩, trivial⟩ ?_
      obtain rfl := Option.some.inj hf
      exact zr_iret (b0 := fun _ => 0) (by decide +kernel) rfl rfl rfl rfl rfl
  exact zj_entry [some (.ref (a0 0)), some (.int x1), some (.int x2), some (.int x3), some (.int x4), some (.int x5)] (by decide +kernel) rfl (by decide) (Nat.le_of_ble_eq_true rfl) rfl rfl (key _)
def M_X12_end : zj_M := (RX12, cX12_end, 2, (some .boolean), { frames := 0, cells := 0, slots := 0, locals := 0 }, false)
theorem nm_X12_end : zj_nm yX12_end 1 := ⟨by decide +kernel, by decide +kernel, by decide +kernel⟩
def f_X12_end  (s0 : MoT) (x1 : Int32) : Option (Int32 × MoT) := (zlet (Mo_s_thrown s0 (0 : Int32)) fun y1 => (if x1 < 0 then some ((0 : Int32), y1) else (if (Mo_taped y1) < x1 then some ((0 : Int32), y1) else (zlet (Mo_s_taped y1 x1) fun y2 => some ((1 : Int32), y2)))))
set_option maxRecDepth 100000 in
set_option maxHeartbeats 4000000 in
theorem c_X12_end (l : Launch) (G : zj_G) (a0 : Nat → Nat) (s0 : MoT) (x1 : Int32) (r : Int32 × MoT) (hf : f_X12_end s0 x1 = some r) : zj_C l G M_X12_end yX12_end [w_Mo G a0 s0] [.ref (a0 0), .int x1] (some (.int r.1)) (fun _ => [w_Mo G a0 r.2]) := by
  have key : ∀ W0 : List va_W, zj_J l G M_X12_end W0 (zj_ret G M_X12_end W0 (some (.int r.1)) (fun _ => [w_Mo G a0 r.2])) 0 0 [w_Mo G a0 s0] [some (.ref (a0 0)), some (.int x1)] 0 [] := by
    intro W0
    unfold f_X12_end at hf
    obtain ⟨y1, e1, hf⟩ := zlet_of hf
    refine zr_run [(.aload_n 0, 0, 0, 0, .null), (.iconst 0, 0, 0, 0, .int (0 : Int32)), (.putfield 91, 0, 0, 0, .null)] [] (WW' := [w_Mo G a0 (Mo_s_thrown s0 (0 : Int32))]) (lv' := [some (.ref (a0 0)), some (.int x1)]) (pc' := 5) (st' := []) (by decide +kernel) rfl rfl ⟨trivial, trivial, ⟨rfl, rfl, rfl, trivial, rfl, rfl, zw_6_29⟩, trivial⟩ ?_
    refine zr_eq (WW2 := [w_Mo G a0 y1]) (lv2 := [some (.ref (a0 0)), some (.int x1)]) (st2 := []) (by rw [e1]) rfl rfl ?_
    refine zr_run [(.iload_n 1, 0, 0, 0, .null)] [] (WW' := [w_Mo G a0 y1]) (lv' := [some (.ref (a0 0)), some (.int x1)]) (pc' := 6) (st' := [.int x1]) (by decide +kernel) rfl rfl ⟨trivial, trivial⟩ ?_
    refine zr_if_lt (off := 11) (tgt := 17) (by decide +kernel) (by decide) (fun hc => ?_) (fun hc => ?_)
    · have hf := zift hf hc
      refine zr_run [(.iconst 0, 0, 0, 0, .int (0 : Int32))] [] (WW' := [w_Mo G a0 y1]) (lv' := [some (.ref (a0 0)), some (.int x1)]) (pc' := 18) (st' := [.int (0 : Int32)]) (by decide +kernel) rfl rfl ⟨trivial, trivial⟩ ?_
      obtain rfl := Option.some.inj hf
      exact zr_zret (by decide) (b0 := fun _ => 0) (by decide +kernel) rfl rfl rfl rfl rfl
    · have hf := ziff hf hc
      refine zr_run [(.iload_n 1, 0, 0, 0, .null), (.aload_n 0, 0, 0, 0, .null), (.getfield 94, 0, 0, 2, .null)] [] (WW' := [w_Mo G a0 y1]) (lv' := [some (.ref (a0 0)), some (.int x1)]) (pc' := 14) (st' := [.int (Mo_taped y1), .int x1]) (by decide +kernel) rfl rfl ⟨trivial, trivial, ⟨rfl, rfl, zw_6_31⟩, trivial⟩ ?_
      refine zr_icmp_le (off := 5) (tgt := 19) (by decide +kernel) (by decide) (fun hc => ?_) (fun hc => ?_)
      · have hf := zift hf hc
        refine zr_run [(.iconst 0, 0, 0, 0, .int (0 : Int32))] [] (WW' := [w_Mo G a0 y1]) (lv' := [some (.ref (a0 0)), some (.int x1)]) (pc' := 18) (st' := [.int (0 : Int32)]) (by decide +kernel) rfl rfl ⟨trivial, trivial⟩ ?_
        obtain rfl := Option.some.inj hf
        exact zr_zret (by decide) (b0 := fun _ => 0) (by decide +kernel) rfl rfl rfl rfl rfl
      · have hf := ziff hf hc
        obtain ⟨y2, e2, hf⟩ := zlet_of hf
        refine zr_run [(.aload_n 0, 0, 0, 0, .null), (.iload_n 1, 0, 0, 0, .null), (.putfield 94, 0, 0, 2, .null)] [] (WW' := [w_Mo G a0 (Mo_s_taped y1 x1)]) (lv' := [some (.ref (a0 0)), some (.int x1)]) (pc' := 24) (st' := []) (by decide +kernel) rfl rfl ⟨trivial, trivial, ⟨rfl, rfl, rfl, trivial, rfl, rfl, zw_6_31⟩, trivial⟩ ?_
        refine zr_eq (WW2 := [w_Mo G a0 y2]) (lv2 := [some (.ref (a0 0)), some (.int x1)]) (st2 := []) (by rw [e2]) rfl rfl ?_
        refine zr_run [(.iconst 1, 0, 0, 0, .int (1 : Int32))] [] (WW' := [w_Mo G a0 y2]) (lv' := [some (.ref (a0 0)), some (.int x1)]) (pc' := 25) (st' := [.int (1 : Int32)]) (by decide +kernel) rfl rfl ⟨trivial, trivial⟩ ?_
        obtain rfl := Option.some.inj hf
        exact zr_zret (by decide) (b0 := fun _ => 0) (by decide +kernel) rfl rfl rfl rfl rfl
  exact zj_entry [some (.ref (a0 0)), some (.int x1)] (by decide +kernel) rfl (by decide) (Nat.le_of_ble_eq_true rfl) rfl rfl (key _)
def M_X12_take : zj_M := (RX12, cX12_take, 2, (some .int), { frames := 0, cells := 0, slots := 0, locals := 0 }, false)
theorem nm_X12_take : zj_nm yX12_take 0 := ⟨by decide +kernel, by decide +kernel, by decide +kernel⟩
def f_X12_take  (s0 : MoT)  : Option (Int32 × MoT) := (zlet (Mo_s_taped s0 (0 : Int32)) fun y1 => some ((Mo_taped s0), y1))
set_option maxRecDepth 100000 in
set_option maxHeartbeats 4000000 in
theorem c_X12_take (l : Launch) (G : zj_G) (a0 : Nat → Nat) (s0 : MoT)  (r : Int32 × MoT) (hf : f_X12_take s0 = some r) : zj_C l G M_X12_take yX12_take [w_Mo G a0 s0] [.ref (a0 0)] (some (.int r.1)) (fun _ => [w_Mo G a0 r.2]) := by
  have key : ∀ W0 : List va_W, zj_J l G M_X12_take W0 (zj_ret G M_X12_take W0 (some (.int r.1)) (fun _ => [w_Mo G a0 r.2])) 0 0 [w_Mo G a0 s0] [some (.ref (a0 0)), none] 0 [] := by
    intro W0
    unfold f_X12_take at hf
    obtain ⟨y1, e1, hf⟩ := zlet_of hf
    refine zr_run [(.aload_n 0, 0, 0, 0, .null), (.getfield 94, 0, 0, 2, .null), (.istore_n 1, 0, 0, 0, .null), (.aload_n 0, 0, 0, 0, .null), (.iconst 0, 0, 0, 0, .int (0 : Int32)), (.putfield 94, 0, 0, 2, .null)] [] (WW' := [w_Mo G a0 (Mo_s_taped s0 (0 : Int32))]) (lv' := [some (.ref (a0 0)), some (.int (Mo_taped s0))]) (pc' := 10) (st' := []) (by decide +kernel) rfl rfl ⟨trivial, ⟨rfl, rfl, zw_6_31⟩, trivial, trivial, trivial, ⟨rfl, rfl, rfl, trivial, rfl, rfl, zw_6_31⟩, trivial⟩ ?_
    refine zr_eq (WW2 := [w_Mo G a0 y1]) (lv2 := [some (.ref (a0 0)), some (.int (Mo_taped s0))]) (st2 := []) (by rw [e1]) rfl rfl ?_
    refine zr_run [(.iload_n 1, 0, 0, 0, .null)] [] (WW' := [w_Mo G a0 y1]) (lv' := [some (.ref (a0 0)), some (.int (Mo_taped s0))]) (pc' := 11) (st' := [.int (Mo_taped s0)]) (by decide +kernel) rfl rfl ⟨trivial, trivial⟩ ?_
    obtain rfl := Option.some.inj hf
    exact zr_iret (b0 := fun _ => 0) (by decide +kernel) rfl rfl rfl rfl rfl
  exact zj_entry [some (.ref (a0 0)), none] (by decide +kernel) rfl (by decide) (Nat.le_of_ble_eq_true rfl) rfl rfl (key _)
def M_X12_isIn : zj_M := (RX12, cX12_isIn, 3, (some .boolean), { frames := 0, cells := 0, slots := 0, locals := 0 }, false)
theorem nm_X12_isIn : zj_nm yX12_isIn 3 := ⟨by decide +kernel, by decide +kernel, by decide +kernel⟩
def f_X12_isIn_b14     : Option (Int32) := some (0 : Int32)
def f_X12_isIn   (x0 : Int32) (x1 : Int32) (x2 : Int32) : Option (Int32) := (if x0 < x1 then f_X12_isIn_b14 else (if x2 < x0 then f_X12_isIn_b14 else some (1 : Int32)))
set_option maxRecDepth 100000 in
set_option maxHeartbeats 4000000 in
theorem t_X12_isIn_b14 (l : Launch) (G : zj_G)  (W0 : List va_W) (r : Int32)     (hf : f_X12_isIn_b14 = some r) : zj_J l G M_X12_isIn W0 (zj_ret G M_X12_isIn W0 (some (.int r)) (fun _ => [])) 0 0 [] [none, none, none] 14 [] := by
  unfold f_X12_isIn_b14 at hf
  refine zr_run [(.iconst 0, 0, 0, 0, .int (0 : Int32))] [] (WW' := []) (lv' := [none, none, none]) (pc' := 15) (st' := [.int (0 : Int32)]) (by decide +kernel) rfl rfl ⟨trivial, trivial⟩ ?_
  obtain rfl := Option.some.inj hf
  exact zr_zret (by decide) (b0 := fun _ => 0) (by decide +kernel) rfl rfl rfl rfl rfl
set_option maxRecDepth 100000 in
set_option maxHeartbeats 4000000 in
theorem c_X12_isIn (l : Launch) (G : zj_G)   (x0 : Int32) (x1 : Int32) (x2 : Int32) (r : Int32) (hf : f_X12_isIn x0 x1 x2 = some r) : zj_C l G M_X12_isIn yX12_isIn [] [.int x0, .int x1, .int x2] (some (.int r)) (fun _ => []) := by
  have key : ∀ W0 : List va_W, zj_J l G M_X12_isIn W0 (zj_ret G M_X12_isIn W0 (some (.int r)) (fun _ => [])) 0 0 [] [some (.int x0), some (.int x1), some (.int x2)] 0 [] := by
    intro W0
    unfold f_X12_isIn at hf
    refine zr_run [(.iload_n 0, 0, 0, 0, .null), (.iload_n 1, 0, 0, 0, .null)] [] (WW' := []) (lv' := [some (.int x0), some (.int x1), some (.int x2)]) (pc' := 2) (st' := [.int x1, .int x0]) (by decide +kernel) rfl rfl ⟨trivial, trivial, trivial⟩ ?_
    refine zr_icmp_lt (off := 12) (tgt := 14) (by decide +kernel) (by decide) (fun hc => ?_) (fun hc => ?_)
    · have hf := zift hf hc
      refine zr_run [] [0, 1, 2] (WW' := []) (lv' := [none, none, none]) (pc' := 14) (st' := []) (by decide +kernel) rfl rfl trivial ?_
      exact t_X12_isIn_b14 l G W0 r hf
    · have hf := ziff hf hc
      refine zr_run [(.iload_n 0, 0, 0, 0, .null), (.iload_n 2, 0, 0, 0, .null)] [] (WW' := []) (lv' := [some (.int x0), some (.int x1), some (.int x2)]) (pc' := 7) (st' := [.int x2, .int x0]) (by decide +kernel) rfl rfl ⟨trivial, trivial, trivial⟩ ?_
      refine zr_icmp_gt (off := 7) (tgt := 14) (by decide +kernel) (by decide) (fun hc => ?_) (fun hc => ?_)
      · have hf := zift hf hc
        refine zr_run [] [0, 1, 2] (WW' := []) (lv' := [none, none, none]) (pc' := 14) (st' := []) (by decide +kernel) rfl rfl trivial ?_
        exact t_X12_isIn_b14 l G W0 r hf
      · have hf := ziff hf hc
        refine zr_run [(.iconst 1, 0, 0, 0, .int (1 : Int32))] [] (WW' := []) (lv' := [some (.int x0), some (.int x1), some (.int x2)]) (pc' := 11) (st' := [.int (1 : Int32)]) (by decide +kernel) rfl rfl ⟨trivial, trivial⟩ ?_
        refine zr_goto (off := 4) (tgt := 15) (by decide +kernel) (by decide) ?_
        obtain rfl := Option.some.inj hf
        exact zr_zret (by decide) (b0 := fun _ => 0) (by decide +kernel) rfl rfl rfl rfl rfl
  exact zj_entry [some (.int x0), some (.int x1), some (.int x2)] (by decide +kernel) rfl (by decide) (Nat.le_of_ble_eq_true rfl) rfl rfl (key _)
def M_X12_has : zj_M := (RX12, cX12_has, 2, (some .boolean), { frames := 0, cells := 0, slots := 0, locals := 0 }, false)
theorem nm_X12_has : zj_nm yX12_has 2 := ⟨by decide +kernel, by decide +kernel, by decide +kernel⟩
def f_X12_has   (x0 : Int32) (x1 : Int32) : Option (Int32) := (if ((zr_shr x0 x1) &&& (1 : Int32)) = (1 : Int32) then some (1 : Int32) else some (0 : Int32))
set_option maxRecDepth 100000 in
set_option maxHeartbeats 4000000 in
theorem c_X12_has (l : Launch) (G : zj_G)   (x0 : Int32) (x1 : Int32) (r : Int32) (hf : f_X12_has x0 x1 = some r) : zj_C l G M_X12_has yX12_has [] [.int x0, .int x1] (some (.int r)) (fun _ => []) := by
  have key : ∀ W0 : List va_W, zj_J l G M_X12_has W0 (zj_ret G M_X12_has W0 (some (.int r)) (fun _ => [])) 0 0 [] [some (.int x0), some (.int x1)] 0 [] := by
    intro W0
    unfold f_X12_has at hf
    refine zr_run [(.iload_n 0, 0, 0, 0, .null), (.iload_n 1, 0, 0, 0, .null), (.ishr, 0, 0, 0, .null), (.iconst 1, 0, 0, 0, .int (1 : Int32)), (.iand, 0, 0, 0, .null), (.iconst 1, 0, 0, 0, .int (1 : Int32))] [] (WW' := []) (lv' := [some (.int x0), some (.int x1)]) (pc' := 6) (st' := [.int (1 : Int32), .int ((zr_shr x0 x1) &&& (1 : Int32))]) (by decide +kernel) rfl rfl ⟨trivial, trivial, trivial, trivial, trivial, trivial, trivial⟩ ?_
    refine zr_icmp_ne (off := 7) (tgt := 13) (by decide +kernel) (by decide) (fun hc => ?_) (fun hc => ?_)
    · have hf := zift hf hc
      refine zr_run [(.iconst 1, 0, 0, 0, .int (1 : Int32))] [] (WW' := []) (lv' := [some (.int x0), some (.int x1)]) (pc' := 10) (st' := [.int (1 : Int32)]) (by decide +kernel) rfl rfl ⟨trivial, trivial⟩ ?_
      refine zr_goto (off := 4) (tgt := 14) (by decide +kernel) (by decide) ?_
      obtain rfl := Option.some.inj hf
      exact zr_zret (by decide) (b0 := fun _ => 0) (by decide +kernel) rfl rfl rfl rfl rfl
    · have hf := ziff hf hc
      refine zr_run [(.iconst 0, 0, 0, 0, .int (0 : Int32))] [] (WW' := []) (lv' := [some (.int x0), some (.int x1)]) (pc' := 14) (st' := [.int (0 : Int32)]) (by decide +kernel) rfl rfl ⟨trivial, trivial⟩ ?_
      obtain rfl := Option.some.inj hf
      exact zr_zret (by decide) (b0 := fun _ => 0) (by decide +kernel) rfl rfl rfl rfl rfl
  exact zj_entry [some (.int x0), some (.int x1)] (by decide +kernel) rfl (by decide) (Nat.le_of_ble_eq_true rfl) rfl rfl (key _)
def M_X12_bits : zj_M := (RX12, cX12_bits, 3, (some .int), { frames := 0, cells := 0, slots := 0, locals := 0 }, false)
theorem nm_X12_bits : zj_nm yX12_bits 1 := ⟨by decide +kernel, by decide +kernel, by decide +kernel⟩
def f_X12_bits_H4   (k4 : Int32 → Int32 → Option (Int32)) (x1 : Int32) (x2 : Int32) : Option (Int32) := (if x2 = 0 then some x1 else k4 (x1 + (1 : Int32)) (x2 &&& (x2 - (1 : Int32))))
def f_X12_bits_L4    : Nat → Int32 → Int32 → Option (Int32)
  | 0 => fun _ _ => none
  | n + 1 => fun x1 x2 => f_X12_bits_H4 (f_X12_bits_L4  n) x1 x2
def f_X12_bits   (x0 : Int32) : Option (Int32) := f_X12_bits_L4 zFU (0 : Int32) x0
set_option maxRecDepth 100000 in
set_option maxHeartbeats 4000000 in
theorem t_X12_bits_H4 (l : Launch) (G : zj_G)  (W0 : List va_W) (r : Int32)  (k4 : Int32 → Int32 → Option (Int32)) (hk4 : ∀ (x1 : Int32) (x2 : Int32), k4 x1 x2 = some r → zj_J l G M_X12_bits W0 (zj_ret G M_X12_bits W0 (some (.int r)) (fun _ => [])) 0 0 [] [none, some (.int x1), some (.int x2)] 4 []) (x1 : Int32) (x2 : Int32) (hf : f_X12_bits_H4 k4 x1 x2 = some r) : zj_J l G M_X12_bits W0 (zj_ret G M_X12_bits W0 (some (.int r)) (fun _ => [])) 0 0 [] [none, some (.int x1), some (.int x2)] 4 [] := by
  unfold f_X12_bits_H4 at hf
  refine zr_run [(.iload_n 2, 0, 0, 0, .null)] [] (WW' := []) (lv' := [none, some (.int x1), some (.int x2)]) (pc' := 5) (st' := [.int x2]) (by decide +kernel) rfl rfl ⟨trivial, trivial⟩ ?_
  refine zr_if_eq (off := 15) (tgt := 20) (by decide +kernel) (by decide) (fun hc => ?_) (fun hc => ?_)
  · have hf := zift hf hc
    refine zr_run [(.iload_n 1, 0, 0, 0, .null)] [] (WW' := []) (lv' := [none, some (.int x1), some (.int x2)]) (pc' := 21) (st' := [.int x1]) (by decide +kernel) rfl rfl ⟨trivial, trivial⟩ ?_
    obtain rfl := Option.some.inj hf
    exact zr_iret (b0 := fun _ => 0) (by decide +kernel) rfl rfl rfl rfl rfl
  · have hf := ziff hf hc
    refine zr_run [(.iinc 1 1, 0, 0, 0, .int (1 : Int32)), (.iload_n 2, 0, 0, 0, .null), (.iload_n 2, 0, 0, 0, .null), (.iconst 1, 0, 0, 0, .int (1 : Int32)), (.isub, 0, 0, 0, .null), (.iand, 0, 0, 0, .null), (.istore_n 2, 0, 0, 0, .null)] [] (WW' := []) (lv' := [none, some (.int (x1 + (1 : Int32))), some (.int (x2 &&& (x2 - (1 : Int32))))]) (pc' := 17) (st' := []) (by decide +kernel) rfl rfl ⟨trivial, trivial, trivial, trivial, trivial, trivial, trivial, trivial⟩ ?_
    refine zr_goto (off := -13) (tgt := 4) (by decide +kernel) (by decide) ?_
    exact hk4 (x1 + (1 : Int32)) (x2 &&& (x2 - (1 : Int32))) hf
theorem t_X12_bits_L4 (l : Launch) (G : zj_G)  (W0 : List va_W) (r : Int32)    : ∀ (n : Nat) (x1 : Int32) (x2 : Int32), f_X12_bits_L4 n x1 x2 = some r → zj_J l G M_X12_bits W0 (zj_ret G M_X12_bits W0 (some (.int r)) (fun _ => [])) 0 0 [] [none, some (.int x1), some (.int x2)] 4 [] := by
  intro n
  induction n with
  | zero => intro x1 x2 hf; exact nomatch (show none = some r from hf)
  | succ n ih => intro x1 x2 hf; exact t_X12_bits_H4 l G  W0 r   (f_X12_bits_L4 n)  ih x1 x2  hf
set_option maxRecDepth 100000 in
set_option maxHeartbeats 4000000 in
theorem c_X12_bits (l : Launch) (G : zj_G)   (x0 : Int32) (r : Int32) (hf : f_X12_bits x0 = some r) : zj_C l G M_X12_bits yX12_bits [] [.int x0] (some (.int r)) (fun _ => []) := by
  have key : ∀ W0 : List va_W, zj_J l G M_X12_bits W0 (zj_ret G M_X12_bits W0 (some (.int r)) (fun _ => [])) 0 0 [] [some (.int x0), none, none] 0 [] := by
    intro W0
    unfold f_X12_bits at hf
    refine zr_run [(.iconst 0, 0, 0, 0, .int (0 : Int32)), (.istore_n 1, 0, 0, 0, .null), (.iload_n 0, 0, 0, 0, .null), (.istore_n 2, 0, 0, 0, .null)] [0] (WW' := []) (lv' := [none, some (.int (0 : Int32)), some (.int x0)]) (pc' := 4) (st' := []) (by decide +kernel) rfl rfl ⟨trivial, trivial, trivial, trivial, trivial⟩ ?_
    exact t_X12_bits_L4 l G W0 r zFU (0 : Int32) x0 hf
  exact zj_entry [some (.int x0), none, none] (by decide +kernel) rfl (by decide) (Nat.le_of_ble_eq_true rfl) rfl rfl (key _)
def M_X12_least : zj_M := (RX12, cX12_least, 2, (some .int), { frames := 0, cells := 0, slots := 0, locals := 0 }, false)
theorem nm_X12_least : zj_nm yX12_least 2 := ⟨by decide +kernel, by decide +kernel, by decide +kernel⟩
def f_X12_least   (x0 : Int32) (x1 : Int32) : Option (Int32) := (if x0 < x1 then some x0 else some x1)
set_option maxRecDepth 100000 in
set_option maxHeartbeats 4000000 in
theorem c_X12_least (l : Launch) (G : zj_G)   (x0 : Int32) (x1 : Int32) (r : Int32) (hf : f_X12_least x0 x1 = some r) : zj_C l G M_X12_least yX12_least [] [.int x0, .int x1] (some (.int r)) (fun _ => []) := by
  have key : ∀ W0 : List va_W, zj_J l G M_X12_least W0 (zj_ret G M_X12_least W0 (some (.int r)) (fun _ => [])) 0 0 [] [some (.int x0), some (.int x1)] 0 [] := by
    intro W0
    unfold f_X12_least at hf
    refine zr_run [(.iload_n 0, 0, 0, 0, .null), (.iload_n 1, 0, 0, 0, .null)] [] (WW' := []) (lv' := [some (.int x0), some (.int x1)]) (pc' := 2) (st' := [.int x1, .int x0]) (by decide +kernel) rfl rfl ⟨trivial, trivial, trivial⟩ ?_
    refine zr_icmp_ge (off := 7) (tgt := 9) (by decide +kernel) (by decide) (fun hc => ?_) (fun hc => ?_)
    · have hf := zift hf hc
      refine zr_run [(.iload_n 0, 0, 0, 0, .null)] [] (WW' := []) (lv' := [some (.int x0), some (.int x1)]) (pc' := 6) (st' := [.int x0]) (by decide +kernel) rfl rfl ⟨trivial, trivial⟩ ?_
      refine zr_goto (off := 4) (tgt := 10) (by decide +kernel) (by decide) ?_
      obtain rfl := Option.some.inj hf
      exact zr_iret (b0 := fun _ => 0) (by decide +kernel) rfl rfl rfl rfl rfl
    · have hf := ziff hf hc
      refine zr_run [(.iload_n 1, 0, 0, 0, .null)] [] (WW' := []) (lv' := [some (.int x0), some (.int x1)]) (pc' := 10) (st' := [.int x1]) (by decide +kernel) rfl rfl ⟨trivial, trivial⟩ ?_
      obtain rfl := Option.some.inj hf
      exact zr_iret (b0 := fun _ => 0) (by decide +kernel) rfl rfl rfl rfl rfl
  exact zj_entry [some (.int x0), some (.int x1)] (by decide +kernel) rfl (by decide) (Nat.le_of_ble_eq_true rfl) rfl rfl (key _)
def M_X12_common : zj_M := (RX12, cX12_common, 5, (some .int), { frames := 0, cells := 0, slots := 0, locals := 0 }, false)
theorem nm_X12_common : zj_nm yX12_common 2 := ⟨by decide +kernel, by decide +kernel, by decide +kernel⟩
def f_X12_common_H4   (k4 : Int32 → Int32 → Option (Int32)) (x2 : Int32) (x3 : Int32) : Option (Int32) := (if x3 = 0 then some x2 else (if zb_nz x3 = true then k4 x3 (zr_rem x2 x3) else none))
def f_X12_common_L4    : Nat → Int32 → Int32 → Option (Int32)
  | 0 => fun _ _ => none
  | n + 1 => fun x2 x3 => f_X12_common_H4 (f_X12_common_L4  n) x2 x3
def f_X12_common   (x0 : Int32) (x1 : Int32) : Option (Int32) := f_X12_common_L4 zFU x0 x1
set_option maxRecDepth 100000 in
set_option maxHeartbeats 4000000 in
theorem t_X12_common_H4 (l : Launch) (G : zj_G)  (W0 : List va_W) (r : Int32)  (k4 : Int32 → Int32 → Option (Int32)) (hk4 : ∀ (x2 : Int32) (x3 : Int32), k4 x2 x3 = some r → zj_J l G M_X12_common W0 (zj_ret G M_X12_common W0 (some (.int r)) (fun _ => [])) 0 0 [] [none, none, some (.int x2), some (.int x3), none] 4 []) (x2 : Int32) (x3 : Int32) (hf : f_X12_common_H4 k4 x2 x3 = some r) : zj_J l G M_X12_common W0 (zj_ret G M_X12_common W0 (some (.int r)) (fun _ => [])) 0 0 [] [none, none, some (.int x2), some (.int x3), none] 4 [] := by
  unfold f_X12_common_H4 at hf
  refine zr_run [(.iload_n 3, 0, 0, 0, .null)] [] (WW' := []) (lv' := [none, none, some (.int x2), some (.int x3), none]) (pc' := 5) (st' := [.int x3]) (by decide +kernel) rfl rfl ⟨trivial, trivial⟩ ?_
  refine zr_if_eq (off := 16) (tgt := 21) (by decide +kernel) (by decide) (fun hc => ?_) (fun hc => ?_)
  · have hf := zift hf hc
    refine zr_run [(.iload_n 2, 0, 0, 0, .null)] [] (WW' := []) (lv' := [none, none, some (.int x2), some (.int x3), none]) (pc' := 22) (st' := [.int x2]) (by decide +kernel) rfl rfl ⟨trivial, trivial⟩ ?_
    obtain rfl := Option.some.inj hf
    exact zr_iret (b0 := fun _ => 0) (by decide +kernel) rfl rfl rfl rfl rfl
  · have hf := ziff hf hc
    obtain ⟨h1, hf⟩ := zck_of hf
    refine zr_run [(.iload_n 2, 0, 0, 0, .null), (.iload_n 3, 0, 0, 0, .null), (.irem, 0, 0, 0, .null), (.istore 4, 0, 0, 0, .null), (.iload_n 3, 0, 0, 0, .null), (.istore_n 2, 0, 0, 0, .null), (.iload 4, 0, 0, 0, .null), (.istore_n 3, 0, 0, 0, .null)] [] (WW' := []) (lv' := [none, none, some (.int x3), some (.int (zr_rem x2 x3)), some (.int (zr_rem x2 x3))]) (pc' := 18) (st' := []) (by decide +kernel) rfl rfl ⟨trivial, trivial, h1, trivial, trivial, trivial, trivial, trivial, trivial⟩ ?_
    refine zr_run [] [4] (WW' := []) (lv' := [none, none, some (.int x3), some (.int (zr_rem x2 x3)), none]) (pc' := 18) (st' := []) (by decide +kernel) rfl rfl trivial ?_
    refine zr_goto (off := -14) (tgt := 4) (by decide +kernel) (by decide) ?_
    exact hk4 x3 (zr_rem x2 x3) hf
theorem t_X12_common_L4 (l : Launch) (G : zj_G)  (W0 : List va_W) (r : Int32)    : ∀ (n : Nat) (x2 : Int32) (x3 : Int32), f_X12_common_L4 n x2 x3 = some r → zj_J l G M_X12_common W0 (zj_ret G M_X12_common W0 (some (.int r)) (fun _ => [])) 0 0 [] [none, none, some (.int x2), some (.int x3), none] 4 [] := by
  intro n
  induction n with
  | zero => intro x2 x3 hf; exact nomatch (show none = some r from hf)
  | succ n ih => intro x2 x3 hf; exact t_X12_common_H4 l G  W0 r   (f_X12_common_L4 n)  ih x2 x3  hf
set_option maxRecDepth 100000 in
set_option maxHeartbeats 4000000 in
theorem c_X12_common (l : Launch) (G : zj_G)   (x0 : Int32) (x1 : Int32) (r : Int32) (hf : f_X12_common x0 x1 = some r) : zj_C l G M_X12_common yX12_common [] [.int x0, .int x1] (some (.int r)) (fun _ => []) := by
  have key : ∀ W0 : List va_W, zj_J l G M_X12_common W0 (zj_ret G M_X12_common W0 (some (.int r)) (fun _ => [])) 0 0 [] [some (.int x0), some (.int x1), none, none, none] 0 [] := by
    intro W0
    unfold f_X12_common at hf
    refine zr_run [(.iload_n 0, 0, 0, 0, .null), (.istore_n 2, 0, 0, 0, .null), (.iload_n 1, 0, 0, 0, .null), (.istore_n 3, 0, 0, 0, .null)] [0, 1] (WW' := []) (lv' := [none, none, some (.int x0), some (.int x1), none]) (pc' := 4) (st' := []) (by decide +kernel) rfl rfl ⟨trivial, trivial, trivial, trivial, trivial⟩ ?_
    exact t_X12_common_L4 l G W0 r zFU x0 x1 hf
  exact zj_entry [some (.int x0), some (.int x1), none, none, none] (by decide +kernel) rfl (by decide) (Nat.le_of_ble_eq_true rfl) rfl rfl (key _)
def M_X12_tapeAt : zj_M := (RX12, cX12_tapeAt, 2, (some .int), { frames := 0, cells := 0, slots := 0, locals := 0 }, false)
theorem nm_X12_tapeAt : zj_nm yX12_tapeAt 1 := ⟨by decide +kernel, by decide +kernel, by decide +kernel⟩
def f_X12_tapeAt  (s0 : MoT) (x1 : Int32) : Option (Int32) := (if x1 < (Mo_size s0) then (if zb_in x1 940 = true then some ((Mo_tape s0) x1.toNatClampNeg) else none) else some (0 : Int32))
set_option maxRecDepth 100000 in
set_option maxHeartbeats 4000000 in
theorem c_X12_tapeAt (l : Launch) (G : zj_G) (a0 : Nat → Nat) (s0 : MoT) (x1 : Int32) (r : Int32) (hf : f_X12_tapeAt s0 x1 = some r) : zj_C l G M_X12_tapeAt yX12_tapeAt [w_Mo G a0 s0] [.ref (a0 0), .int x1] (some (.int r)) (fun _ => [w_Mo G a0 s0]) := by
  have key : ∀ W0 : List va_W, zj_J l G M_X12_tapeAt W0 (zj_ret G M_X12_tapeAt W0 (some (.int r)) (fun _ => [w_Mo G a0 s0])) 0 0 [w_Mo G a0 s0] [some (.ref (a0 0)), some (.int x1)] 0 [] := by
    intro W0
    unfold f_X12_tapeAt at hf
    refine zr_run [(.iload_n 1, 0, 0, 0, .null), (.aload_n 0, 0, 0, 0, .null), (.getfield 101, 0, 0, 3, .null)] [] (WW' := [w_Mo G a0 s0]) (lv' := [some (.ref (a0 0)), some (.int x1)]) (pc' := 5) (st' := [.int (Mo_size s0), .int x1]) (by decide +kernel) rfl rfl ⟨trivial, trivial, ⟨rfl, rfl, zw_6_32⟩, trivial⟩ ?_
    refine zr_icmp_ge (off := 12) (tgt := 17) (by decide +kernel) (by decide) (fun hc => ?_) (fun hc => ?_)
    · have hf := zift hf hc
      obtain ⟨h1, hf⟩ := zck_of hf
      refine zr_run [(.aload_n 0, 0, 0, 0, .null), (.getfield 7, 0, 0, 1, .null), (.iload_n 1, 0, 0, 0, .null), (.iaload, 0, 1, 0, .null)] [] (WW' := [w_Mo G a0 s0]) (lv' := [some (.ref (a0 0)), some (.int x1)]) (pc' := 14) (st' := [.int ((Mo_tape s0) x1.toNatClampNeg)]) (by decide +kernel) rfl rfl ⟨trivial, ⟨rfl, rfl, zw_6_30⟩, trivial, ⟨rfl, rfl, h1⟩, trivial⟩ ?_
      refine zr_goto (off := 4) (tgt := 18) (by decide +kernel) (by decide) ?_
      obtain rfl := Option.some.inj hf
      exact zr_iret (b0 := fun _ => 0) (by decide +kernel) rfl rfl rfl rfl rfl
    · have hf := ziff hf hc
      refine zr_run [(.iconst 0, 0, 0, 0, .int (0 : Int32))] [] (WW' := [w_Mo G a0 s0]) (lv' := [some (.ref (a0 0)), some (.int x1)]) (pc' := 18) (st' := [.int (0 : Int32)]) (by decide +kernel) rfl rfl ⟨trivial, trivial⟩ ?_
      obtain rfl := Option.some.inj hf
      exact zr_iret (b0 := fun _ => 0) (by decide +kernel) rfl rfl rfl rfl rfl
  exact zj_entry [some (.ref (a0 0)), some (.int x1)] (by decide +kernel) rfl (by decide) (Nat.le_of_ble_eq_true rfl) rfl rfl (key _)
def M_X12_isDigit : zj_M := (RX12, cX12_isDigit, 1, (some .boolean), { frames := 0, cells := 0, slots := 0, locals := 0 }, false)
theorem nm_X12_isDigit : zj_nm yX12_isDigit 1 := ⟨by decide +kernel, by decide +kernel, by decide +kernel⟩
def f_X12_isDigit_b16     : Option (Int32) := some (0 : Int32)
def f_X12_isDigit   (x0 : Int32) : Option (Int32) := (if x0 < (48 : Int32) then f_X12_isDigit_b16 else (if (57 : Int32) < x0 then f_X12_isDigit_b16 else some (1 : Int32)))
set_option maxRecDepth 100000 in
set_option maxHeartbeats 4000000 in
theorem t_X12_isDigit_b16 (l : Launch) (G : zj_G)  (W0 : List va_W) (r : Int32)     (hf : f_X12_isDigit_b16 = some r) : zj_J l G M_X12_isDigit W0 (zj_ret G M_X12_isDigit W0 (some (.int r)) (fun _ => [])) 0 0 [] [none] 16 [] := by
  unfold f_X12_isDigit_b16 at hf
  refine zr_run [(.iconst 0, 0, 0, 0, .int (0 : Int32))] [] (WW' := []) (lv' := [none]) (pc' := 17) (st' := [.int (0 : Int32)]) (by decide +kernel) rfl rfl ⟨trivial, trivial⟩ ?_
  obtain rfl := Option.some.inj hf
  exact zr_zret (by decide) (b0 := fun _ => 0) (by decide +kernel) rfl rfl rfl rfl rfl
set_option maxRecDepth 100000 in
set_option maxHeartbeats 4000000 in
theorem c_X12_isDigit (l : Launch) (G : zj_G)   (x0 : Int32) (r : Int32) (hf : f_X12_isDigit x0 = some r) : zj_C l G M_X12_isDigit yX12_isDigit [] [.int x0] (some (.int r)) (fun _ => []) := by
  have key : ∀ W0 : List va_W, zj_J l G M_X12_isDigit W0 (zj_ret G M_X12_isDigit W0 (some (.int r)) (fun _ => [])) 0 0 [] [some (.int x0)] 0 [] := by
    intro W0
    unfold f_X12_isDigit at hf
    refine zr_run [(.iload_n 0, 0, 0, 0, .null), (.bipush 48, 0, 0, 0, .int (48 : Int32))] [] (WW' := []) (lv' := [some (.int x0)]) (pc' := 3) (st' := [.int (48 : Int32), .int x0]) (by decide +kernel) rfl rfl ⟨trivial, trivial, trivial⟩ ?_
    refine zr_icmp_lt (off := 13) (tgt := 16) (by decide +kernel) (by decide) (fun hc => ?_) (fun hc => ?_)
    · have hf := zift hf hc
      refine zr_run [] [0] (WW' := []) (lv' := [none]) (pc' := 16) (st' := []) (by decide +kernel) rfl rfl trivial ?_
      exact t_X12_isDigit_b16 l G W0 r hf
    · have hf := ziff hf hc
      refine zr_run [(.iload_n 0, 0, 0, 0, .null), (.bipush 57, 0, 0, 0, .int (57 : Int32))] [] (WW' := []) (lv' := [some (.int x0)]) (pc' := 9) (st' := [.int (57 : Int32), .int x0]) (by decide +kernel) rfl rfl ⟨trivial, trivial, trivial⟩ ?_
      refine zr_icmp_gt (off := 7) (tgt := 16) (by decide +kernel) (by decide) (fun hc => ?_) (fun hc => ?_)
      · have hf := zift hf hc
        refine zr_run [] [0] (WW' := []) (lv' := [none]) (pc' := 16) (st' := []) (by decide +kernel) rfl rfl trivial ?_
        exact t_X12_isDigit_b16 l G W0 r hf
      · have hf := ziff hf hc
        refine zr_run [(.iconst 1, 0, 0, 0, .int (1 : Int32))] [] (WW' := []) (lv' := [some (.int x0)]) (pc' := 13) (st' := [.int (1 : Int32)]) (by decide +kernel) rfl rfl ⟨trivial, trivial⟩ ?_
        refine zr_goto (off := 4) (tgt := 17) (by decide +kernel) (by decide) ?_
        obtain rfl := Option.some.inj hf
        exact zr_zret (by decide) (b0 := fun _ => 0) (by decide +kernel) rfl rfl rfl rfl rfl
  exact zj_entry [some (.int x0)] (by decide +kernel) rfl (by decide) (Nat.le_of_ble_eq_true rfl) rfl rfl (key _)
def M_X12_isLetter : zj_M := (RX12, cX12_isLetter, 1, (some .boolean), { frames := 0, cells := 0, slots := 0, locals := 0 }, false)
theorem nm_X12_isLetter : zj_nm yX12_isLetter 1 := ⟨by decide +kernel, by decide +kernel, by decide +kernel⟩
def f_X12_isLetter_b16     : Option (Int32) := some (0 : Int32)
def f_X12_isLetter   (x0 : Int32) : Option (Int32) := (if x0 < (97 : Int32) then f_X12_isLetter_b16 else (if (122 : Int32) < x0 then f_X12_isLetter_b16 else some (1 : Int32)))
set_option maxRecDepth 100000 in
set_option maxHeartbeats 4000000 in
theorem t_X12_isLetter_b16 (l : Launch) (G : zj_G)  (W0 : List va_W) (r : Int32)     (hf : f_X12_isLetter_b16 = some r) : zj_J l G M_X12_isLetter W0 (zj_ret G M_X12_isLetter W0 (some (.int r)) (fun _ => [])) 0 0 [] [none] 16 [] := by
  unfold f_X12_isLetter_b16 at hf
  refine zr_run [(.iconst 0, 0, 0, 0, .int (0 : Int32))] [] (WW' := []) (lv' := [none]) (pc' := 17) (st' := [.int (0 : Int32)]) (by decide +kernel) rfl rfl ⟨trivial, trivial⟩ ?_
  obtain rfl := Option.some.inj hf
  exact zr_zret (by decide) (b0 := fun _ => 0) (by decide +kernel) rfl rfl rfl rfl rfl
set_option maxRecDepth 100000 in
set_option maxHeartbeats 4000000 in
theorem c_X12_isLetter (l : Launch) (G : zj_G)   (x0 : Int32) (r : Int32) (hf : f_X12_isLetter x0 = some r) : zj_C l G M_X12_isLetter yX12_isLetter [] [.int x0] (some (.int r)) (fun _ => []) := by
  have key : ∀ W0 : List va_W, zj_J l G M_X12_isLetter W0 (zj_ret G M_X12_isLetter W0 (some (.int r)) (fun _ => [])) 0 0 [] [some (.int x0)] 0 [] := by
    intro W0
    unfold f_X12_isLetter at hf
    refine zr_run [(.iload_n 0, 0, 0, 0, .null), (.bipush 97, 0, 0, 0, .int (97 : Int32))] [] (WW' := []) (lv' := [some (.int x0)]) (pc' := 3) (st' := [.int (97 : Int32), .int x0]) (by decide +kernel) rfl rfl ⟨trivial, trivial, trivial⟩ ?_
    refine zr_icmp_lt (off := 13) (tgt := 16) (by decide +kernel) (by decide) (fun hc => ?_) (fun hc => ?_)
    · have hf := zift hf hc
      refine zr_run [] [0] (WW' := []) (lv' := [none]) (pc' := 16) (st' := []) (by decide +kernel) rfl rfl trivial ?_
      exact t_X12_isLetter_b16 l G W0 r hf
    · have hf := ziff hf hc
      refine zr_run [(.iload_n 0, 0, 0, 0, .null), (.bipush 122, 0, 0, 0, .int (122 : Int32))] [] (WW' := []) (lv' := [some (.int x0)]) (pc' := 9) (st' := [.int (122 : Int32), .int x0]) (by decide +kernel) rfl rfl ⟨trivial, trivial, trivial⟩ ?_
      refine zr_icmp_gt (off := 7) (tgt := 16) (by decide +kernel) (by decide) (fun hc => ?_) (fun hc => ?_)
      · have hf := zift hf hc
        refine zr_run [] [0] (WW' := []) (lv' := [none]) (pc' := 16) (st' := []) (by decide +kernel) rfl rfl trivial ?_
        exact t_X12_isLetter_b16 l G W0 r hf
      · have hf := ziff hf hc
        refine zr_run [(.iconst 1, 0, 0, 0, .int (1 : Int32))] [] (WW' := []) (lv' := [some (.int x0)]) (pc' := 13) (st' := [.int (1 : Int32)]) (by decide +kernel) rfl rfl ⟨trivial, trivial⟩ ?_
        refine zr_goto (off := 4) (tgt := 17) (by decide +kernel) (by decide) ?_
        obtain rfl := Option.some.inj hf
        exact zr_zret (by decide) (b0 := fun _ => 0) (by decide +kernel) rfl rfl rfl rfl rfl
  exact zj_entry [some (.int x0)] (by decide +kernel) rfl (by decide) (Nat.le_of_ble_eq_true rfl) rfl rfl (key _)
def M_X12_go : zj_M := (RX12, cX12_go, 5, none, { frames := 1, cells := 0, slots := 0, locals := 21 }, false)
theorem nm_X12_go : zj_nm yX12_go 0 := ⟨by decide +kernel, by decide +kernel, by decide +kernel⟩
def f_X12_go_b39  (s0 : MoT) (k0 : MoT → Option (MoT))  : Option (MoT) := (zlet (Mo_s_to s0 ((Mo_to s0) + (1 : Int32))) fun y2 => k0 y2)
def f_X12_go_b179  (s0 : MoT)  (x1 : Int32) (z0 : Int32) : Option (MoT) := (zlet (Mo_s_kind s0 z0) fun y8 => (zlet (Mo_s_sign y8 x1) fun y9 => (zlet (Mo_s_to y9 ((Mo_to y9) + (1 : Int32))) fun y10 => some y10)))
def f_X12_go_b174  (s0 : MoT)  (x1 : Int32) : Option (MoT) := f_X12_go_b179 s0 x1 (4 : Int32)
def f_X12_go_b377  (s0 : MoT)   : Option (MoT) := (zlet (Mo_s_kind s0 (1 : Int32)) fun y18 => some y18)
def f_X12_go_b374  (s0 : MoT)  (x2 : Int32) (z0 : Int32) (z1 : Int32) : Option (MoT) := (if z0 < z1 then f_X12_go_b377 s0 else (if x2 = 0 then (zlet (Mo_s_kind s0 (3 : Int32)) fun y19 => some y19) else (zlet (Mo_s_kind s0 (2 : Int32)) fun y20 => some y20)))
def f_X12_go_b337  (s0 : MoT) (k215 : MoT → Int32 → Int32 → Option (MoT)) (x2 : Int32) (x3 : Int32) : Option (MoT) := (zlet (Mo_s_to s0 ((Mo_to s0) + (1 : Int32))) fun y26 => k215 y26 x2 x3)
def f_X12_go_b307  (s0 : MoT) (k215 : MoT → Int32 → Int32 → Option (MoT)) (x2 : Int32) (x3 : Int32) (x4 : Int32) : Option (MoT) := (if ((Mo_to s0) - (Mo_from s0)) < (3 : Int32) then (zlet ((((10 : Int32) * (Mo_number s0)) + x4) - (48 : Int32)) fun y24 => (zlet (Mo_s_number s0 y24) fun y25 => f_X12_go_b337 y25 k215 x2 x3)) else f_X12_go_b337 s0 k215 x2 x3)
def f_X12_go_b272  (s0 : MoT) (k215 : MoT → Int32 → Int32 → Option (MoT)) (x2 : Int32) (x4 : Int32) (z0 : Int32) : Option (MoT) := (if ((Mo_to s0) - (Mo_from s0)) < (7 : Int32) then (zlet ((((27 : Int64) * (Mo_word s0)) + x4.toInt64) - (96 : Int64)) fun y22 => (zlet (Mo_s_word s0 y22) fun y23 => f_X12_go_b307 y23 k215 x2 z0 x4)) else f_X12_go_b307 s0 k215 x2 z0 x4)
def f_X12_go_b271  (s0 : MoT) (k215 : MoT → Int32 → Int32 → Option (MoT)) (x2 : Int32) (x4 : Int32) : Option (MoT) := f_X12_go_b272 s0 k215 x2 x4 (0 : Int32)
def f_X12_go_b243  (s0 : MoT) (k215 : MoT → Int32 → Int32 → Option (MoT)) (x2 : Int32) (x3 : Int32) : Option (MoT) := (if zb_in (Mo_to s0) 940 = true then (if x3 = 0 then f_X12_go_b271 s0 k215 x2 ((Mo_tape s0) (Mo_to s0).toNatClampNeg) else ((f_X12_isLetter ((Mo_tape s0) (Mo_to s0).toNatClampNeg)).bind fun q27 => (if q27 = x2 then f_X12_go_b272 s0 k215 x2 ((Mo_tape s0) (Mo_to s0).toNatClampNeg) (1 : Int32) else f_X12_go_b271 s0 k215 x2 ((Mo_tape s0) (Mo_to s0).toNatClampNeg)))) else none)
def f_X12_go_H215  (s0 : MoT) (k215 : MoT → Int32 → Int32 → Option (MoT)) (x2 : Int32) (x3 : Int32) : Option (MoT) := ((f_X12_tapeAt s0 (Mo_to s0)).bind fun q14 => ((f_X12_isLetter q14).bind fun q15 => (if q15 = 0 then ((f_X12_tapeAt s0 (Mo_to s0)).bind fun q16 => ((f_X12_isDigit q16).bind fun q17 => (if q17 = 0 then (if x3 = 0 then f_X12_go_b377 s0 else (if x2 = 0 then f_X12_go_b374 s0 x2 (3 : Int32) ((Mo_to s0) - (Mo_from s0)) else f_X12_go_b374 s0 x2 (7 : Int32) ((Mo_to s0) - (Mo_from s0)))) else f_X12_go_b243 s0 k215 x2 x3))) else f_X12_go_b243 s0 k215 x2 x3)))
def f_X12_go_L215    : Nat → MoT → Int32 → Int32 → Option (MoT)
  | 0 => fun _ _ _ => none
  | n + 1 => fun s0 x2 x3 => f_X12_go_H215 s0 (f_X12_go_L215  n) x2 x3
def f_X12_go_b198  (s0 : MoT)  (x1 : Int32) : Option (MoT) := ((f_X12_isLetter x1).bind fun q11 => (zlet (Mo_s_word s0 (0 : Int64)) fun y12 => (zlet (Mo_s_number y12 (0 : Int32)) fun y13 => f_X12_go_L215 zFU y13 q11 (1 : Int32))))
def f_X12_go_b96  (s0 : MoT)   : Option (MoT) := (if (Mo_to s0) < (Mo_size s0) then (if zb_in (Mo_to s0) 940 = true then ((f_X12_isLetter ((Mo_tape s0) (Mo_to s0).toNatClampNeg)).bind fun q6 => (if q6 = 0 then ((f_X12_isDigit ((Mo_tape s0) (Mo_to s0).toNatClampNeg)).bind fun q7 => (if q7 = 0 then (if ((Mo_tape s0) (Mo_to s0).toNatClampNeg) = (59 : Int32) then f_X12_go_b174 s0 ((Mo_tape s0) (Mo_to s0).toNatClampNeg) else (if ((Mo_tape s0) (Mo_to s0).toNatClampNeg) = (60 : Int32) then f_X12_go_b174 s0 ((Mo_tape s0) (Mo_to s0).toNatClampNeg) else (if ((Mo_tape s0) (Mo_to s0).toNatClampNeg) = (61 : Int32) then f_X12_go_b174 s0 ((Mo_tape s0) (Mo_to s0).toNatClampNeg) else (if ((Mo_tape s0) (Mo_to s0).toNatClampNeg) = (62 : Int32) then f_X12_go_b174 s0 ((Mo_tape s0) (Mo_to s0).toNatClampNeg) else (if ((Mo_tape s0) (Mo_to s0).toNatClampNeg) = (40 : Int32) then f_X12_go_b174 s0 ((Mo_tape s0) (Mo_to s0).toNatClampNeg) else (if ((Mo_tape s0) (Mo_to s0).toNatClampNeg) = (41 : Int32) then f_X12_go_b174 s0 ((Mo_tape s0) (Mo_to s0).toNatClampNeg) else f_X12_go_b179 s0 ((Mo_tape s0) (Mo_to s0).toNatClampNeg) (1 : Int32))))))) else f_X12_go_b198 s0 ((Mo_tape s0) (Mo_to s0).toNatClampNeg))) else f_X12_go_b198 s0 ((Mo_tape s0) (Mo_to s0).toNatClampNeg))) else none) else (zlet (Mo_s_kind s0 (0 : Int32)) fun y28 => some y28))
def f_X12_go_b52  (s0 : MoT)   : Option (MoT) := (zlet (Mo_s_from s0 (Mo_to s0)) fun y4 => (if (Mo_limit y4) < (Mo_size y4) then (if (Mo_from y4) < (Mo_limit y4) then f_X12_go_b96 y4 else (zlet (Mo_s_from y4 (Mo_limit y4)) fun y29 => (zlet (Mo_s_kind y29 (1 : Int32)) fun y30 => some y30))) else f_X12_go_b96 y4))
def f_X12_go_H0  (s0 : MoT) (k0 : MoT → Option (MoT))  : Option (MoT) := (if (Mo_to s0) < (Mo_size s0) then (if zb_in (Mo_to s0) 940 = true then (if ((Mo_tape s0) (Mo_to s0).toNatClampNeg) = (32 : Int32) then f_X12_go_b39 s0 k0 else (if zb_in (Mo_to s0) 940 = true then (if ((Mo_tape s0) (Mo_to s0).toNatClampNeg) = (10 : Int32) then f_X12_go_b39 s0 k0 else f_X12_go_b52 s0) else none)) else none) else f_X12_go_b52 s0)
def f_X12_go_L0    : Nat → MoT → Option (MoT)
  | 0 => fun _ => none
  | n + 1 => fun s0 => f_X12_go_H0 s0 (f_X12_go_L0  n)
def f_X12_go  (s0 : MoT)  : Option (MoT) := f_X12_go_L0 zFU s0
set_option maxRecDepth 100000 in
set_option maxHeartbeats 4000000 in
theorem t_X12_go_b39 (l : Launch) (G : zj_G) (a0 : Nat → Nat) (W0 : List va_W) (r : MoT) (s0 : MoT) (k0 : MoT → Option (MoT)) (hk0 : ∀ (s0 : MoT), k0 s0 = some r → zj_J l G M_X12_go W0 (zj_ret G M_X12_go W0 (none) (fun _ => [w_Mo G a0 r])) 0 0 [w_Mo G a0 s0] [some (.ref (a0 0)), none, none, none, none] 0 [])  (hf : f_X12_go_b39 s0 k0 = some r) : zj_J l G M_X12_go W0 (zj_ret G M_X12_go W0 (none) (fun _ => [w_Mo G a0 r])) 0 0 [w_Mo G a0 s0] [some (.ref (a0 0)), none, none, none, none] 39 [] := by
  unfold f_X12_go_b39 at hf
  obtain ⟨y2, e2, hf⟩ := zlet_of hf
  refine zr_run [(.aload_n 0, 0, 0, 0, .null), (.dup, 0, 0, 0, .null), (.getfield 104, 0, 0, 5, .null), (.iconst 1, 0, 0, 0, .int (1 : Int32)), (.iadd, 0, 0, 0, .null), (.putfield 104, 0, 0, 5, .null)] [] (WW' := [w_Mo G a0 (Mo_s_to s0 ((Mo_to s0) + (1 : Int32)))]) (lv' := [some (.ref (a0 0)), none, none, none, none]) (pc' := 49) (st' := []) (by decide +kernel) rfl rfl ⟨trivial, trivial, ⟨rfl, rfl, zw_6_34⟩, trivial, trivial, ⟨rfl, rfl, rfl, trivial, rfl, rfl, zw_6_34⟩, trivial⟩ ?_
  refine zr_eq (WW2 := [w_Mo G a0 y2]) (lv2 := [some (.ref (a0 0)), none, none, none, none]) (st2 := []) (by rw [e2]) rfl rfl ?_
  refine zr_goto (off := -49) (tgt := 0) (by decide +kernel) (by decide) ?_
  exact hk0 y2 hf
set_option maxRecDepth 100000 in
set_option maxHeartbeats 4000000 in
theorem t_X12_go_b179 (l : Launch) (G : zj_G) (a0 : Nat → Nat) (W0 : List va_W) (r : MoT) (s0 : MoT)   (x1 : Int32) (z0 : Int32) (hf : f_X12_go_b179 s0 x1 z0 = some r) : zj_J l G M_X12_go W0 (zj_ret G M_X12_go W0 (none) (fun _ => [w_Mo G a0 r])) 0 0 [w_Mo G a0 s0] [some (.ref (a0 0)), some (.int x1), none, none, none] 179 [.int z0, .ref (a0 0)] := by
  unfold f_X12_go_b179 at hf
  obtain ⟨y8, e8, hf⟩ := zlet_of hf
  refine zr_run [(.putfield 113, 0, 0, 7, .null)] [] (WW' := [w_Mo G a0 (Mo_s_kind s0 z0)]) (lv' := [some (.ref (a0 0)), some (.int x1), none, none, none]) (pc' := 182) (st' := []) (by decide +kernel) rfl rfl ⟨⟨rfl, rfl, rfl, trivial, rfl, rfl, zw_6_36⟩, trivial⟩ ?_
  refine zr_eq (WW2 := [w_Mo G a0 y8]) (lv2 := [some (.ref (a0 0)), some (.int x1), none, none, none]) (st2 := []) (by rw [e8]) rfl rfl ?_
  obtain ⟨y9, e9, hf⟩ := zlet_of hf
  refine zr_run [(.aload_n 0, 0, 0, 0, .null), (.iload_n 1, 0, 0, 0, .null), (.putfield 123, 0, 0, 9, .null)] [] (WW' := [w_Mo G a0 (Mo_s_sign y8 x1)]) (lv' := [some (.ref (a0 0)), some (.int x1), none, none, none]) (pc' := 187) (st' := []) (by decide +kernel) rfl rfl ⟨trivial, trivial, ⟨rfl, rfl, rfl, trivial, rfl, rfl, zw_6_38⟩, trivial⟩ ?_
  refine zr_eq (WW2 := [w_Mo G a0 y9]) (lv2 := [some (.ref (a0 0)), some (.int x1), none, none, none]) (st2 := []) (by rw [e9]) rfl rfl ?_
  obtain ⟨y10, e10, hf⟩ := zlet_of hf
  refine zr_run [(.aload_n 0, 0, 0, 0, .null), (.dup, 0, 0, 0, .null), (.getfield 104, 0, 0, 5, .null), (.iconst 1, 0, 0, 0, .int (1 : Int32)), (.iadd, 0, 0, 0, .null), (.putfield 104, 0, 0, 5, .null)] [] (WW' := [w_Mo G a0 (Mo_s_to y9 ((Mo_to y9) + (1 : Int32)))]) (lv' := [some (.ref (a0 0)), some (.int x1), none, none, none]) (pc' := 197) (st' := []) (by decide +kernel) rfl rfl ⟨trivial, trivial, ⟨rfl, rfl, zw_6_34⟩, trivial, trivial, ⟨rfl, rfl, rfl, trivial, rfl, rfl, zw_6_34⟩, trivial⟩ ?_
  refine zr_eq (WW2 := [w_Mo G a0 y10]) (lv2 := [some (.ref (a0 0)), some (.int x1), none, none, none]) (st2 := []) (by rw [e10]) rfl rfl ?_
  obtain rfl := Option.some.inj hf
  exact zr_vret (b0 := fun _ => 0) (by decide +kernel) rfl rfl rfl rfl rfl
set_option maxRecDepth 100000 in
set_option maxHeartbeats 4000000 in
theorem t_X12_go_b174 (l : Launch) (G : zj_G) (a0 : Nat → Nat) (W0 : List va_W) (r : MoT) (s0 : MoT)   (x1 : Int32) (hf : f_X12_go_b174 s0 x1 = some r) : zj_J l G M_X12_go W0 (zj_ret G M_X12_go W0 (none) (fun _ => [w_Mo G a0 r])) 0 0 [w_Mo G a0 s0] [some (.ref (a0 0)), some (.int x1), none, none, none] 174 [.ref (a0 0)] := by
  unfold f_X12_go_b174 at hf
  refine zr_run [(.iconst 4, 0, 0, 0, .int (4 : Int32))] [] (WW' := [w_Mo G a0 s0]) (lv' := [some (.ref (a0 0)), some (.int x1), none, none, none]) (pc' := 175) (st' := [.int (4 : Int32), .ref (a0 0)]) (by decide +kernel) rfl rfl ⟨trivial, trivial⟩ ?_
  refine zr_goto (off := 4) (tgt := 179) (by decide +kernel) (by decide) ?_
  exact t_X12_go_b179 l G a0 W0 r s0 x1 (4 : Int32) hf
set_option maxRecDepth 100000 in
set_option maxHeartbeats 4000000 in
theorem t_X12_go_b377 (l : Launch) (G : zj_G) (a0 : Nat → Nat) (W0 : List va_W) (r : MoT) (s0 : MoT)    (hf : f_X12_go_b377 s0 = some r) : zj_J l G M_X12_go W0 (zj_ret G M_X12_go W0 (none) (fun _ => [w_Mo G a0 r])) 0 0 [w_Mo G a0 s0] [none, none, none, none, none] 377 [.ref (a0 0)] := by
  unfold f_X12_go_b377 at hf
  refine zr_run [(.iconst 1, 0, 0, 0, .int (1 : Int32))] [] (WW' := [w_Mo G a0 s0]) (lv' := [none, none, none, none, none]) (pc' := 378) (st' := [.int (1 : Int32), .ref (a0 0)]) (by decide +kernel) rfl rfl ⟨trivial, trivial⟩ ?_
  refine zr_goto (off := 12) (tgt := 390) (by decide +kernel) (by decide) ?_
  obtain ⟨y18, e18, hf⟩ := zlet_of hf
  refine zr_run [(.putfield 113, 0, 0, 7, .null)] [] (WW' := [w_Mo G a0 (Mo_s_kind s0 (1 : Int32))]) (lv' := [none, none, none, none, none]) (pc' := 393) (st' := []) (by decide +kernel) rfl rfl ⟨⟨rfl, rfl, rfl, trivial, rfl, rfl, zw_6_36⟩, trivial⟩ ?_
  refine zr_eq (WW2 := [w_Mo G a0 y18]) (lv2 := [none, none, none, none, none]) (st2 := []) (by rw [e18]) rfl rfl ?_
  obtain rfl := Option.some.inj hf
  exact zr_vret (b0 := fun _ => 0) (by decide +kernel) rfl rfl rfl rfl rfl
set_option maxRecDepth 100000 in
set_option maxHeartbeats 4000000 in
theorem t_X12_go_b374 (l : Launch) (G : zj_G) (a0 : Nat → Nat) (W0 : List va_W) (r : MoT) (s0 : MoT)   (x2 : Int32) (z0 : Int32) (z1 : Int32) (hf : f_X12_go_b374 s0 x2 z0 z1 = some r) : zj_J l G M_X12_go W0 (zj_ret G M_X12_go W0 (none) (fun _ => [w_Mo G a0 r])) 0 0 [w_Mo G a0 s0] [none, none, some (.int x2), none, none] 374 [.int z0, .int z1, .ref (a0 0)] := by
  unfold f_X12_go_b374 at hf
  refine zr_icmp_le (off := 7) (tgt := 381) (by decide +kernel) (by decide) (fun hc => ?_) (fun hc => ?_)
  · have hf := zift hf hc
    refine zr_run [] [2] (WW' := [w_Mo G a0 s0]) (lv' := [none, none, none, none, none]) (pc' := 377) (st' := [.ref (a0 0)]) (by decide +kernel) rfl rfl trivial ?_
    exact t_X12_go_b377 l G a0 W0 r s0 hf
  · have hf := ziff hf hc
    refine zr_run [(.iload_n 2, 0, 0, 0, .null)] [] (WW' := [w_Mo G a0 s0]) (lv' := [none, none, some (.int x2), none, none]) (pc' := 382) (st' := [.int x2, .ref (a0 0)]) (by decide +kernel) rfl rfl ⟨trivial, trivial⟩ ?_
    refine zr_if_eq (off := 7) (tgt := 389) (by decide +kernel) (by decide) (fun hc => ?_) (fun hc => ?_)
    · have hf := zift hf hc
      obtain ⟨y19, e19, hf⟩ := zlet_of hf
      refine zr_run [(.iconst 3, 0, 0, 0, .int (3 : Int32)), (.putfield 113, 0, 0, 7, .null)] [] (WW' := [w_Mo G a0 (Mo_s_kind s0 (3 : Int32))]) (lv' := [none, none, some (.int x2), none, none]) (pc' := 393) (st' := []) (by decide +kernel) rfl rfl ⟨trivial, ⟨rfl, rfl, rfl, trivial, rfl, rfl, zw_6_36⟩, trivial⟩ ?_
      refine zr_eq (WW2 := [w_Mo G a0 y19]) (lv2 := [none, none, some (.int x2), none, none]) (st2 := []) (by rw [e19]) rfl rfl ?_
      obtain rfl := Option.some.inj hf
      exact zr_vret (b0 := fun _ => 0) (by decide +kernel) rfl rfl rfl rfl rfl
    · have hf := ziff hf hc
      refine zr_run [(.iconst 2, 0, 0, 0, .int (2 : Int32))] [] (WW' := [w_Mo G a0 s0]) (lv' := [none, none, some (.int x2), none, none]) (pc' := 386) (st' := [.int (2 : Int32), .ref (a0 0)]) (by decide +kernel) rfl rfl ⟨trivial, trivial⟩ ?_
      refine zr_goto (off := 4) (tgt := 390) (by decide +kernel) (by decide) ?_
      obtain ⟨y20, e20, hf⟩ := zlet_of hf
      refine zr_run [(.putfield 113, 0, 0, 7, .null)] [] (WW' := [w_Mo G a0 (Mo_s_kind s0 (2 : Int32))]) (lv' := [none, none, some (.int x2), none, none]) (pc' := 393) (st' := []) (by decide +kernel) rfl rfl ⟨⟨rfl, rfl, rfl, trivial, rfl, rfl, zw_6_36⟩, trivial⟩ ?_
      refine zr_eq (WW2 := [w_Mo G a0 y20]) (lv2 := [none, none, some (.int x2), none, none]) (st2 := []) (by rw [e20]) rfl rfl ?_
      obtain rfl := Option.some.inj hf
      exact zr_vret (b0 := fun _ => 0) (by decide +kernel) rfl rfl rfl rfl rfl
set_option maxRecDepth 100000 in
set_option maxHeartbeats 4000000 in
theorem t_X12_go_b337 (l : Launch) (G : zj_G) (a0 : Nat → Nat) (W0 : List va_W) (r : MoT) (s0 : MoT) (k215 : MoT → Int32 → Int32 → Option (MoT)) (hk215 : ∀ (s0 : MoT) (x2 : Int32) (x3 : Int32), k215 s0 x2 x3 = some r → zj_J l G M_X12_go W0 (zj_ret G M_X12_go W0 (none) (fun _ => [w_Mo G a0 r])) 0 0 [w_Mo G a0 s0] [some (.ref (a0 0)), none, some (.int x2), some (.int x3), none] 215 []) (x2 : Int32) (x3 : Int32) (hf : f_X12_go_b337 s0 k215 x2 x3 = some r) : zj_J l G M_X12_go W0 (zj_ret G M_X12_go W0 (none) (fun _ => [w_Mo G a0 r])) 0 0 [w_Mo G a0 s0] [some (.ref (a0 0)), none, some (.int x2), some (.int x3), none] 337 [] := by
  unfold f_X12_go_b337 at hf
  obtain ⟨y26, e26, hf⟩ := zlet_of hf
  refine zr_run [(.aload_n 0, 0, 0, 0, .null), (.dup, 0, 0, 0, .null), (.getfield 104, 0, 0, 5, .null), (.iconst 1, 0, 0, 0, .int (1 : Int32)), (.iadd, 0, 0, 0, .null), (.putfield 104, 0, 0, 5, .null)] [] (WW' := [w_Mo G a0 (Mo_s_to s0 ((Mo_to s0) + (1 : Int32)))]) (lv' := [some (.ref (a0 0)), none, some (.int x2), some (.int x3), none]) (pc' := 347) (st' := []) (by decide +kernel) rfl rfl ⟨trivial, trivial, ⟨rfl, rfl, zw_6_34⟩, trivial, trivial, ⟨rfl, rfl, rfl, trivial, rfl, rfl, zw_6_34⟩, trivial⟩ ?_
  refine zr_eq (WW2 := [w_Mo G a0 y26]) (lv2 := [some (.ref (a0 0)), none, some (.int x2), some (.int x3), none]) (st2 := []) (by rw [e26]) rfl rfl ?_
  refine zr_goto (off := -132) (tgt := 215) (by decide +kernel) (by decide) ?_
  exact hk215 y26 x2 x3 hf
set_option maxRecDepth 100000 in
set_option maxHeartbeats 4000000 in
theorem t_X12_go_b307 (l : Launch) (G : zj_G) (a0 : Nat → Nat) (W0 : List va_W) (r : MoT) (s0 : MoT) (k215 : MoT → Int32 → Int32 → Option (MoT)) (hk215 : ∀ (s0 : MoT) (x2 : Int32) (x3 : Int32), k215 s0 x2 x3 = some r → zj_J l G M_X12_go W0 (zj_ret G M_X12_go W0 (none) (fun _ => [w_Mo G a0 r])) 0 0 [w_Mo G a0 s0] [some (.ref (a0 0)), none, some (.int x2), some (.int x3), none] 215 []) (x2 : Int32) (x3 : Int32) (x4 : Int32) (hf : f_X12_go_b307 s0 k215 x2 x3 x4 = some r) : zj_J l G M_X12_go W0 (zj_ret G M_X12_go W0 (none) (fun _ => [w_Mo G a0 r])) 0 0 [w_Mo G a0 s0] [some (.ref (a0 0)), none, some (.int x2), some (.int x3), some (.int x4)] 307 [] := by
  unfold f_X12_go_b307 at hf
  refine zr_run [(.aload_n 0, 0, 0, 0, .null), (.getfield 104, 0, 0, 5, .null), (.aload_n 0, 0, 0, 0, .null), (.getfield 107, 0, 0, 6, .null), (.isub, 0, 0, 0, .null), (.iconst 3, 0, 0, 0, .int (3 : Int32))] [] (WW' := [w_Mo G a0 s0]) (lv' := [some (.ref (a0 0)), none, some (.int x2), some (.int x3), some (.int x4)]) (pc' := 317) (st' := [.int (3 : Int32), .int ((Mo_to s0) - (Mo_from s0))]) (by decide +kernel) rfl rfl ⟨trivial, ⟨rfl, rfl, zw_6_34⟩, trivial, ⟨rfl, rfl, zw_6_35⟩, trivial, trivial, trivial⟩ ?_
  refine zr_icmp_ge (off := 20) (tgt := 337) (by decide +kernel) (by decide) (fun hc => ?_) (fun hc => ?_)
  · have hf := zift hf hc
    obtain ⟨y24, e24, hf⟩ := zlet_of hf
    refine zr_run [(.aload_n 0, 0, 0, 0, .null), (.bipush 10, 0, 0, 0, .int (10 : Int32)), (.aload_n 0, 0, 0, 0, .null), (.getfield 130, 0, 0, 8, .null), (.imul, 0, 0, 0, .null), (.iload 4, 0, 0, 0, .null), (.iadd, 0, 0, 0, .null), (.bipush 48, 0, 0, 0, .int (48 : Int32)), (.isub, 0, 0, 0, .null)] [] (WW' := [w_Mo G a0 s0]) (lv' := [some (.ref (a0 0)), none, some (.int x2), some (.int x3), some (.int x4)]) (pc' := 334) (st' := [.int ((((10 : Int32) * (Mo_number s0)) + x4) - (48 : Int32)), .ref (a0 0)]) (by decide +kernel) rfl rfl ⟨trivial, trivial, trivial, ⟨rfl, rfl, zw_6_37⟩, trivial, trivial, trivial, trivial, trivial, trivial⟩ ?_
    refine zr_eq (WW2 := [w_Mo G a0 s0]) (lv2 := [some (.ref (a0 0)), none, some (.int x2), some (.int x3), some (.int x4)]) (st2 := [.int y24, .ref (a0 0)]) rfl rfl (by rw [e24]) ?_
    obtain ⟨y25, e25, hf⟩ := zlet_of hf
    refine zr_run [(.putfield 130, 0, 0, 8, .null)] [] (WW' := [w_Mo G a0 (Mo_s_number s0 y24)]) (lv' := [some (.ref (a0 0)), none, some (.int x2), some (.int x3), some (.int x4)]) (pc' := 337) (st' := []) (by decide +kernel) rfl rfl ⟨⟨rfl, rfl, rfl, trivial, rfl, rfl, zw_6_37⟩, trivial⟩ ?_
    refine zr_eq (WW2 := [w_Mo G a0 y25]) (lv2 := [some (.ref (a0 0)), none, some (.int x2), some (.int x3), some (.int x4)]) (st2 := []) (by rw [e25]) rfl rfl ?_
    refine zr_run [] [4] (WW' := [w_Mo G a0 y25]) (lv' := [some (.ref (a0 0)), none, some (.int x2), some (.int x3), none]) (pc' := 337) (st' := []) (by decide +kernel) rfl rfl trivial ?_
    exact t_X12_go_b337 l G a0 W0 r y25 k215 hk215 x2 x3 hf
  · have hf := ziff hf hc
    refine zr_run [] [4] (WW' := [w_Mo G a0 s0]) (lv' := [some (.ref (a0 0)), none, some (.int x2), some (.int x3), none]) (pc' := 337) (st' := []) (by decide +kernel) rfl rfl trivial ?_
    exact t_X12_go_b337 l G a0 W0 r s0 k215 hk215 x2 x3 hf
set_option maxRecDepth 100000 in
set_option maxHeartbeats 4000000 in
theorem t_X12_go_b272 (l : Launch) (G : zj_G) (a0 : Nat → Nat) (W0 : List va_W) (r : MoT) (s0 : MoT) (k215 : MoT → Int32 → Int32 → Option (MoT)) (hk215 : ∀ (s0 : MoT) (x2 : Int32) (x3 : Int32), k215 s0 x2 x3 = some r → zj_J l G M_X12_go W0 (zj_ret G M_X12_go W0 (none) (fun _ => [w_Mo G a0 r])) 0 0 [w_Mo G a0 s0] [some (.ref (a0 0)), none, some (.int x2), some (.int x3), none] 215 []) (x2 : Int32) (x4 : Int32) (z0 : Int32) (hf : f_X12_go_b272 s0 k215 x2 x4 z0 = some r) : zj_J l G M_X12_go W0 (zj_ret G M_X12_go W0 (none) (fun _ => [w_Mo G a0 r])) 0 0 [w_Mo G a0 s0] [some (.ref (a0 0)), none, some (.int x2), none, some (.int x4)] 272 [.int z0] := by
  unfold f_X12_go_b272 at hf
  refine zr_run [(.istore_n 3, 0, 0, 0, .null), (.aload_n 0, 0, 0, 0, .null), (.getfield 104, 0, 0, 5, .null), (.aload_n 0, 0, 0, 0, .null), (.getfield 107, 0, 0, 6, .null), (.isub, 0, 0, 0, .null), (.bipush 7, 0, 0, 0, .int (7 : Int32))] [] (WW' := [w_Mo G a0 s0]) (lv' := [some (.ref (a0 0)), none, some (.int x2), some (.int z0), some (.int x4)]) (pc' := 284) (st' := [.int (7 : Int32), .int ((Mo_to s0) - (Mo_from s0))]) (by decide +kernel) rfl rfl ⟨trivial, trivial, ⟨rfl, rfl, zw_6_34⟩, trivial, ⟨rfl, rfl, zw_6_35⟩, trivial, trivial, trivial⟩ ?_
  refine zr_icmp_ge (off := 23) (tgt := 307) (by decide +kernel) (by decide) (fun hc => ?_) (fun hc => ?_)
  · have hf := zift hf hc
    obtain ⟨y22, e22, hf⟩ := zlet_of hf
    refine zr_run [(.aload_n 0, 0, 0, 0, .null), (.ldc2_w 137, 0, 0, 0, .long (27 : Int64)), (.aload_n 0, 0, 0, 0, .null), (.getfield 126, 0, 0, 12, .null), (.lmul, 0, 0, 0, .null), (.iload 4, 0, 0, 0, .null), (.i2l, 0, 0, 0, .null), (.ladd, 0, 0, 0, .null), (.ldc2_w 139, 0, 0, 0, .long (96 : Int64)), (.lsub, 0, 0, 0, .null)] [] (WW' := [w_Mo G a0 s0]) (lv' := [some (.ref (a0 0)), none, some (.int x2), some (.int z0), some (.int x4)]) (pc' := 304) (st' := [.long ((((27 : Int64) * (Mo_word s0)) + x4.toInt64) - (96 : Int64)), .ref (a0 0)]) (by decide +kernel) rfl rfl ⟨trivial, zw_6_235, trivial, ⟨rfl, rfl, zw_6_41⟩, trivial, trivial, trivial, trivial, zw_6_236, trivial, trivial⟩ ?_
    refine zr_eq (WW2 := [w_Mo G a0 s0]) (lv2 := [some (.ref (a0 0)), none, some (.int x2), some (.int z0), some (.int x4)]) (st2 := [.long y22, .ref (a0 0)]) rfl rfl (by rw [e22]) ?_
    obtain ⟨y23, e23, hf⟩ := zlet_of hf
    refine zr_run [(.putfield 126, 0, 0, 12, .null)] [] (WW' := [w_Mo G a0 (Mo_s_word s0 y22)]) (lv' := [some (.ref (a0 0)), none, some (.int x2), some (.int z0), some (.int x4)]) (pc' := 307) (st' := []) (by decide +kernel) rfl rfl ⟨⟨rfl, rfl, rfl, trivial, rfl, rfl, zw_6_41⟩, trivial⟩ ?_
    refine zr_eq (WW2 := [w_Mo G a0 y23]) (lv2 := [some (.ref (a0 0)), none, some (.int x2), some (.int z0), some (.int x4)]) (st2 := []) (by rw [e23]) rfl rfl ?_
    exact t_X12_go_b307 l G a0 W0 r y23 k215 hk215 x2 z0 x4 hf
  · have hf := ziff hf hc
    exact t_X12_go_b307 l G a0 W0 r s0 k215 hk215 x2 z0 x4 hf
set_option maxRecDepth 100000 in
set_option maxHeartbeats 4000000 in
theorem t_X12_go_b271 (l : Launch) (G : zj_G) (a0 : Nat → Nat) (W0 : List va_W) (r : MoT) (s0 : MoT) (k215 : MoT → Int32 → Int32 → Option (MoT)) (hk215 : ∀ (s0 : MoT) (x2 : Int32) (x3 : Int32), k215 s0 x2 x3 = some r → zj_J l G M_X12_go W0 (zj_ret G M_X12_go W0 (none) (fun _ => [w_Mo G a0 r])) 0 0 [w_Mo G a0 s0] [some (.ref (a0 0)), none, some (.int x2), some (.int x3), none] 215 []) (x2 : Int32) (x4 : Int32) (hf : f_X12_go_b271 s0 k215 x2 x4 = some r) : zj_J l G M_X12_go W0 (zj_ret G M_X12_go W0 (none) (fun _ => [w_Mo G a0 r])) 0 0 [w_Mo G a0 s0] [some (.ref (a0 0)), none, some (.int x2), none, some (.int x4)] 271 [] := by
  unfold f_X12_go_b271 at hf
  refine zr_run [(.iconst 0, 0, 0, 0, .int (0 : Int32))] [] (WW' := [w_Mo G a0 s0]) (lv' := [some (.ref (a0 0)), none, some (.int x2), none, some (.int x4)]) (pc' := 272) (st' := [.int (0 : Int32)]) (by decide +kernel) rfl rfl ⟨trivial, trivial⟩ ?_
  exact t_X12_go_b272 l G a0 W0 r s0 k215 hk215 x2 x4 (0 : Int32) hf
set_option maxRecDepth 100000 in
set_option maxHeartbeats 4000000 in
theorem t_X12_go_b243 (l : Launch) (G : zj_G) (a0 : Nat → Nat) (W0 : List va_W) (r : MoT) (s0 : MoT) (k215 : MoT → Int32 → Int32 → Option (MoT)) (hk215 : ∀ (s0 : MoT) (x2 : Int32) (x3 : Int32), k215 s0 x2 x3 = some r → zj_J l G M_X12_go W0 (zj_ret G M_X12_go W0 (none) (fun _ => [w_Mo G a0 r])) 0 0 [w_Mo G a0 s0] [some (.ref (a0 0)), none, some (.int x2), some (.int x3), none] 215 []) (x2 : Int32) (x3 : Int32) (hf : f_X12_go_b243 s0 k215 x2 x3 = some r) : zj_J l G M_X12_go W0 (zj_ret G M_X12_go W0 (none) (fun _ => [w_Mo G a0 r])) 0 0 [w_Mo G a0 s0] [some (.ref (a0 0)), none, some (.int x2), some (.int x3), none] 243 [] := by
  unfold f_X12_go_b243 at hf
  obtain ⟨h21, hf⟩ := zck_of hf
  refine zr_run [(.aload_n 0, 0, 0, 0, .null), (.getfield 7, 0, 0, 1, .null), (.aload_n 0, 0, 0, 0, .null), (.getfield 104, 0, 0, 5, .null), (.iaload, 0, 1, 0, .null), (.istore 4, 0, 0, 0, .null), (.iload_n 3, 0, 0, 0, .null)] [] (WW' := [w_Mo G a0 s0]) (lv' := [some (.ref (a0 0)), none, some (.int x2), some (.int x3), some (.int ((Mo_tape s0) (Mo_to s0).toNatClampNeg))]) (pc' := 255) (st' := [.int x3]) (by decide +kernel) rfl rfl ⟨trivial, ⟨rfl, rfl, zw_6_30⟩, trivial, ⟨rfl, rfl, zw_6_34⟩, ⟨rfl, rfl, h21⟩, trivial, trivial, trivial⟩ ?_
  refine zr_if_eq (off := 16) (tgt := 271) (by decide +kernel) (by decide) (fun hc => ?_) (fun hc => ?_)
  · have hf := zift hf hc
    refine zr_run [] [3] (WW' := [w_Mo G a0 s0]) (lv' := [some (.ref (a0 0)), none, some (.int x2), none, some (.int ((Mo_tape s0) (Mo_to s0).toNatClampNeg))]) (pc' := 271) (st' := []) (by decide +kernel) rfl rfl trivial ?_
    exact t_X12_go_b271 l G a0 W0 r s0 k215 hk215 x2 ((Mo_tape s0) (Mo_to s0).toNatClampNeg) hf
  · have hf := ziff hf hc
    obtain ⟨q27, e27, hf⟩ := zbi_of hf
    refine zr_run [(.iload 4, 0, 0, 0, .null)] [] (WW' := [w_Mo G a0 s0]) (lv' := [some (.ref (a0 0)), none, some (.int x2), some (.int x3), some (.int ((Mo_tape s0) (Mo_to s0).toNatClampNeg))]) (pc' := 260) (st' := [.int ((Mo_tape s0) (Mo_to s0).toNatClampNeg)]) (by decide +kernel) rfl rfl ⟨trivial, trivial⟩ ?_
    refine zr_callS (c_X12_isLetter l G ((Mo_tape s0) (Mo_to s0).toNatClampNeg) q27 e27) (WW' := fun _ => [w_Mo G a0 s0]) (st := []) (st' := [.int q27]) [] rfl rfl (fun _ => Nat.le_of_ble_eq_true rfl) (fun _ => rfl) rfl rfl nm_X12_isLetter zw_6_225 zw_6_226 zw_1_18 zw_6_227 rfl (Nat.le_of_ble_eq_true rfl) ⟨Nat.le_of_ble_eq_true rfl, Nat.le_of_ble_eq_true rfl⟩ (by decide +kernel) (fun _ => ?_)
    refine zr_run [(.iload_n 2, 0, 0, 0, .null)] [] (WW' := [w_Mo G a0 s0]) (lv' := [some (.ref (a0 0)), none, some (.int x2), some (.int x3), some (.int ((Mo_tape s0) (Mo_to s0).toNatClampNeg))]) (pc' := 264) (st' := [.int x2, .int q27]) (by decide +kernel) rfl rfl ⟨trivial, trivial⟩ ?_
    refine zr_icmp_ne (off := 7) (tgt := 271) (by decide +kernel) (by decide) (fun hc => ?_) (fun hc => ?_)
    · have hf := zift hf hc
      refine zr_run [(.iconst 1, 0, 0, 0, .int (1 : Int32))] [] (WW' := [w_Mo G a0 s0]) (lv' := [some (.ref (a0 0)), none, some (.int x2), some (.int x3), some (.int ((Mo_tape s0) (Mo_to s0).toNatClampNeg))]) (pc' := 268) (st' := [.int (1 : Int32)]) (by decide +kernel) rfl rfl ⟨trivial, trivial⟩ ?_
      refine zr_goto (off := 4) (tgt := 272) (by decide +kernel) (by decide) ?_
      refine zr_run [] [3] (WW' := [w_Mo G a0 s0]) (lv' := [some (.ref (a0 0)), none, some (.int x2), none, some (.int ((Mo_tape s0) (Mo_to s0).toNatClampNeg))]) (pc' := 272) (st' := [.int (1 : Int32)]) (by decide +kernel) rfl rfl trivial ?_
      exact t_X12_go_b272 l G a0 W0 r s0 k215 hk215 x2 ((Mo_tape s0) (Mo_to s0).toNatClampNeg) (1 : Int32) hf
    · have hf := ziff hf hc
      refine zr_run [] [3] (WW' := [w_Mo G a0 s0]) (lv' := [some (.ref (a0 0)), none, some (.int x2), none, some (.int ((Mo_tape s0) (Mo_to s0).toNatClampNeg))]) (pc' := 271) (st' := []) (by decide +kernel) rfl rfl trivial ?_
      exact t_X12_go_b271 l G a0 W0 r s0 k215 hk215 x2 ((Mo_tape s0) (Mo_to s0).toNatClampNeg) hf
set_option maxRecDepth 100000 in
set_option maxHeartbeats 4000000 in
theorem t_X12_go_H215 (l : Launch) (G : zj_G) (a0 : Nat → Nat) (W0 : List va_W) (r : MoT) (s0 : MoT) (k215 : MoT → Int32 → Int32 → Option (MoT)) (hk215 : ∀ (s0 : MoT) (x2 : Int32) (x3 : Int32), k215 s0 x2 x3 = some r → zj_J l G M_X12_go W0 (zj_ret G M_X12_go W0 (none) (fun _ => [w_Mo G a0 r])) 0 0 [w_Mo G a0 s0] [some (.ref (a0 0)), none, some (.int x2), some (.int x3), none] 215 []) (x2 : Int32) (x3 : Int32) (hf : f_X12_go_H215 s0 k215 x2 x3 = some r) : zj_J l G M_X12_go W0 (zj_ret G M_X12_go W0 (none) (fun _ => [w_Mo G a0 r])) 0 0 [w_Mo G a0 s0] [some (.ref (a0 0)), none, some (.int x2), some (.int x3), none] 215 [] := by
  unfold f_X12_go_H215 at hf
  obtain ⟨q14, e14, hf⟩ := zbi_of hf
  refine zr_run [(.aload_n 0, 0, 0, 0, .null), (.aload_n 0, 0, 0, 0, .null), (.getfield 104, 0, 0, 5, .null)] [] (WW' := [w_Mo G a0 s0]) (lv' := [some (.ref (a0 0)), none, some (.int x2), some (.int x3), none]) (pc' := 220) (st' := [.int (Mo_to s0), .ref (a0 0)]) (by decide +kernel) rfl rfl ⟨trivial, trivial, ⟨rfl, rfl, zw_6_34⟩, trivial⟩ ?_
  refine zr_callV (c_X12_tapeAt l G a0 s0 (Mo_to s0) q14 e14) (WW' := fun _ => [w_Mo G a0 s0]) (st := []) (st' := [.int q14]) [0] rfl rfl (fun _ => Nat.le_of_ble_eq_true rfl) (fun _ => rfl) rfl rfl nm_X12_tapeAt zw_6_231 zw_6_233 zw_0_51 zw_1_18 zw_6_234 rfl rfl rfl (Nat.le_of_ble_eq_true rfl) ⟨Nat.le_of_ble_eq_true rfl, Nat.le_of_ble_eq_true rfl⟩ (by decide +kernel) (fun _ => ?_)
  obtain ⟨q15, e15, hf⟩ := zbi_of hf
  refine zr_callS (c_X12_isLetter l G q14 q15 e15) (WW' := fun _ => [w_Mo G a0 s0]) (st := []) (st' := [.int q15]) [] rfl rfl (fun _ => Nat.le_of_ble_eq_true rfl) (fun _ => rfl) rfl rfl nm_X12_isLetter zw_6_225 zw_6_226 zw_1_18 zw_6_227 rfl (Nat.le_of_ble_eq_true rfl) ⟨Nat.le_of_ble_eq_true rfl, Nat.le_of_ble_eq_true rfl⟩ (by decide +kernel) (fun _ => ?_)
  refine zr_if_ne (off := 17) (tgt := 243) (by decide +kernel) (by decide) (fun hc => ?_) (fun hc => ?_)
  · have hf := zift hf hc
    obtain ⟨q16, e16, hf⟩ := zbi_of hf
    refine zr_run [(.aload_n 0, 0, 0, 0, .null), (.aload_n 0, 0, 0, 0, .null), (.getfield 104, 0, 0, 5, .null)] [] (WW' := [w_Mo G a0 s0]) (lv' := [some (.ref (a0 0)), none, some (.int x2), some (.int x3), none]) (pc' := 234) (st' := [.int (Mo_to s0), .ref (a0 0)]) (by decide +kernel) rfl rfl ⟨trivial, trivial, ⟨rfl, rfl, zw_6_34⟩, trivial⟩ ?_
    refine zr_callV (c_X12_tapeAt l G a0 s0 (Mo_to s0) q16 e16) (WW' := fun _ => [w_Mo G a0 s0]) (st := []) (st' := [.int q16]) [0] rfl rfl (fun _ => Nat.le_of_ble_eq_true rfl) (fun _ => rfl) rfl rfl nm_X12_tapeAt zw_6_231 zw_6_233 zw_0_51 zw_1_18 zw_6_234 rfl rfl rfl (Nat.le_of_ble_eq_true rfl) ⟨Nat.le_of_ble_eq_true rfl, Nat.le_of_ble_eq_true rfl⟩ (by decide +kernel) (fun _ => ?_)
    obtain ⟨q17, e17, hf⟩ := zbi_of hf
    refine zr_callS (c_X12_isDigit l G q16 q17 e17) (WW' := fun _ => [w_Mo G a0 s0]) (st := []) (st' := [.int q17]) [] rfl rfl (fun _ => Nat.le_of_ble_eq_true rfl) (fun _ => rfl) rfl rfl nm_X12_isDigit zw_6_228 zw_6_229 zw_1_18 zw_6_230 rfl (Nat.le_of_ble_eq_true rfl) ⟨Nat.le_of_ble_eq_true rfl, Nat.le_of_ble_eq_true rfl⟩ (by decide +kernel) (fun _ => ?_)
    refine zr_if_eq (off := 110) (tgt := 350) (by decide +kernel) (by decide) (fun hc => ?_) (fun hc => ?_)
    · have hf := zift hf hc
      refine zr_run [(.aload_n 0, 0, 0, 0, .null), (.iload_n 3, 0, 0, 0, .null)] [] (WW' := [w_Mo G a0 s0]) (lv' := [some (.ref (a0 0)), none, some (.int x2), some (.int x3), none]) (pc' := 352) (st' := [.int x3, .ref (a0 0)]) (by decide +kernel) rfl rfl ⟨trivial, trivial, trivial⟩ ?_
      refine zr_if_eq (off := 25) (tgt := 377) (by decide +kernel) (by decide) (fun hc => ?_) (fun hc => ?_)
      · have hf := zift hf hc
        refine zr_run [] [0, 2, 3] (WW' := [w_Mo G a0 s0]) (lv' := [none, none, none, none, none]) (pc' := 377) (st' := [.ref (a0 0)]) (by decide +kernel) rfl rfl trivial ?_
        exact t_X12_go_b377 l G a0 W0 r s0 hf
      · have hf := ziff hf hc
        refine zr_run [(.aload_n 0, 0, 0, 0, .null), (.getfield 104, 0, 0, 5, .null), (.aload_n 0, 0, 0, 0, .null), (.getfield 107, 0, 0, 6, .null), (.isub, 0, 0, 0, .null), (.iload_n 2, 0, 0, 0, .null)] [] (WW' := [w_Mo G a0 s0]) (lv' := [some (.ref (a0 0)), none, some (.int x2), some (.int x3), none]) (pc' := 365) (st' := [.int x2, .int ((Mo_to s0) - (Mo_from s0)), .ref (a0 0)]) (by decide +kernel) rfl rfl ⟨trivial, ⟨rfl, rfl, zw_6_34⟩, trivial, ⟨rfl, rfl, zw_6_35⟩, trivial, trivial, trivial⟩ ?_
        refine zr_if_eq (off := 8) (tgt := 373) (by decide +kernel) (by decide) (fun hc => ?_) (fun hc => ?_)
        · have hf := zift hf hc
          refine zr_run [(.iconst 3, 0, 0, 0, .int (3 : Int32))] [0, 3] (WW' := [w_Mo G a0 s0]) (lv' := [none, none, some (.int x2), none, none]) (pc' := 374) (st' := [.int (3 : Int32), .int ((Mo_to s0) - (Mo_from s0)), .ref (a0 0)]) (by decide +kernel) rfl rfl ⟨trivial, trivial⟩ ?_
          exact t_X12_go_b374 l G a0 W0 r s0 x2 (3 : Int32) ((Mo_to s0) - (Mo_from s0)) hf
        · have hf := ziff hf hc
          refine zr_run [(.bipush 7, 0, 0, 0, .int (7 : Int32))] [] (WW' := [w_Mo G a0 s0]) (lv' := [some (.ref (a0 0)), none, some (.int x2), some (.int x3), none]) (pc' := 370) (st' := [.int (7 : Int32), .int ((Mo_to s0) - (Mo_from s0)), .ref (a0 0)]) (by decide +kernel) rfl rfl ⟨trivial, trivial⟩ ?_
          refine zr_goto (off := 4) (tgt := 374) (by decide +kernel) (by decide) ?_
          refine zr_run [] [0, 3] (WW' := [w_Mo G a0 s0]) (lv' := [none, none, some (.int x2), none, none]) (pc' := 374) (st' := [.int (7 : Int32), .int ((Mo_to s0) - (Mo_from s0)), .ref (a0 0)]) (by decide +kernel) rfl rfl trivial ?_
          exact t_X12_go_b374 l G a0 W0 r s0 x2 (7 : Int32) ((Mo_to s0) - (Mo_from s0)) hf
    · have hf := ziff hf hc
      exact t_X12_go_b243 l G a0 W0 r s0 k215 hk215 x2 x3 hf
  · have hf := ziff hf hc
    exact t_X12_go_b243 l G a0 W0 r s0 k215 hk215 x2 x3 hf
theorem t_X12_go_L215 (l : Launch) (G : zj_G) (a0 : Nat → Nat) (W0 : List va_W) (r : MoT)    : ∀ (n : Nat) (s0 : MoT) (x2 : Int32) (x3 : Int32), f_X12_go_L215 n s0 x2 x3 = some r → zj_J l G M_X12_go W0 (zj_ret G M_X12_go W0 (none) (fun _ => [w_Mo G a0 r])) 0 0 [w_Mo G a0 s0] [some (.ref (a0 0)), none, some (.int x2), some (.int x3), none] 215 [] := by
  intro n
  induction n with
  | zero => intro s0 x2 x3 hf; exact nomatch (show none = some r from hf)
  | succ n ih => intro s0 x2 x3 hf; exact t_X12_go_H215 l G a0 W0 r s0  (f_X12_go_L215 n)  ih x2 x3  hf
set_option maxRecDepth 100000 in
set_option maxHeartbeats 4000000 in
theorem t_X12_go_b198 (l : Launch) (G : zj_G) (a0 : Nat → Nat) (W0 : List va_W) (r : MoT) (s0 : MoT)   (x1 : Int32) (hf : f_X12_go_b198 s0 x1 = some r) : zj_J l G M_X12_go W0 (zj_ret G M_X12_go W0 (none) (fun _ => [w_Mo G a0 r])) 0 0 [w_Mo G a0 s0] [some (.ref (a0 0)), some (.int x1), none, none, none] 198 [] := by
  unfold f_X12_go_b198 at hf
  obtain ⟨q11, e11, hf⟩ := zbi_of hf
  refine zr_run [(.iload_n 1, 0, 0, 0, .null)] [] (WW' := [w_Mo G a0 s0]) (lv' := [some (.ref (a0 0)), some (.int x1), none, none, none]) (pc' := 199) (st' := [.int x1]) (by decide +kernel) rfl rfl ⟨trivial, trivial⟩ ?_
  refine zr_callS (c_X12_isLetter l G x1 q11 e11) (WW' := fun _ => [w_Mo G a0 s0]) (st := []) (st' := [.int q11]) [] rfl rfl (fun _ => Nat.le_of_ble_eq_true rfl) (fun _ => rfl) rfl rfl nm_X12_isLetter zw_6_225 zw_6_226 zw_1_18 zw_6_227 rfl (Nat.le_of_ble_eq_true rfl) ⟨Nat.le_of_ble_eq_true rfl, Nat.le_of_ble_eq_true rfl⟩ (by decide +kernel) (fun _ => ?_)
  obtain ⟨y12, e12, hf⟩ := zlet_of hf
  refine zr_run [(.istore_n 2, 0, 0, 0, .null), (.iconst 1, 0, 0, 0, .int (1 : Int32)), (.istore_n 3, 0, 0, 0, .null), (.aload_n 0, 0, 0, 0, .null), (.lconst 0, 0, 0, 0, .long (0 : Int64)), (.putfield 126, 0, 0, 12, .null)] [] (WW' := [w_Mo G a0 (Mo_s_word s0 (0 : Int64))]) (lv' := [some (.ref (a0 0)), some (.int x1), some (.int q11), some (.int (1 : Int32)), none]) (pc' := 210) (st' := []) (by decide +kernel) rfl rfl ⟨trivial, trivial, trivial, trivial, trivial, ⟨rfl, rfl, rfl, trivial, rfl, rfl, zw_6_41⟩, trivial⟩ ?_
  refine zr_eq (WW2 := [w_Mo G a0 y12]) (lv2 := [some (.ref (a0 0)), some (.int x1), some (.int q11), some (.int (1 : Int32)), none]) (st2 := []) (by rw [e12]) rfl rfl ?_
  obtain ⟨y13, e13, hf⟩ := zlet_of hf
  refine zr_run [(.aload_n 0, 0, 0, 0, .null), (.iconst 0, 0, 0, 0, .int (0 : Int32)), (.putfield 130, 0, 0, 8, .null)] [] (WW' := [w_Mo G a0 (Mo_s_number y12 (0 : Int32))]) (lv' := [some (.ref (a0 0)), some (.int x1), some (.int q11), some (.int (1 : Int32)), none]) (pc' := 215) (st' := []) (by decide +kernel) rfl rfl ⟨trivial, trivial, ⟨rfl, rfl, rfl, trivial, rfl, rfl, zw_6_37⟩, trivial⟩ ?_
  refine zr_eq (WW2 := [w_Mo G a0 y13]) (lv2 := [some (.ref (a0 0)), some (.int x1), some (.int q11), some (.int (1 : Int32)), none]) (st2 := []) (by rw [e13]) rfl rfl ?_
  refine zr_run [] [1] (WW' := [w_Mo G a0 y13]) (lv' := [some (.ref (a0 0)), none, some (.int q11), some (.int (1 : Int32)), none]) (pc' := 215) (st' := []) (by decide +kernel) rfl rfl trivial ?_
  exact t_X12_go_L215 l G a0 W0 r zFU y13 q11 (1 : Int32) hf
set_option maxRecDepth 100000 in
set_option maxHeartbeats 4000000 in
theorem t_X12_go_b96 (l : Launch) (G : zj_G) (a0 : Nat → Nat) (W0 : List va_W) (r : MoT) (s0 : MoT)    (hf : f_X12_go_b96 s0 = some r) : zj_J l G M_X12_go W0 (zj_ret G M_X12_go W0 (none) (fun _ => [w_Mo G a0 r])) 0 0 [w_Mo G a0 s0] [some (.ref (a0 0)), none, none, none, none] 96 [] := by
  unfold f_X12_go_b96 at hf
  refine zr_run [(.aload_n 0, 0, 0, 0, .null), (.getfield 104, 0, 0, 5, .null), (.aload_n 0, 0, 0, 0, .null), (.getfield 101, 0, 0, 3, .null)] [] (WW' := [w_Mo G a0 s0]) (lv' := [some (.ref (a0 0)), none, none, none, none]) (pc' := 104) (st' := [.int (Mo_size s0), .int (Mo_to s0)]) (by decide +kernel) rfl rfl ⟨trivial, ⟨rfl, rfl, zw_6_34⟩, trivial, ⟨rfl, rfl, zw_6_32⟩, trivial⟩ ?_
  refine zr_icmp_lt (off := 9) (tgt := 113) (by decide +kernel) (by decide) (fun hc => ?_) (fun hc => ?_)
  · have hf := zift hf hc
    obtain ⟨h5, hf⟩ := zck_of hf
    obtain ⟨q6, e6, hf⟩ := zbi_of hf
    refine zr_run [(.aload_n 0, 0, 0, 0, .null), (.getfield 7, 0, 0, 1, .null), (.aload_n 0, 0, 0, 0, .null), (.getfield 104, 0, 0, 5, .null), (.iaload, 0, 1, 0, .null), (.istore_n 1, 0, 0, 0, .null), (.iload_n 1, 0, 0, 0, .null)] [] (WW' := [w_Mo G a0 s0]) (lv' := [some (.ref (a0 0)), some (.int ((Mo_tape s0) (Mo_to s0).toNatClampNeg)), none, none, none]) (pc' := 124) (st' := [.int ((Mo_tape s0) (Mo_to s0).toNatClampNeg)]) (by decide +kernel) rfl rfl ⟨trivial, ⟨rfl, rfl, zw_6_30⟩, trivial, ⟨rfl, rfl, zw_6_34⟩, ⟨rfl, rfl, h5⟩, trivial, trivial, trivial⟩ ?_
    refine zr_callS (c_X12_isLetter l G ((Mo_tape s0) (Mo_to s0).toNatClampNeg) q6 e6) (WW' := fun _ => [w_Mo G a0 s0]) (st := []) (st' := [.int q6]) [] rfl rfl (fun _ => Nat.le_of_ble_eq_true rfl) (fun _ => rfl) rfl rfl nm_X12_isLetter zw_6_225 zw_6_226 zw_1_18 zw_6_227 rfl (Nat.le_of_ble_eq_true rfl) ⟨Nat.le_of_ble_eq_true rfl, Nat.le_of_ble_eq_true rfl⟩ (by decide +kernel) (fun _ => ?_)
    refine zr_if_ne (off := 71) (tgt := 198) (by decide +kernel) (by decide) (fun hc => ?_) (fun hc => ?_)
    · have hf := zift hf hc
      obtain ⟨q7, e7, hf⟩ := zbi_of hf
      refine zr_run [(.iload_n 1, 0, 0, 0, .null)] [] (WW' := [w_Mo G a0 s0]) (lv' := [some (.ref (a0 0)), some (.int ((Mo_tape s0) (Mo_to s0).toNatClampNeg)), none, none, none]) (pc' := 131) (st' := [.int ((Mo_tape s0) (Mo_to s0).toNatClampNeg)]) (by decide +kernel) rfl rfl ⟨trivial, trivial⟩ ?_
      refine zr_callS (c_X12_isDigit l G ((Mo_tape s0) (Mo_to s0).toNatClampNeg) q7 e7) (WW' := fun _ => [w_Mo G a0 s0]) (st := []) (st' := [.int q7]) [] rfl rfl (fun _ => Nat.le_of_ble_eq_true rfl) (fun _ => rfl) rfl rfl nm_X12_isDigit zw_6_228 zw_6_229 zw_1_18 zw_6_230 rfl (Nat.le_of_ble_eq_true rfl) ⟨Nat.le_of_ble_eq_true rfl, Nat.le_of_ble_eq_true rfl⟩ (by decide +kernel) (fun _ => ?_)
      refine zr_if_ne (off := 64) (tgt := 198) (by decide +kernel) (by decide) (fun hc => ?_) (fun hc => ?_)
      · have hf := zift hf hc
        refine zr_run [(.aload_n 0, 0, 0, 0, .null), (.iload_n 1, 0, 0, 0, .null), (.bipush 59, 0, 0, 0, .int (59 : Int32))] [] (WW' := [w_Mo G a0 s0]) (lv' := [some (.ref (a0 0)), some (.int ((Mo_tape s0) (Mo_to s0).toNatClampNeg)), none, none, none]) (pc' := 141) (st' := [.int (59 : Int32), .int ((Mo_tape s0) (Mo_to s0).toNatClampNeg), .ref (a0 0)]) (by decide +kernel) rfl rfl ⟨trivial, trivial, trivial, trivial⟩ ?_
        refine zr_icmp_eq (off := 33) (tgt := 174) (by decide +kernel) (by decide) (fun hc => ?_) (fun hc => ?_)
        · have hf := zift hf hc
          exact t_X12_go_b174 l G a0 W0 r s0 ((Mo_tape s0) (Mo_to s0).toNatClampNeg) hf
        · have hf := ziff hf hc
          refine zr_run [(.iload_n 1, 0, 0, 0, .null), (.bipush 60, 0, 0, 0, .int (60 : Int32))] [] (WW' := [w_Mo G a0 s0]) (lv' := [some (.ref (a0 0)), some (.int ((Mo_tape s0) (Mo_to s0).toNatClampNeg)), none, none, none]) (pc' := 147) (st' := [.int (60 : Int32), .int ((Mo_tape s0) (Mo_to s0).toNatClampNeg), .ref (a0 0)]) (by decide +kernel) rfl rfl ⟨trivial, trivial, trivial⟩ ?_
          refine zr_icmp_eq (off := 27) (tgt := 174) (by decide +kernel) (by decide) (fun hc => ?_) (fun hc => ?_)
          · have hf := zift hf hc
            exact t_X12_go_b174 l G a0 W0 r s0 ((Mo_tape s0) (Mo_to s0).toNatClampNeg) hf
          · have hf := ziff hf hc
            refine zr_run [(.iload_n 1, 0, 0, 0, .null), (.bipush 61, 0, 0, 0, .int (61 : Int32))] [] (WW' := [w_Mo G a0 s0]) (lv' := [some (.ref (a0 0)), some (.int ((Mo_tape s0) (Mo_to s0).toNatClampNeg)), none, none, none]) (pc' := 153) (st' := [.int (61 : Int32), .int ((Mo_tape s0) (Mo_to s0).toNatClampNeg), .ref (a0 0)]) (by decide +kernel) rfl rfl ⟨trivial, trivial, trivial⟩ ?_
            refine zr_icmp_eq (off := 21) (tgt := 174) (by decide +kernel) (by decide) (fun hc => ?_) (fun hc => ?_)
            · have hf := zift hf hc
              exact t_X12_go_b174 l G a0 W0 r s0 ((Mo_tape s0) (Mo_to s0).toNatClampNeg) hf
            · have hf := ziff hf hc
              refine zr_run [(.iload_n 1, 0, 0, 0, .null), (.bipush 62, 0, 0, 0, .int (62 : Int32))] [] (WW' := [w_Mo G a0 s0]) (lv' := [some (.ref (a0 0)), some (.int ((Mo_tape s0) (Mo_to s0).toNatClampNeg)), none, none, none]) (pc' := 159) (st' := [.int (62 : Int32), .int ((Mo_tape s0) (Mo_to s0).toNatClampNeg), .ref (a0 0)]) (by decide +kernel) rfl rfl ⟨trivial, trivial, trivial⟩ ?_
              refine zr_icmp_eq (off := 15) (tgt := 174) (by decide +kernel) (by decide) (fun hc => ?_) (fun hc => ?_)
              · have hf := zift hf hc
                exact t_X12_go_b174 l G a0 W0 r s0 ((Mo_tape s0) (Mo_to s0).toNatClampNeg) hf
              · have hf := ziff hf hc
                refine zr_run [(.iload_n 1, 0, 0, 0, .null), (.bipush 40, 0, 0, 0, .int (40 : Int32))] [] (WW' := [w_Mo G a0 s0]) (lv' := [some (.ref (a0 0)), some (.int ((Mo_tape s0) (Mo_to s0).toNatClampNeg)), none, none, none]) (pc' := 165) (st' := [.int (40 : Int32), .int ((Mo_tape s0) (Mo_to s0).toNatClampNeg), .ref (a0 0)]) (by decide +kernel) rfl rfl ⟨trivial, trivial, trivial⟩ ?_
                refine zr_icmp_eq (off := 9) (tgt := 174) (by decide +kernel) (by decide) (fun hc => ?_) (fun hc => ?_)
                · have hf := zift hf hc
                  exact t_X12_go_b174 l G a0 W0 r s0 ((Mo_tape s0) (Mo_to s0).toNatClampNeg) hf
                · have hf := ziff hf hc
                  refine zr_run [(.iload_n 1, 0, 0, 0, .null), (.bipush 41, 0, 0, 0, .int (41 : Int32))] [] (WW' := [w_Mo G a0 s0]) (lv' := [some (.ref (a0 0)), some (.int ((Mo_tape s0) (Mo_to s0).toNatClampNeg)), none, none, none]) (pc' := 171) (st' := [.int (41 : Int32), .int ((Mo_tape s0) (Mo_to s0).toNatClampNeg), .ref (a0 0)]) (by decide +kernel) rfl rfl ⟨trivial, trivial, trivial⟩ ?_
                  refine zr_icmp_ne (off := 7) (tgt := 178) (by decide +kernel) (by decide) (fun hc => ?_) (fun hc => ?_)
                  · have hf := zift hf hc
                    exact t_X12_go_b174 l G a0 W0 r s0 ((Mo_tape s0) (Mo_to s0).toNatClampNeg) hf
                  · have hf := ziff hf hc
                    refine zr_run [(.iconst 1, 0, 0, 0, .int (1 : Int32))] [] (WW' := [w_Mo G a0 s0]) (lv' := [some (.ref (a0 0)), some (.int ((Mo_tape s0) (Mo_to s0).toNatClampNeg)), none, none, none]) (pc' := 179) (st' := [.int (1 : Int32), .ref (a0 0)]) (by decide +kernel) rfl rfl ⟨trivial, trivial⟩ ?_
                    exact t_X12_go_b179 l G a0 W0 r s0 ((Mo_tape s0) (Mo_to s0).toNatClampNeg) (1 : Int32) hf
      · have hf := ziff hf hc
        exact t_X12_go_b198 l G a0 W0 r s0 ((Mo_tape s0) (Mo_to s0).toNatClampNeg) hf
    · have hf := ziff hf hc
      exact t_X12_go_b198 l G a0 W0 r s0 ((Mo_tape s0) (Mo_to s0).toNatClampNeg) hf
  · have hf := ziff hf hc
    obtain ⟨y28, e28, hf⟩ := zlet_of hf
    refine zr_run [(.aload_n 0, 0, 0, 0, .null), (.iconst 0, 0, 0, 0, .int (0 : Int32)), (.putfield 113, 0, 0, 7, .null)] [] (WW' := [w_Mo G a0 (Mo_s_kind s0 (0 : Int32))]) (lv' := [some (.ref (a0 0)), none, none, none, none]) (pc' := 112) (st' := []) (by decide +kernel) rfl rfl ⟨trivial, trivial, ⟨rfl, rfl, rfl, trivial, rfl, rfl, zw_6_36⟩, trivial⟩ ?_
    refine zr_eq (WW2 := [w_Mo G a0 y28]) (lv2 := [some (.ref (a0 0)), none, none, none, none]) (st2 := []) (by rw [e28]) rfl rfl ?_
    obtain rfl := Option.some.inj hf
    exact zr_vret (b0 := fun _ => 0) (by decide +kernel) rfl rfl rfl rfl rfl
set_option maxRecDepth 100000 in
set_option maxHeartbeats 4000000 in
theorem t_X12_go_b52 (l : Launch) (G : zj_G) (a0 : Nat → Nat) (W0 : List va_W) (r : MoT) (s0 : MoT)    (hf : f_X12_go_b52 s0 = some r) : zj_J l G M_X12_go W0 (zj_ret G M_X12_go W0 (none) (fun _ => [w_Mo G a0 r])) 0 0 [w_Mo G a0 s0] [some (.ref (a0 0)), none, none, none, none] 52 [] := by
  unfold f_X12_go_b52 at hf
  obtain ⟨y4, e4, hf⟩ := zlet_of hf
  refine zr_run [(.aload_n 0, 0, 0, 0, .null), (.aload_n 0, 0, 0, 0, .null), (.getfield 104, 0, 0, 5, .null), (.putfield 107, 0, 0, 6, .null)] [] (WW' := [w_Mo G a0 (Mo_s_from s0 (Mo_to s0))]) (lv' := [some (.ref (a0 0)), none, none, none, none]) (pc' := 60) (st' := []) (by decide +kernel) rfl rfl ⟨trivial, trivial, ⟨rfl, rfl, zw_6_34⟩, ⟨rfl, rfl, rfl, trivial, rfl, rfl, zw_6_35⟩, trivial⟩ ?_
  refine zr_eq (WW2 := [w_Mo G a0 y4]) (lv2 := [some (.ref (a0 0)), none, none, none, none]) (st2 := []) (by rw [e4]) rfl rfl ?_
  refine zr_run [(.aload_n 0, 0, 0, 0, .null), (.getfield 101, 0, 0, 3, .null), (.aload_n 0, 0, 0, 0, .null), (.getfield 110, 0, 0, 4, .null)] [] (WW' := [w_Mo G a0 y4]) (lv' := [some (.ref (a0 0)), none, none, none, none]) (pc' := 68) (st' := [.int (Mo_limit y4), .int (Mo_size y4)]) (by decide +kernel) rfl rfl ⟨trivial, ⟨rfl, rfl, zw_6_32⟩, trivial, ⟨rfl, rfl, zw_6_33⟩, trivial⟩ ?_
  refine zr_icmp_le (off := 28) (tgt := 96) (by decide +kernel) (by decide) (fun hc => ?_) (fun hc => ?_)
  · have hf := zift hf hc
    refine zr_run [(.aload_n 0, 0, 0, 0, .null), (.getfield 107, 0, 0, 6, .null), (.aload_n 0, 0, 0, 0, .null), (.getfield 110, 0, 0, 4, .null)] [] (WW' := [w_Mo G a0 y4]) (lv' := [some (.ref (a0 0)), none, none, none, none]) (pc' := 79) (st' := [.int (Mo_limit y4), .int (Mo_from y4)]) (by decide +kernel) rfl rfl ⟨trivial, ⟨rfl, rfl, zw_6_35⟩, trivial, ⟨rfl, rfl, zw_6_33⟩, trivial⟩ ?_
    refine zr_icmp_lt (off := 17) (tgt := 96) (by decide +kernel) (by decide) (fun hc => ?_) (fun hc => ?_)
    · have hf := zift hf hc
      exact t_X12_go_b96 l G a0 W0 r y4 hf
    · have hf := ziff hf hc
      obtain ⟨y29, e29, hf⟩ := zlet_of hf
      refine zr_run [(.aload_n 0, 0, 0, 0, .null), (.aload_n 0, 0, 0, 0, .null), (.getfield 110, 0, 0, 4, .null), (.putfield 107, 0, 0, 6, .null)] [] (WW' := [w_Mo G a0 (Mo_s_from y4 (Mo_limit y4))]) (lv' := [some (.ref (a0 0)), none, none, none, none]) (pc' := 90) (st' := []) (by decide +kernel) rfl rfl ⟨trivial, trivial, ⟨rfl, rfl, zw_6_33⟩, ⟨rfl, rfl, rfl, trivial, rfl, rfl, zw_6_35⟩, trivial⟩ ?_
      refine zr_eq (WW2 := [w_Mo G a0 y29]) (lv2 := [some (.ref (a0 0)), none, none, none, none]) (st2 := []) (by rw [e29]) rfl rfl ?_
      obtain ⟨y30, e30, hf⟩ := zlet_of hf
      refine zr_run [(.aload_n 0, 0, 0, 0, .null), (.iconst 1, 0, 0, 0, .int (1 : Int32)), (.putfield 113, 0, 0, 7, .null)] [] (WW' := [w_Mo G a0 (Mo_s_kind y29 (1 : Int32))]) (lv' := [some (.ref (a0 0)), none, none, none, none]) (pc' := 95) (st' := []) (by decide +kernel) rfl rfl ⟨trivial, trivial, ⟨rfl, rfl, rfl, trivial, rfl, rfl, zw_6_36⟩, trivial⟩ ?_
      refine zr_eq (WW2 := [w_Mo G a0 y30]) (lv2 := [some (.ref (a0 0)), none, none, none, none]) (st2 := []) (by rw [e30]) rfl rfl ?_
      obtain rfl := Option.some.inj hf
      exact zr_vret (b0 := fun _ => 0) (by decide +kernel) rfl rfl rfl rfl rfl
  · have hf := ziff hf hc
    exact t_X12_go_b96 l G a0 W0 r y4 hf
set_option maxRecDepth 100000 in
set_option maxHeartbeats 4000000 in
theorem t_X12_go_H0 (l : Launch) (G : zj_G) (a0 : Nat → Nat) (W0 : List va_W) (r : MoT) (s0 : MoT) (k0 : MoT → Option (MoT)) (hk0 : ∀ (s0 : MoT), k0 s0 = some r → zj_J l G M_X12_go W0 (zj_ret G M_X12_go W0 (none) (fun _ => [w_Mo G a0 r])) 0 0 [w_Mo G a0 s0] [some (.ref (a0 0)), none, none, none, none] 0 [])  (hf : f_X12_go_H0 s0 k0 = some r) : zj_J l G M_X12_go W0 (zj_ret G M_X12_go W0 (none) (fun _ => [w_Mo G a0 r])) 0 0 [w_Mo G a0 s0] [some (.ref (a0 0)), none, none, none, none] 0 [] := by
  unfold f_X12_go_H0 at hf
  refine zr_run [(.aload_n 0, 0, 0, 0, .null), (.getfield 104, 0, 0, 5, .null), (.aload_n 0, 0, 0, 0, .null), (.getfield 101, 0, 0, 3, .null)] [] (WW' := [w_Mo G a0 s0]) (lv' := [some (.ref (a0 0)), none, none, none, none]) (pc' := 8) (st' := [.int (Mo_size s0), .int (Mo_to s0)]) (by decide +kernel) rfl rfl ⟨trivial, ⟨rfl, rfl, zw_6_34⟩, trivial, ⟨rfl, rfl, zw_6_32⟩, trivial⟩ ?_
  refine zr_icmp_ge (off := 44) (tgt := 52) (by decide +kernel) (by decide) (fun hc => ?_) (fun hc => ?_)
  · have hf := zift hf hc
    obtain ⟨h1, hf⟩ := zck_of hf
    refine zr_run [(.aload_n 0, 0, 0, 0, .null), (.getfield 7, 0, 0, 1, .null), (.aload_n 0, 0, 0, 0, .null), (.getfield 104, 0, 0, 5, .null), (.iaload, 0, 1, 0, .null), (.bipush 32, 0, 0, 0, .int (32 : Int32))] [] (WW' := [w_Mo G a0 s0]) (lv' := [some (.ref (a0 0)), none, none, none, none]) (pc' := 22) (st' := [.int (32 : Int32), .int ((Mo_tape s0) (Mo_to s0).toNatClampNeg)]) (by decide +kernel) rfl rfl ⟨trivial, ⟨rfl, rfl, zw_6_30⟩, trivial, ⟨rfl, rfl, zw_6_34⟩, ⟨rfl, rfl, h1⟩, trivial, trivial⟩ ?_
    refine zr_icmp_eq (off := 17) (tgt := 39) (by decide +kernel) (by decide) (fun hc => ?_) (fun hc => ?_)
    · have hf := zift hf hc
      exact t_X12_go_b39 l G a0 W0 r s0 k0 hk0 hf
    · have hf := ziff hf hc
      obtain ⟨h3, hf⟩ := zck_of hf
      refine zr_run [(.aload_n 0, 0, 0, 0, .null), (.getfield 7, 0, 0, 1, .null), (.aload_n 0, 0, 0, 0, .null), (.getfield 104, 0, 0, 5, .null), (.iaload, 0, 1, 0, .null), (.bipush 10, 0, 0, 0, .int (10 : Int32))] [] (WW' := [w_Mo G a0 s0]) (lv' := [some (.ref (a0 0)), none, none, none, none]) (pc' := 36) (st' := [.int (10 : Int32), .int ((Mo_tape s0) (Mo_to s0).toNatClampNeg)]) (by decide +kernel) rfl rfl ⟨trivial, ⟨rfl, rfl, zw_6_30⟩, trivial, ⟨rfl, rfl, zw_6_34⟩, ⟨rfl, rfl, h3⟩, trivial, trivial⟩ ?_
      refine zr_icmp_ne (off := 16) (tgt := 52) (by decide +kernel) (by decide) (fun hc => ?_) (fun hc => ?_)
      · have hf := zift hf hc
        exact t_X12_go_b39 l G a0 W0 r s0 k0 hk0 hf
      · have hf := ziff hf hc
        exact t_X12_go_b52 l G a0 W0 r s0 hf
  · have hf := ziff hf hc
    exact t_X12_go_b52 l G a0 W0 r s0 hf
theorem t_X12_go_L0 (l : Launch) (G : zj_G) (a0 : Nat → Nat) (W0 : List va_W) (r : MoT)    : ∀ (n : Nat) (s0 : MoT), f_X12_go_L0 n s0 = some r → zj_J l G M_X12_go W0 (zj_ret G M_X12_go W0 (none) (fun _ => [w_Mo G a0 r])) 0 0 [w_Mo G a0 s0] [some (.ref (a0 0)), none, none, none, none] 0 [] := by
  intro n
  induction n with
  | zero => intro s0 hf; exact nomatch (show none = some r from hf)
  | succ n ih => intro s0 hf; exact t_X12_go_H0 l G a0 W0 r s0  (f_X12_go_L0 n)  ih   hf
set_option maxRecDepth 100000 in
set_option maxHeartbeats 4000000 in
theorem c_X12_go (l : Launch) (G : zj_G) (a0 : Nat → Nat) (s0 : MoT)  (r : MoT) (hf : f_X12_go s0 = some r) : zj_C l G M_X12_go yX12_go [w_Mo G a0 s0] [.ref (a0 0)] (none) (fun _ => [w_Mo G a0 r]) := by
  have key : ∀ W0 : List va_W, zj_J l G M_X12_go W0 (zj_ret G M_X12_go W0 (none) (fun _ => [w_Mo G a0 r])) 0 0 [w_Mo G a0 s0] [some (.ref (a0 0)), none, none, none, none] 0 [] := by
    intro W0
    unfold f_X12_go at hf
    exact t_X12_go_L0 l G a0 W0 r zFU s0 hf
  exact zj_entry [some (.ref (a0 0)), none, none, none, none] (by decide +kernel) rfl (by decide) (Nat.le_of_ble_eq_true rfl) rfl rfl (key _)
def M_X12_spelt : zj_M := (RX12, cX12_spelt, 8, (some .long), { frames := 0, cells := 0, slots := 0, locals := 0 }, false)
theorem nm_X12_spelt : zj_nm yX12_spelt 6 := ⟨by decide +kernel, by decide +kernel, by decide +kernel⟩
def f_X12_spelt_b78    (x5 : Int32) (x6 : Int64) : Option (Int64) := (if 0 < x5 then some ((((27 : Int64) * x6) + x5.toInt64) - (96 : Int64)) else some x6)
def f_X12_spelt_b57    (x4 : Int32) (x5 : Int32) (x6 : Int64) : Option (Int64) := (if 0 < x4 then f_X12_spelt_b78 x5 ((((27 : Int64) * x6) + x4.toInt64) - (96 : Int64)) else f_X12_spelt_b78 x5 x6)
def f_X12_spelt_b38    (x3 : Int32) (x4 : Int32) (x5 : Int32) (x6 : Int64) : Option (Int64) := (if 0 < x3 then f_X12_spelt_b57 x4 x5 ((((27 : Int64) * x6) + x3.toInt64) - (96 : Int64)) else f_X12_spelt_b57 x4 x5 x6)
def f_X12_spelt   (x0 : Int32) (x1 : Int32) (x2 : Int32) (x3 : Int32) (x4 : Int32) (x5 : Int32) : Option (Int64) := (zlet ((((27 : Int64) * (x0.toInt64 - (96 : Int64))) + x1.toInt64) - (96 : Int64)) fun y1 => (if 0 < x2 then f_X12_spelt_b38 x3 x4 x5 ((((27 : Int64) * y1) + x2.toInt64) - (96 : Int64)) else f_X12_spelt_b38 x3 x4 x5 y1))
set_option maxRecDepth 100000 in
set_option maxHeartbeats 4000000 in
theorem t_X12_spelt_b78 (l : Launch) (G : zj_G)  (W0 : List va_W) (r : Int64)    (x5 : Int32) (x6 : Int64) (hf : f_X12_spelt_b78 x5 x6 = some r) : zj_J l G M_X12_spelt W0 (zj_ret G M_X12_spelt W0 (some (.long r)) (fun _ => [])) 0 0 [] [none, none, none, none, none, some (.int x5), some (.long x6), none] 78 [] := by
  unfold f_X12_spelt_b78 at hf
  refine zr_run [(.iload 5, 0, 0, 0, .null)] [] (WW' := []) (lv' := [none, none, none, none, none, some (.int x5), some (.long x6), none]) (pc' := 80) (st' := [.int x5]) (by decide +kernel) rfl rfl ⟨trivial, trivial⟩ ?_
  refine zr_if_le (off := 19) (tgt := 99) (by decide +kernel) (by decide) (fun hc => ?_) (fun hc => ?_)
  · have hf := zift hf hc
    refine zr_run [(.ldc2_w 137, 0, 0, 0, .long (27 : Int64)), (.lload 6, 0, 0, 0, .null), (.lmul, 0, 0, 0, .null), (.iload 5, 0, 0, 0, .null), (.i2l, 0, 0, 0, .null), (.ladd, 0, 0, 0, .null), (.ldc2_w 139, 0, 0, 0, .long (96 : Int64)), (.lsub, 0, 0, 0, .null), (.lstore 6, 0, 0, 0, .null), (.lload 6, 0, 0, 0, .null)] [] (WW' := []) (lv' := [none, none, none, none, none, some (.int x5), some (.long ((((27 : Int64) * x6) + x5.toInt64) - (96 : Int64))), none]) (pc' := 101) (st' := [.long ((((27 : Int64) * x6) + x5.toInt64) - (96 : Int64))]) (by decide +kernel) rfl rfl ⟨zw_6_235, trivial, trivial, trivial, trivial, trivial, zw_6_236, trivial, trivial, trivial, trivial⟩ ?_
    obtain rfl := Option.some.inj hf
    exact zr_lret (b0 := fun _ => 0) (by decide +kernel) rfl rfl rfl rfl rfl
  · have hf := ziff hf hc
    refine zr_run [(.lload 6, 0, 0, 0, .null)] [] (WW' := []) (lv' := [none, none, none, none, none, some (.int x5), some (.long x6), none]) (pc' := 101) (st' := [.long x6]) (by decide +kernel) rfl rfl ⟨trivial, trivial⟩ ?_
    obtain rfl := Option.some.inj hf
    exact zr_lret (b0 := fun _ => 0) (by decide +kernel) rfl rfl rfl rfl rfl
set_option maxRecDepth 100000 in
set_option maxHeartbeats 4000000 in
theorem t_X12_spelt_b57 (l : Launch) (G : zj_G)  (W0 : List va_W) (r : Int64)    (x4 : Int32) (x5 : Int32) (x6 : Int64) (hf : f_X12_spelt_b57 x4 x5 x6 = some r) : zj_J l G M_X12_spelt W0 (zj_ret G M_X12_spelt W0 (some (.long r)) (fun _ => [])) 0 0 [] [none, none, none, none, some (.int x4), some (.int x5), some (.long x6), none] 57 [] := by
  unfold f_X12_spelt_b57 at hf
  refine zr_run [(.iload 4, 0, 0, 0, .null)] [] (WW' := []) (lv' := [none, none, none, none, some (.int x4), some (.int x5), some (.long x6), none]) (pc' := 59) (st' := [.int x4]) (by decide +kernel) rfl rfl ⟨trivial, trivial⟩ ?_
  refine zr_if_le (off := 19) (tgt := 78) (by decide +kernel) (by decide) (fun hc => ?_) (fun hc => ?_)
  · have hf := zift hf hc
    refine zr_run [(.ldc2_w 137, 0, 0, 0, .long (27 : Int64)), (.lload 6, 0, 0, 0, .null), (.lmul, 0, 0, 0, .null), (.iload 4, 0, 0, 0, .null), (.i2l, 0, 0, 0, .null), (.ladd, 0, 0, 0, .null), (.ldc2_w 139, 0, 0, 0, .long (96 : Int64)), (.lsub, 0, 0, 0, .null), (.lstore 6, 0, 0, 0, .null)] [4] (WW' := []) (lv' := [none, none, none, none, none, some (.int x5), some (.long ((((27 : Int64) * x6) + x4.toInt64) - (96 : Int64))), none]) (pc' := 78) (st' := []) (by decide +kernel) rfl rfl ⟨zw_6_235, trivial, trivial, trivial, trivial, trivial, zw_6_236, trivial, trivial, trivial⟩ ?_
    exact t_X12_spelt_b78 l G W0 r x5 ((((27 : Int64) * x6) + x4.toInt64) - (96 : Int64)) hf
  · have hf := ziff hf hc
    refine zr_run [] [4] (WW' := []) (lv' := [none, none, none, none, none, some (.int x5), some (.long x6), none]) (pc' := 78) (st' := []) (by decide +kernel) rfl rfl trivial ?_
    exact t_X12_spelt_b78 l G W0 r x5 x6 hf
set_option maxRecDepth 100000 in
set_option maxHeartbeats 4000000 in
theorem t_X12_spelt_b38 (l : Launch) (G : zj_G)  (W0 : List va_W) (r : Int64)    (x3 : Int32) (x4 : Int32) (x5 : Int32) (x6 : Int64) (hf : f_X12_spelt_b38 x3 x4 x5 x6 = some r) : zj_J l G M_X12_spelt W0 (zj_ret G M_X12_spelt W0 (some (.long r)) (fun _ => [])) 0 0 [] [none, none, none, some (.int x3), some (.int x4), some (.int x5), some (.long x6), none] 38 [] := by
  unfold f_X12_spelt_b38 at hf
  refine zr_run [(.iload_n 3, 0, 0, 0, .null)] [] (WW' := []) (lv' := [none, none, none, some (.int x3), some (.int x4), some (.int x5), some (.long x6), none]) (pc' := 39) (st' := [.int x3]) (by decide +kernel) rfl rfl ⟨trivial, trivial⟩ ?_
  refine zr_if_le (off := 18) (tgt := 57) (by decide +kernel) (by decide) (fun hc => ?_) (fun hc => ?_)
  · have hf := zift hf hc
    refine zr_run [(.ldc2_w 137, 0, 0, 0, .long (27 : Int64)), (.lload 6, 0, 0, 0, .null), (.lmul, 0, 0, 0, .null), (.iload_n 3, 0, 0, 0, .null), (.i2l, 0, 0, 0, .null), (.ladd, 0, 0, 0, .null), (.ldc2_w 139, 0, 0, 0, .long (96 : Int64)), (.lsub, 0, 0, 0, .null), (.lstore 6, 0, 0, 0, .null)] [3] (WW' := []) (lv' := [none, none, none, none, some (.int x4), some (.int x5), some (.long ((((27 : Int64) * x6) + x3.toInt64) - (96 : Int64))), none]) (pc' := 57) (st' := []) (by decide +kernel) rfl rfl ⟨zw_6_235, trivial, trivial, trivial, trivial, trivial, zw_6_236, trivial, trivial, trivial⟩ ?_
    exact t_X12_spelt_b57 l G W0 r x4 x5 ((((27 : Int64) * x6) + x3.toInt64) - (96 : Int64)) hf
  · have hf := ziff hf hc
    refine zr_run [] [3] (WW' := []) (lv' := [none, none, none, none, some (.int x4), some (.int x5), some (.long x6), none]) (pc' := 57) (st' := []) (by decide +kernel) rfl rfl trivial ?_
    exact t_X12_spelt_b57 l G W0 r x4 x5 x6 hf
set_option maxRecDepth 100000 in
set_option maxHeartbeats 4000000 in
theorem c_X12_spelt (l : Launch) (G : zj_G)   (x0 : Int32) (x1 : Int32) (x2 : Int32) (x3 : Int32) (x4 : Int32) (x5 : Int32) (r : Int64) (hf : f_X12_spelt x0 x1 x2 x3 x4 x5 = some r) : zj_C l G M_X12_spelt yX12_spelt [] [.int x0, .int x1, .int x2, .int x3, .int x4, .int x5] (some (.long r)) (fun _ => []) := by
  have key : ∀ W0 : List va_W, zj_J l G M_X12_spelt W0 (zj_ret G M_X12_spelt W0 (some (.long r)) (fun _ => [])) 0 0 [] [some (.int x0), some (.int x1), some (.int x2), some (.int x3), some (.int x4), some (.int x5), none, none] 0 [] := by
    intro W0
    unfold f_X12_spelt at hf
    obtain ⟨y1, e1, hf⟩ := zlet_of hf
    refine zr_run [(.ldc2_w 137, 0, 0, 0, .long (27 : Int64)), (.iload_n 0, 0, 0, 0, .null), (.i2l, 0, 0, 0, .null), (.ldc2_w 139, 0, 0, 0, .long (96 : Int64)), (.lsub, 0, 0, 0, .null), (.lmul, 0, 0, 0, .null), (.iload_n 1, 0, 0, 0, .null), (.i2l, 0, 0, 0, .null), (.ladd, 0, 0, 0, .null), (.ldc2_w 139, 0, 0, 0, .long (96 : Int64)), (.lsub, 0, 0, 0, .null), (.lstore 6, 0, 0, 0, .null)] [] (WW' := []) (lv' := [some (.int x0), some (.int x1), some (.int x2), some (.int x3), some (.int x4), some (.int x5), some (.long ((((27 : Int64) * (x0.toInt64 - (96 : Int64))) + x1.toInt64) - (96 : Int64))), none]) (pc' := 19) (st' := []) (by decide +kernel) rfl rfl ⟨zw_6_235, trivial, trivial, zw_6_236, trivial, trivial, trivial, trivial, trivial, zw_6_236, trivial, trivial, trivial⟩ ?_
    refine zr_eq (WW2 := []) (lv2 := [some (.int x0), some (.int x1), some (.int x2), some (.int x3), some (.int x4), some (.int x5), some (.long y1), none]) (st2 := []) rfl (by rw [e1]) rfl ?_
    refine zr_run [(.iload_n 2, 0, 0, 0, .null)] [] (WW' := []) (lv' := [some (.int x0), some (.int x1), some (.int x2), some (.int x3), some (.int x4), some (.int x5), some (.long y1), none]) (pc' := 20) (st' := [.int x2]) (by decide +kernel) rfl rfl ⟨trivial, trivial⟩ ?_
    refine zr_if_le (off := 18) (tgt := 38) (by decide +kernel) (by decide) (fun hc => ?_) (fun hc => ?_)
    · have hf := zift hf hc
      refine zr_run [(.ldc2_w 137, 0, 0, 0, .long (27 : Int64)), (.lload 6, 0, 0, 0, .null), (.lmul, 0, 0, 0, .null), (.iload_n 2, 0, 0, 0, .null), (.i2l, 0, 0, 0, .null), (.ladd, 0, 0, 0, .null), (.ldc2_w 139, 0, 0, 0, .long (96 : Int64)), (.lsub, 0, 0, 0, .null), (.lstore 6, 0, 0, 0, .null)] [0, 1, 2] (WW' := []) (lv' := [none, none, none, some (.int x3), some (.int x4), some (.int x5), some (.long ((((27 : Int64) * y1) + x2.toInt64) - (96 : Int64))), none]) (pc' := 38) (st' := []) (by decide +kernel) rfl rfl ⟨zw_6_235, trivial, trivial, trivial, trivial, trivial, zw_6_236, trivial, trivial, trivial⟩ ?_
      exact t_X12_spelt_b38 l G W0 r x3 x4 x5 ((((27 : Int64) * y1) + x2.toInt64) - (96 : Int64)) hf
    · have hf := ziff hf hc
      refine zr_run [] [0, 1, 2] (WW' := []) (lv' := [none, none, none, some (.int x3), some (.int x4), some (.int x5), some (.long y1), none]) (pc' := 38) (st' := []) (by decide +kernel) rfl rfl trivial ?_
      exact t_X12_spelt_b38 l G W0 r x3 x4 x5 y1 hf
  exact zj_entry [some (.int x0), some (.int x1), some (.int x2), some (.int x3), some (.int x4), some (.int x5), none, none] (by decide +kernel) rfl (by decide) (Nat.le_of_ble_eq_true rfl) rfl rfl (key _)
def M_X12_wordOf : zj_M := (RX12, cX12_wordOf, 1, (some .long), { frames := 1, cells := 0, slots := 0, locals := 27 }, false)
theorem nm_X12_wordOf : zj_nm yX12_wordOf 1 := ⟨by decide +kernel, by decide +kernel, by decide +kernel⟩
def f_X12_wordOf   (x0 : Int32) : Option (Int64) := (if x0 = (0 : Int32) then ((f_X12_spelt (99 : Int32) (104 : Int32) (117 : Int32) (114 : Int32) (99 : Int32) (104 : Int32)).bind fun q1 => some q1) else (if x0 = (1 : Int32) then ((f_X12_spelt (105 : Int32) (110 : Int32) (110 : Int32) (0 : Int32) (0 : Int32) (0 : Int32)).bind fun q2 => some q2) else (if x0 = (2 : Int32) then ((f_X12_spelt (112 : Int32) (111 : Int32) (114 : Int32) (116 : Int32) (0 : Int32) (0 : Int32)).bind fun q3 => some q3) else (if x0 = (3 : Int32) then ((f_X12_spelt (114 : Int32) (111 : Int32) (97 : Int32) (100 : Int32) (0 : Int32) (0 : Int32)).bind fun q4 => some q4) else (if x0 = (4 : Int32) then ((f_X12_spelt (102 : Int32) (111 : Int32) (114 : Int32) (100 : Int32) (0 : Int32) (0 : Int32)).bind fun q5 => some q5) else (if x0 = (5 : Int32) then ((f_X12_spelt (109 : Int32) (97 : Int32) (110 : Int32) (0 : Int32) (0 : Int32) (0 : Int32)).bind fun q6 => some q6) else (if x0 = (6 : Int32) then ((f_X12_spelt (115 : Int32) (119 : Int32) (101 : Int32) (97 : Int32) (114 : Int32) (115 : Int32)).bind fun q7 => some q7) else (if x0 = (7 : Int32) then ((f_X12_spelt (111 : Int32) (114 : Int32) (100 : Int32) (101 : Int32) (114 : Int32) (115 : Int32)).bind fun q8 => some q8) else (if x0 = (8 : Int32) then ((f_X12_spelt (115 : Int32) (108 : Int32) (105 : Int32) (112 : Int32) (115 : Int32) (0 : Int32)).bind fun q9 => some q9) else (if x0 = (9 : Int32) then ((f_X12_spelt (101 : Int32) (110 : Int32) (116 : Int32) (101 : Int32) (114 : Int32) (115 : Int32)).bind fun q10 => some q10) else (if x0 = (10 : Int32) then ((f_X12_spelt (103 : Int32) (101 : Int32) (116 : Int32) (115 : Int32) (0 : Int32) (0 : Int32)).bind fun q11 => some q11) else (if x0 = (11 : Int32) then ((f_X12_spelt (100 : Int32) (97 : Int32) (121 : Int32) (0 : Int32) (0 : Int32) (0 : Int32)).bind fun q12 => some q12) else (if x0 = (12 : Int32) then ((f_X12_spelt (111 : Int32) (114 : Int32) (0 : Int32) (0 : Int32) (0 : Int32) (0 : Int32)).bind fun q13 => some q13) else (if x0 = (13 : Int32) then ((f_X12_spelt (97 : Int32) (110 : Int32) (100 : Int32) (0 : Int32) (0 : Int32) (0 : Int32)).bind fun q14 => some q14) else (if x0 = (14 : Int32) then ((f_X12_spelt (110 : Int32) (111 : Int32) (116 : Int32) (0 : Int32) (0 : Int32) (0 : Int32)).bind fun q15 => some q15) else (if x0 = (15 : Int32) then ((f_X12_spelt (115 : Int32) (97 : Int32) (102 : Int32) (101 : Int32) (0 : Int32) (0 : Int32)).bind fun q16 => some q16) else (if x0 = (16 : Int32) then ((f_X12_spelt (119 : Int32) (97 : Int32) (108 : Int32) (107 : Int32) (115 : Int32) (0 : Int32)).bind fun q17 => some q17) else (if x0 = (17 : Int32) then ((f_X12_spelt (119 : Int32) (97 : Int32) (105 : Int32) (116 : Int32) (115 : Int32) (0 : Int32)).bind fun q18 => some q18) else (if x0 = (18 : Int32) then ((f_X12_spelt (115 : Int32) (97 : Int32) (105 : Int32) (108 : Int32) (101 : Int32) (100 : Int32)).bind fun q19 => some q19) else (if x0 = (19 : Int32) then ((f_X12_spelt (111 : Int32) (117 : Int32) (116 : Int32) (108 : Int32) (97 : Int32) (119 : Int32)).bind fun q20 => some q20) else (if x0 = (20 : Int32) then ((f_X12_spelt (115 : Int32) (108 : Int32) (97 : Int32) (105 : Int32) (110 : Int32) (0 : Int32)).bind fun q21 => some q21) else (if x0 = (21 : Int32) then ((f_X12_spelt (107 : Int32) (105 : Int32) (110 : Int32) (0 : Int32) (0 : Int32) (0 : Int32)).bind fun q22 => some q22) else (if x0 = (22 : Int32) then ((f_X12_spelt (116 : Int32) (111 : Int32) (0 : Int32) (0 : Int32) (0 : Int32) (0 : Int32)).bind fun q23 => some q23) else (if x0 = (23 : Int32) then ((f_X12_spelt (97 : Int32) (116 : Int32) (0 : Int32) (0 : Int32) (0 : Int32) (0 : Int32)).bind fun q24 => some q24) else (if x0 = (24 : Int32) then ((f_X12_spelt (99 : Int32) (111 : Int32) (105 : Int32) (110 : Int32) (0 : Int32) (0 : Int32)).bind fun q25 => some q25) else (if x0 = (25 : Int32) then ((f_X12_spelt (100 : Int32) (97 : Int32) (121 : Int32) (115 : Int32) (0 : Int32) (0 : Int32)).bind fun q26 => some q26) else (if x0 = (26 : Int32) then ((f_X12_spelt (109 : Int32) (105 : Int32) (108 : Int32) (101 : Int32) (115 : Int32) (0 : Int32)).bind fun q27 => some q27) else ((f_X12_spelt (110 : Int32) (117 : Int32) (109 : Int32) (98 : Int32) (101 : Int32) (114 : Int32)).bind fun q28 => some q28))))))))))))))))))))))))))))
set_option maxRecDepth 100000 in
set_option maxHeartbeats 4000000 in
theorem c_X12_wordOf (l : Launch) (G : zj_G)   (x0 : Int32) (r : Int64) (hf : f_X12_wordOf x0 = some r) : zj_C l G M_X12_wordOf yX12_wordOf [] [.int x0] (some (.long r)) (fun _ => []) := by
  have key : ∀ W0 : List va_W, zj_J l G M_X12_wordOf W0 (zj_ret G M_X12_wordOf W0 (some (.long r)) (fun _ => [])) 0 0 [] [some (.int x0)] 0 [] := by
    intro W0
    unfold f_X12_wordOf at hf
    refine zr_run [(.iload_n 0, 0, 0, 0, .null)] [] (WW' := []) (lv' := [some (.int x0)]) (pc' := 1) (st' := [.int x0]) (by decide +kernel) rfl rfl ⟨trivial, trivial⟩ ?_
    by_cases hc0 : x0 = (0 : Int32)
    · have hf := zift hf hc0
      refine zr_tabIn (v := (0 : Int32)) (tgt := 124) (dflt := 506) (lo := 0) (hi := 26) (offs := #[123, 139, 152, 166, 180, 194, 207, 223, 239, 254, 270, 284, 297, 309, 322, 335, 349, 364, 379, 395, 411, 426, 439, 451, 463, 477, 491]) (len := 123) (off := 123) hc0 (by decide +kernel) (by decide) (by decide) (by decide) ?_
      obtain ⟨q1, e1, hf⟩ := zbi_of hf
      refine zr_run [(.bipush 99, 0, 0, 0, .int (99 : Int32)), (.bipush 104, 0, 0, 0, .int (104 : Int32)), (.bipush 117, 0, 0, 0, .int (117 : Int32)), (.bipush 114, 0, 0, 0, .int (114 : Int32)), (.bipush 99, 0, 0, 0, .int (99 : Int32)), (.bipush 104, 0, 0, 0, .int (104 : Int32))] [] (WW' := []) (lv' := [some (.int x0)]) (pc' := 136) (st' := [.int (104 : Int32), .int (99 : Int32), .int (114 : Int32), .int (117 : Int32), .int (104 : Int32), .int (99 : Int32)]) (by decide +kernel) rfl rfl ⟨trivial, trivial, trivial, trivial, trivial, trivial, trivial⟩ ?_
      refine zr_callS (c_X12_spelt l G (99 : Int32) (104 : Int32) (117 : Int32) (114 : Int32) (99 : Int32) (104 : Int32) q1 e1) (WW' := fun _ => []) (st := []) (st' := [.long q1]) [] rfl rfl (fun _ => Nat.le_of_ble_eq_true rfl) (fun _ => rfl) rfl rfl nm_X12_spelt zw_7_8 zw_7_9 zw_1_18 zw_7_10 rfl (Nat.le_of_ble_eq_true rfl) ⟨Nat.le_of_ble_eq_true rfl, Nat.le_of_ble_eq_true rfl⟩ (by decide +kernel) (fun _ => ?_)
      obtain rfl := Option.some.inj hf
      exact zr_lret (b0 := fun _ => 0) (by decide +kernel) rfl rfl rfl rfl rfl
    · have hf := ziff hf hc0
      by_cases hc1 : x0 = (1 : Int32)
      · have hf := zift hf hc1
        refine zr_tabIn (v := (1 : Int32)) (tgt := 140) (dflt := 506) (lo := 0) (hi := 26) (offs := #[123, 139, 152, 166, 180, 194, 207, 223, 239, 254, 270, 284, 297, 309, 322, 335, 349, 364, 379, 395, 411, 426, 439, 451, 463, 477, 491]) (len := 123) (off := 139) hc1 (by decide +kernel) (by decide) (by decide) (by decide) ?_
        obtain ⟨q2, e2, hf⟩ := zbi_of hf
        refine zr_run [(.bipush 105, 0, 0, 0, .int (105 : Int32)), (.bipush 110, 0, 0, 0, .int (110 : Int32)), (.bipush 110, 0, 0, 0, .int (110 : Int32)), (.iconst 0, 0, 0, 0, .int (0 : Int32)), (.iconst 0, 0, 0, 0, .int (0 : Int32)), (.iconst 0, 0, 0, 0, .int (0 : Int32))] [] (WW' := []) (lv' := [some (.int x0)]) (pc' := 149) (st' := [.int (0 : Int32), .int (0 : Int32), .int (0 : Int32), .int (110 : Int32), .int (110 : Int32), .int (105 : Int32)]) (by decide +kernel) rfl rfl ⟨trivial, trivial, trivial, trivial, trivial, trivial, trivial⟩ ?_
        refine zr_callS (c_X12_spelt l G (105 : Int32) (110 : Int32) (110 : Int32) (0 : Int32) (0 : Int32) (0 : Int32) q2 e2) (WW' := fun _ => []) (st := []) (st' := [.long q2]) [] rfl rfl (fun _ => Nat.le_of_ble_eq_true rfl) (fun _ => rfl) rfl rfl nm_X12_spelt zw_7_8 zw_7_9 zw_1_18 zw_7_10 rfl (Nat.le_of_ble_eq_true rfl) ⟨Nat.le_of_ble_eq_true rfl, Nat.le_of_ble_eq_true rfl⟩ (by decide +kernel) (fun _ => ?_)
        obtain rfl := Option.some.inj hf
        exact zr_lret (b0 := fun _ => 0) (by decide +kernel) rfl rfl rfl rfl rfl
      · have hf := ziff hf hc1
        by_cases hc2 : x0 = (2 : Int32)
        · have hf := zift hf hc2
          refine zr_tabIn (v := (2 : Int32)) (tgt := 153) (dflt := 506) (lo := 0) (hi := 26) (offs := #[123, 139, 152, 166, 180, 194, 207, 223, 239, 254, 270, 284, 297, 309, 322, 335, 349, 364, 379, 395, 411, 426, 439, 451, 463, 477, 491]) (len := 123) (off := 152) hc2 (by decide +kernel) (by decide) (by decide) (by decide) ?_
          obtain ⟨q3, e3, hf⟩ := zbi_of hf
          refine zr_run [(.bipush 112, 0, 0, 0, .int (112 : Int32)), (.bipush 111, 0, 0, 0, .int (111 : Int32)), (.bipush 114, 0, 0, 0, .int (114 : Int32)), (.bipush 116, 0, 0, 0, .int (116 : Int32)), (.iconst 0, 0, 0, 0, .int (0 : Int32)), (.iconst 0, 0, 0, 0, .int (0 : Int32))] [] (WW' := []) (lv' := [some (.int x0)]) (pc' := 163) (st' := [.int (0 : Int32), .int (0 : Int32), .int (116 : Int32), .int (114 : Int32), .int (111 : Int32), .int (112 : Int32)]) (by decide +kernel) rfl rfl ⟨trivial, trivial, trivial, trivial, trivial, trivial, trivial⟩ ?_
          refine zr_callS (c_X12_spelt l G (112 : Int32) (111 : Int32) (114 : Int32) (116 : Int32) (0 : Int32) (0 : Int32) q3 e3) (WW' := fun _ => []) (st := []) (st' := [.long q3]) [] rfl rfl (fun _ => Nat.le_of_ble_eq_true rfl) (fun _ => rfl) rfl rfl nm_X12_spelt zw_7_8 zw_7_9 zw_1_18 zw_7_10 rfl (Nat.le_of_ble_eq_true rfl) ⟨Nat.le_of_ble_eq_true rfl, Nat.le_of_ble_eq_true rfl⟩ (by decide +kernel) (fun _ => ?_)
          obtain rfl := Option.some.inj hf
          exact zr_lret (b0 := fun _ => 0) (by decide +kernel) rfl rfl rfl rfl rfl
        · have hf := ziff hf hc2
          by_cases hc3 : x0 = (3 : Int32)
          · have hf := zift hf hc3
            refine zr_tabIn (v := (3 : Int32)) (tgt := 167) (dflt := 506) (lo := 0) (hi := 26) (offs := #[123, 139, 152, 166, 180, 194, 207, 223, 239, 254, 270, 284, 297, 309, 322, 335, 349, 364, 379, 395, 411, 426, 439, 451, 463, 477, 491]) (len := 123) (off := 166) hc3 (by decide +kernel) (by decide) (by decide) (by decide) ?_
            obtain ⟨q4, e4, hf⟩ := zbi_of hf
            refine zr_run [(.bipush 114, 0, 0, 0, .int (114 : Int32)), (.bipush 111, 0, 0, 0, .int (111 : Int32)), (.bipush 97, 0, 0, 0, .int (97 : Int32)), (.bipush 100, 0, 0, 0, .int (100 : Int32)), (.iconst 0, 0, 0, 0, .int (0 : Int32)), (.iconst 0, 0, 0, 0, .int (0 : Int32))] [] (WW' := []) (lv' := [some (.int x0)]) (pc' := 177) (st' := [.int (0 : Int32), .int (0 : Int32), .int (100 : Int32), .int (97 : Int32), .int (111 : Int32), .int (114 : Int32)]) (by decide +kernel) rfl rfl ⟨trivial, trivial, trivial, trivial, trivial, trivial, trivial⟩ ?_
            refine zr_callS (c_X12_spelt l G (114 : Int32) (111 : Int32) (97 : Int32) (100 : Int32) (0 : Int32) (0 : Int32) q4 e4) (WW' := fun _ => []) (st := []) (st' := [.long q4]) [] rfl rfl (fun _ => Nat.le_of_ble_eq_true rfl) (fun _ => rfl) rfl rfl nm_X12_spelt zw_7_8 zw_7_9 zw_1_18 zw_7_10 rfl (Nat.le_of_ble_eq_true rfl) ⟨Nat.le_of_ble_eq_true rfl, Nat.le_of_ble_eq_true rfl⟩ (by decide +kernel) (fun _ => ?_)
            obtain rfl := Option.some.inj hf
            exact zr_lret (b0 := fun _ => 0) (by decide +kernel) rfl rfl rfl rfl rfl
          · have hf := ziff hf hc3
            by_cases hc4 : x0 = (4 : Int32)
            · have hf := zift hf hc4
              refine zr_tabIn (v := (4 : Int32)) (tgt := 181) (dflt := 506) (lo := 0) (hi := 26) (offs := #[123, 139, 152, 166, 180, 194, 207, 223, 239, 254, 270, 284, 297, 309, 322, 335, 349, 364, 379, 395, 411, 426, 439, 451, 463, 477, 491]) (len := 123) (off := 180) hc4 (by decide +kernel) (by decide) (by decide) (by decide) ?_
              obtain ⟨q5, e5, hf⟩ := zbi_of hf
              refine zr_run [(.bipush 102, 0, 0, 0, .int (102 : Int32)), (.bipush 111, 0, 0, 0, .int (111 : Int32)), (.bipush 114, 0, 0, 0, .int (114 : Int32)), (.bipush 100, 0, 0, 0, .int (100 : Int32)), (.iconst 0, 0, 0, 0, .int (0 : Int32)), (.iconst 0, 0, 0, 0, .int (0 : Int32))] [] (WW' := []) (lv' := [some (.int x0)]) (pc' := 191) (st' := [.int (0 : Int32), .int (0 : Int32), .int (100 : Int32), .int (114 : Int32), .int (111 : Int32), .int (102 : Int32)]) (by decide +kernel) rfl rfl ⟨trivial, trivial, trivial, trivial, trivial, trivial, trivial⟩ ?_
              refine zr_callS (c_X12_spelt l G (102 : Int32) (111 : Int32) (114 : Int32) (100 : Int32) (0 : Int32) (0 : Int32) q5 e5) (WW' := fun _ => []) (st := []) (st' := [.long q5]) [] rfl rfl (fun _ => Nat.le_of_ble_eq_true rfl) (fun _ => rfl) rfl rfl nm_X12_spelt zw_7_8 zw_7_9 zw_1_18 zw_7_10 rfl (Nat.le_of_ble_eq_true rfl) ⟨Nat.le_of_ble_eq_true rfl, Nat.le_of_ble_eq_true rfl⟩ (by decide +kernel) (fun _ => ?_)
              obtain rfl := Option.some.inj hf
              exact zr_lret (b0 := fun _ => 0) (by decide +kernel) rfl rfl rfl rfl rfl
            · have hf := ziff hf hc4
              by_cases hc5 : x0 = (5 : Int32)
              · have hf := zift hf hc5
                refine zr_tabIn (v := (5 : Int32)) (tgt := 195) (dflt := 506) (lo := 0) (hi := 26) (offs := #[123, 139, 152, 166, 180, 194, 207, 223, 239, 254, 270, 284, 297, 309, 322, 335, 349, 364, 379, 395, 411, 426, 439, 451, 463, 477, 491]) (len := 123) (off := 194) hc5 (by decide +kernel) (by decide) (by decide) (by decide) ?_
                obtain ⟨q6, e6, hf⟩ := zbi_of hf
                refine zr_run [(.bipush 109, 0, 0, 0, .int (109 : Int32)), (.bipush 97, 0, 0, 0, .int (97 : Int32)), (.bipush 110, 0, 0, 0, .int (110 : Int32)), (.iconst 0, 0, 0, 0, .int (0 : Int32)), (.iconst 0, 0, 0, 0, .int (0 : Int32)), (.iconst 0, 0, 0, 0, .int (0 : Int32))] [] (WW' := []) (lv' := [some (.int x0)]) (pc' := 204) (st' := [.int (0 : Int32), .int (0 : Int32), .int (0 : Int32), .int (110 : Int32), .int (97 : Int32), .int (109 : Int32)]) (by decide +kernel) rfl rfl ⟨trivial, trivial, trivial, trivial, trivial, trivial, trivial⟩ ?_
                refine zr_callS (c_X12_spelt l G (109 : Int32) (97 : Int32) (110 : Int32) (0 : Int32) (0 : Int32) (0 : Int32) q6 e6) (WW' := fun _ => []) (st := []) (st' := [.long q6]) [] rfl rfl (fun _ => Nat.le_of_ble_eq_true rfl) (fun _ => rfl) rfl rfl nm_X12_spelt zw_7_8 zw_7_9 zw_1_18 zw_7_10 rfl (Nat.le_of_ble_eq_true rfl) ⟨Nat.le_of_ble_eq_true rfl, Nat.le_of_ble_eq_true rfl⟩ (by decide +kernel) (fun _ => ?_)
                obtain rfl := Option.some.inj hf
                exact zr_lret (b0 := fun _ => 0) (by decide +kernel) rfl rfl rfl rfl rfl
              · have hf := ziff hf hc5
                by_cases hc6 : x0 = (6 : Int32)
                · have hf := zift hf hc6
                  refine zr_tabIn (v := (6 : Int32)) (tgt := 208) (dflt := 506) (lo := 0) (hi := 26) (offs := #[123, 139, 152, 166, 180, 194, 207, 223, 239, 254, 270, 284, 297, 309, 322, 335, 349, 364, 379, 395, 411, 426, 439, 451, 463, 477, 491]) (len := 123) (off := 207) hc6 (by decide +kernel) (by decide) (by decide) (by decide) ?_
                  obtain ⟨q7, e7, hf⟩ := zbi_of hf
                  refine zr_run [(.bipush 115, 0, 0, 0, .int (115 : Int32)), (.bipush 119, 0, 0, 0, .int (119 : Int32)), (.bipush 101, 0, 0, 0, .int (101 : Int32)), (.bipush 97, 0, 0, 0, .int (97 : Int32)), (.bipush 114, 0, 0, 0, .int (114 : Int32)), (.bipush 115, 0, 0, 0, .int (115 : Int32))] [] (WW' := []) (lv' := [some (.int x0)]) (pc' := 220) (st' := [.int (115 : Int32), .int (114 : Int32), .int (97 : Int32), .int (101 : Int32), .int (119 : Int32), .int (115 : Int32)]) (by decide +kernel) rfl rfl ⟨trivial, trivial, trivial, trivial, trivial, trivial, trivial⟩ ?_
                  refine zr_callS (c_X12_spelt l G (115 : Int32) (119 : Int32) (101 : Int32) (97 : Int32) (114 : Int32) (115 : Int32) q7 e7) (WW' := fun _ => []) (st := []) (st' := [.long q7]) [] rfl rfl (fun _ => Nat.le_of_ble_eq_true rfl) (fun _ => rfl) rfl rfl nm_X12_spelt zw_7_8 zw_7_9 zw_1_18 zw_7_10 rfl (Nat.le_of_ble_eq_true rfl) ⟨Nat.le_of_ble_eq_true rfl, Nat.le_of_ble_eq_true rfl⟩ (by decide +kernel) (fun _ => ?_)
                  obtain rfl := Option.some.inj hf
                  exact zr_lret (b0 := fun _ => 0) (by decide +kernel) rfl rfl rfl rfl rfl
                · have hf := ziff hf hc6
                  by_cases hc7 : x0 = (7 : Int32)
                  · have hf := zift hf hc7
                    refine zr_tabIn (v := (7 : Int32)) (tgt := 224) (dflt := 506) (lo := 0) (hi := 26) (offs := #[123, 139, 152, 166, 180, 194, 207, 223, 239, 254, 270, 284, 297, 309, 322, 335, 349, 364, 379, 395, 411, 426, 439, 451, 463, 477, 491]) (len := 123) (off := 223) hc7 (by decide +kernel) (by decide) (by decide) (by decide) ?_
                    obtain ⟨q8, e8, hf⟩ := zbi_of hf
                    refine zr_run [(.bipush 111, 0, 0, 0, .int (111 : Int32)), (.bipush 114, 0, 0, 0, .int (114 : Int32)), (.bipush 100, 0, 0, 0, .int (100 : Int32)), (.bipush 101, 0, 0, 0, .int (101 : Int32)), (.bipush 114, 0, 0, 0, .int (114 : Int32)), (.bipush 115, 0, 0, 0, .int (115 : Int32))] [] (WW' := []) (lv' := [some (.int x0)]) (pc' := 236) (st' := [.int (115 : Int32), .int (114 : Int32), .int (101 : Int32), .int (100 : Int32), .int (114 : Int32), .int (111 : Int32)]) (by decide +kernel) rfl rfl ⟨trivial, trivial, trivial, trivial, trivial, trivial, trivial⟩ ?_
                    refine zr_callS (c_X12_spelt l G (111 : Int32) (114 : Int32) (100 : Int32) (101 : Int32) (114 : Int32) (115 : Int32) q8 e8) (WW' := fun _ => []) (st := []) (st' := [.long q8]) [] rfl rfl (fun _ => Nat.le_of_ble_eq_true rfl) (fun _ => rfl) rfl rfl nm_X12_spelt zw_7_8 zw_7_9 zw_1_18 zw_7_10 rfl (Nat.le_of_ble_eq_true rfl) ⟨Nat.le_of_ble_eq_true rfl, Nat.le_of_ble_eq_true rfl⟩ (by decide +kernel) (fun _ => ?_)
                    obtain rfl := Option.some.inj hf
                    exact zr_lret (b0 := fun _ => 0) (by decide +kernel) rfl rfl rfl rfl rfl
                  · have hf := ziff hf hc7
                    by_cases hc8 : x0 = (8 : Int32)
                    · have hf := zift hf hc8
                      refine zr_tabIn (v := (8 : Int32)) (tgt := 240) (dflt := 506) (lo := 0) (hi := 26) (offs := #[123, 139, 152, 166, 180, 194, 207, 223, 239, 254, 270, 284, 297, 309, 322, 335, 349, 364, 379, 395, 411, 426, 439, 451, 463, 477, 491]) (len := 123) (off := 239) hc8 (by decide +kernel) (by decide) (by decide) (by decide) ?_
                      obtain ⟨q9, e9, hf⟩ := zbi_of hf
                      refine zr_run [(.bipush 115, 0, 0, 0, .int (115 : Int32)), (.bipush 108, 0, 0, 0, .int (108 : Int32)), (.bipush 105, 0, 0, 0, .int (105 : Int32)), (.bipush 112, 0, 0, 0, .int (112 : Int32)), (.bipush 115, 0, 0, 0, .int (115 : Int32)), (.iconst 0, 0, 0, 0, .int (0 : Int32))] [] (WW' := []) (lv' := [some (.int x0)]) (pc' := 251) (st' := [.int (0 : Int32), .int (115 : Int32), .int (112 : Int32), .int (105 : Int32), .int (108 : Int32), .int (115 : Int32)]) (by decide +kernel) rfl rfl ⟨trivial, trivial, trivial, trivial, trivial, trivial, trivial⟩ ?_
                      refine zr_callS (c_X12_spelt l G (115 : Int32) (108 : Int32) (105 : Int32) (112 : Int32) (115 : Int32) (0 : Int32) q9 e9) (WW' := fun _ => []) (st := []) (st' := [.long q9]) [] rfl rfl (fun _ => Nat.le_of_ble_eq_true rfl) (fun _ => rfl) rfl rfl nm_X12_spelt zw_7_8 zw_7_9 zw_1_18 zw_7_10 rfl (Nat.le_of_ble_eq_true rfl) ⟨Nat.le_of_ble_eq_true rfl, Nat.le_of_ble_eq_true rfl⟩ (by decide +kernel) (fun _ => ?_)
                      obtain rfl := Option.some.inj hf
                      exact zr_lret (b0 := fun _ => 0) (by decide +kernel) rfl rfl rfl rfl rfl
                    · have hf := ziff hf hc8
                      by_cases hc9 : x0 = (9 : Int32)
                      · have hf := zift hf hc9
                        refine zr_tabIn (v := (9 : Int32)) (tgt := 255) (dflt := 506) (lo := 0) (hi := 26) (offs := #[123, 139, 152, 166, 180, 194, 207, 223, 239, 254, 270, 284, 297, 309, 322, 335, 349, 364, 379, 395, 411, 426, 439, 451, 463, 477, 491]) (len := 123) (off := 254) hc9 (by decide +kernel) (by decide) (by decide) (by decide) ?_
                        obtain ⟨q10, e10, hf⟩ := zbi_of hf
                        refine zr_run [(.bipush 101, 0, 0, 0, .int (101 : Int32)), (.bipush 110, 0, 0, 0, .int (110 : Int32)), (.bipush 116, 0, 0, 0, .int (116 : Int32)), (.bipush 101, 0, 0, 0, .int (101 : Int32)), (.bipush 114, 0, 0, 0, .int (114 : Int32)), (.bipush 115, 0, 0, 0, .int (115 : Int32))] [] (WW' := []) (lv' := [some (.int x0)]) (pc' := 267) (st' := [.int (115 : Int32), .int (114 : Int32), .int (101 : Int32), .int (116 : Int32), .int (110 : Int32), .int (101 : Int32)]) (by decide +kernel) rfl rfl ⟨trivial, trivial, trivial, trivial, trivial, trivial, trivial⟩ ?_
                        refine zr_callS (c_X12_spelt l G (101 : Int32) (110 : Int32) (116 : Int32) (101 : Int32) (114 : Int32) (115 : Int32) q10 e10) (WW' := fun _ => []) (st := []) (st' := [.long q10]) [] rfl rfl (fun _ => Nat.le_of_ble_eq_true rfl) (fun _ => rfl) rfl rfl nm_X12_spelt zw_7_8 zw_7_9 zw_1_18 zw_7_10 rfl (Nat.le_of_ble_eq_true rfl) ⟨Nat.le_of_ble_eq_true rfl, Nat.le_of_ble_eq_true rfl⟩ (by decide +kernel) (fun _ => ?_)
                        obtain rfl := Option.some.inj hf
                        exact zr_lret (b0 := fun _ => 0) (by decide +kernel) rfl rfl rfl rfl rfl
                      · have hf := ziff hf hc9
                        by_cases hc10 : x0 = (10 : Int32)
                        · have hf := zift hf hc10
                          refine zr_tabIn (v := (10 : Int32)) (tgt := 271) (dflt := 506) (lo := 0) (hi := 26) (offs := #[123, 139, 152, 166, 180, 194, 207, 223, 239, 254, 270, 284, 297, 309, 322, 335, 349, 364, 379, 395, 411, 426, 439, 451, 463, 477, 491]) (len := 123) (off := 270) hc10 (by decide +kernel) (by decide) (by decide) (by decide) ?_
                          obtain ⟨q11, e11, hf⟩ := zbi_of hf
                          refine zr_run [(.bipush 103, 0, 0, 0, .int (103 : Int32)), (.bipush 101, 0, 0, 0, .int (101 : Int32)), (.bipush 116, 0, 0, 0, .int (116 : Int32)), (.bipush 115, 0, 0, 0, .int (115 : Int32)), (.iconst 0, 0, 0, 0, .int (0 : Int32)), (.iconst 0, 0, 0, 0, .int (0 : Int32))] [] (WW' := []) (lv' := [some (.int x0)]) (pc' := 281) (st' := [.int (0 : Int32), .int (0 : Int32), .int (115 : Int32), .int (116 : Int32), .int (101 : Int32), .int (103 : Int32)]) (by decide +kernel) rfl rfl ⟨trivial, trivial, trivial, trivial, trivial, trivial, trivial⟩ ?_
                          refine zr_callS (c_X12_spelt l G (103 : Int32) (101 : Int32) (116 : Int32) (115 : Int32) (0 : Int32) (0 : Int32) q11 e11) (WW' := fun _ => []) (st := []) (st' := [.long q11]) [] rfl rfl (fun _ => Nat.le_of_ble_eq_true rfl) (fun _ => rfl) rfl rfl nm_X12_spelt zw_7_8 zw_7_9 zw_1_18 zw_7_10 rfl (Nat.le_of_ble_eq_true rfl) ⟨Nat.le_of_ble_eq_true rfl, Nat.le_of_ble_eq_true rfl⟩ (by decide +kernel) (fun _ => ?_)
                          obtain rfl := Option.some.inj hf
                          exact zr_lret (b0 := fun _ => 0) (by decide +kernel) rfl rfl rfl rfl rfl
                        · have hf := ziff hf hc10
                          by_cases hc11 : x0 = (11 : Int32)
                          · have hf := zift hf hc11
                            refine zr_tabIn (v := (11 : Int32)) (tgt := 285) (dflt := 506) (lo := 0) (hi := 26) (offs := #[123, 139, 152, 166, 180, 194, 207, 223, 239, 254, 270, 284, 297, 309, 322, 335, 349, 364, 379, 395, 411, 426, 439, 451, 463, 477, 491]) (len := 123) (off := 284) hc11 (by decide +kernel) (by decide) (by decide) (by decide) ?_
                            obtain ⟨q12, e12, hf⟩ := zbi_of hf
                            refine zr_run [(.bipush 100, 0, 0, 0, .int (100 : Int32)), (.bipush 97, 0, 0, 0, .int (97 : Int32)), (.bipush 121, 0, 0, 0, .int (121 : Int32)), (.iconst 0, 0, 0, 0, .int (0 : Int32)), (.iconst 0, 0, 0, 0, .int (0 : Int32)), (.iconst 0, 0, 0, 0, .int (0 : Int32))] [] (WW' := []) (lv' := [some (.int x0)]) (pc' := 294) (st' := [.int (0 : Int32), .int (0 : Int32), .int (0 : Int32), .int (121 : Int32), .int (97 : Int32), .int (100 : Int32)]) (by decide +kernel) rfl rfl ⟨trivial, trivial, trivial, trivial, trivial, trivial, trivial⟩ ?_
                            refine zr_callS (c_X12_spelt l G (100 : Int32) (97 : Int32) (121 : Int32) (0 : Int32) (0 : Int32) (0 : Int32) q12 e12) (WW' := fun _ => []) (st := []) (st' := [.long q12]) [] rfl rfl (fun _ => Nat.le_of_ble_eq_true rfl) (fun _ => rfl) rfl rfl nm_X12_spelt zw_7_8 zw_7_9 zw_1_18 zw_7_10 rfl (Nat.le_of_ble_eq_true rfl) ⟨Nat.le_of_ble_eq_true rfl, Nat.le_of_ble_eq_true rfl⟩ (by decide +kernel) (fun _ => ?_)
                            obtain rfl := Option.some.inj hf
                            exact zr_lret (b0 := fun _ => 0) (by decide +kernel) rfl rfl rfl rfl rfl
                          · have hf := ziff hf hc11
                            by_cases hc12 : x0 = (12 : Int32)
                            · have hf := zift hf hc12
                              refine zr_tabIn (v := (12 : Int32)) (tgt := 298) (dflt := 506) (lo := 0) (hi := 26) (offs := #[123, 139, 152, 166, 180, 194, 207, 223, 239, 254, 270, 284, 297, 309, 322, 335, 349, 364, 379, 395, 411, 426, 439, 451, 463, 477, 491]) (len := 123) (off := 297) hc12 (by decide +kernel) (by decide) (by decide) (by decide) ?_
                              obtain ⟨q13, e13, hf⟩ := zbi_of hf
                              refine zr_run [(.bipush 111, 0, 0, 0, .int (111 : Int32)), (.bipush 114, 0, 0, 0, .int (114 : Int32)), (.iconst 0, 0, 0, 0, .int (0 : Int32)), (.iconst 0, 0, 0, 0, .int (0 : Int32)), (.iconst 0, 0, 0, 0, .int (0 : Int32)), (.iconst 0, 0, 0, 0, .int (0 : Int32))] [] (WW' := []) (lv' := [some (.int x0)]) (pc' := 306) (st' := [.int (0 : Int32), .int (0 : Int32), .int (0 : Int32), .int (0 : Int32), .int (114 : Int32), .int (111 : Int32)]) (by decide +kernel) rfl rfl ⟨trivial, trivial, trivial, trivial, trivial, trivial, trivial⟩ ?_
                              refine zr_callS (c_X12_spelt l G (111 : Int32) (114 : Int32) (0 : Int32) (0 : Int32) (0 : Int32) (0 : Int32) q13 e13) (WW' := fun _ => []) (st := []) (st' := [.long q13]) [] rfl rfl (fun _ => Nat.le_of_ble_eq_true rfl) (fun _ => rfl) rfl rfl nm_X12_spelt zw_7_8 zw_7_9 zw_1_18 zw_7_10 rfl (Nat.le_of_ble_eq_true rfl) ⟨Nat.le_of_ble_eq_true rfl, Nat.le_of_ble_eq_true rfl⟩ (by decide +kernel) (fun _ => ?_)
                              obtain rfl := Option.some.inj hf
                              exact zr_lret (b0 := fun _ => 0) (by decide +kernel) rfl rfl rfl rfl rfl
                            · have hf := ziff hf hc12
                              by_cases hc13 : x0 = (13 : Int32)
                              · have hf := zift hf hc13
                                refine zr_tabIn (v := (13 : Int32)) (tgt := 310) (dflt := 506) (lo := 0) (hi := 26) (offs := #[123, 139, 152, 166, 180, 194, 207, 223, 239, 254, 270, 284, 297, 309, 322, 335, 349, 364, 379, 395, 411, 426, 439, 451, 463, 477, 491]) (len := 123) (off := 309) hc13 (by decide +kernel) (by decide) (by decide) (by decide) ?_
                                obtain ⟨q14, e14, hf⟩ := zbi_of hf
                                refine zr_run [(.bipush 97, 0, 0, 0, .int (97 : Int32)), (.bipush 110, 0, 0, 0, .int (110 : Int32)), (.bipush 100, 0, 0, 0, .int (100 : Int32)), (.iconst 0, 0, 0, 0, .int (0 : Int32)), (.iconst 0, 0, 0, 0, .int (0 : Int32)), (.iconst 0, 0, 0, 0, .int (0 : Int32))] [] (WW' := []) (lv' := [some (.int x0)]) (pc' := 319) (st' := [.int (0 : Int32), .int (0 : Int32), .int (0 : Int32), .int (100 : Int32), .int (110 : Int32), .int (97 : Int32)]) (by decide +kernel) rfl rfl ⟨trivial, trivial, trivial, trivial, trivial, trivial, trivial⟩ ?_
                                refine zr_callS (c_X12_spelt l G (97 : Int32) (110 : Int32) (100 : Int32) (0 : Int32) (0 : Int32) (0 : Int32) q14 e14) (WW' := fun _ => []) (st := []) (st' := [.long q14]) [] rfl rfl (fun _ => Nat.le_of_ble_eq_true rfl) (fun _ => rfl) rfl rfl nm_X12_spelt zw_7_8 zw_7_9 zw_1_18 zw_7_10 rfl (Nat.le_of_ble_eq_true rfl) ⟨Nat.le_of_ble_eq_true rfl, Nat.le_of_ble_eq_true rfl⟩ (by decide +kernel) (fun _ => ?_)
                                obtain rfl := Option.some.inj hf
                                exact zr_lret (b0 := fun _ => 0) (by decide +kernel) rfl rfl rfl rfl rfl
                              · have hf := ziff hf hc13
                                by_cases hc14 : x0 = (14 : Int32)
                                · have hf := zift hf hc14
                                  refine zr_tabIn (v := (14 : Int32)) (tgt := 323) (dflt := 506) (lo := 0) (hi := 26) (offs := #[123, 139, 152, 166, 180, 194, 207, 223, 239, 254, 270, 284, 297, 309, 322, 335, 349, 364, 379, 395, 411, 426, 439, 451, 463, 477, 491]) (len := 123) (off := 322) hc14 (by decide +kernel) (by decide) (by decide) (by decide) ?_
                                  obtain ⟨q15, e15, hf⟩ := zbi_of hf
                                  refine zr_run [(.bipush 110, 0, 0, 0, .int (110 : Int32)), (.bipush 111, 0, 0, 0, .int (111 : Int32)), (.bipush 116, 0, 0, 0, .int (116 : Int32)), (.iconst 0, 0, 0, 0, .int (0 : Int32)), (.iconst 0, 0, 0, 0, .int (0 : Int32)), (.iconst 0, 0, 0, 0, .int (0 : Int32))] [] (WW' := []) (lv' := [some (.int x0)]) (pc' := 332) (st' := [.int (0 : Int32), .int (0 : Int32), .int (0 : Int32), .int (116 : Int32), .int (111 : Int32), .int (110 : Int32)]) (by decide +kernel) rfl rfl ⟨trivial, trivial, trivial, trivial, trivial, trivial, trivial⟩ ?_
                                  refine zr_callS (c_X12_spelt l G (110 : Int32) (111 : Int32) (116 : Int32) (0 : Int32) (0 : Int32) (0 : Int32) q15 e15) (WW' := fun _ => []) (st := []) (st' := [.long q15]) [] rfl rfl (fun _ => Nat.le_of_ble_eq_true rfl) (fun _ => rfl) rfl rfl nm_X12_spelt zw_7_8 zw_7_9 zw_1_18 zw_7_10 rfl (Nat.le_of_ble_eq_true rfl) ⟨Nat.le_of_ble_eq_true rfl, Nat.le_of_ble_eq_true rfl⟩ (by decide +kernel) (fun _ => ?_)
                                  obtain rfl := Option.some.inj hf
                                  exact zr_lret (b0 := fun _ => 0) (by decide +kernel) rfl rfl rfl rfl rfl
                                · have hf := ziff hf hc14
                                  by_cases hc15 : x0 = (15 : Int32)
                                  · have hf := zift hf hc15
                                    refine zr_tabIn (v := (15 : Int32)) (tgt := 336) (dflt := 506) (lo := 0) (hi := 26) (offs := #[123, 139, 152, 166, 180, 194, 207, 223, 239, 254, 270, 284, 297, 309, 322, 335, 349, 364, 379, 395, 411, 426, 439, 451, 463, 477, 491]) (len := 123) (off := 335) hc15 (by decide +kernel) (by decide) (by decide) (by decide) ?_
                                    obtain ⟨q16, e16, hf⟩ := zbi_of hf
                                    refine zr_run [(.bipush 115, 0, 0, 0, .int (115 : Int32)), (.bipush 97, 0, 0, 0, .int (97 : Int32)), (.bipush 102, 0, 0, 0, .int (102 : Int32)), (.bipush 101, 0, 0, 0, .int (101 : Int32)), (.iconst 0, 0, 0, 0, .int (0 : Int32)), (.iconst 0, 0, 0, 0, .int (0 : Int32))] [] (WW' := []) (lv' := [some (.int x0)]) (pc' := 346) (st' := [.int (0 : Int32), .int (0 : Int32), .int (101 : Int32), .int (102 : Int32), .int (97 : Int32), .int (115 : Int32)]) (by decide +kernel) rfl rfl ⟨trivial, trivial, trivial, trivial, trivial, trivial, trivial⟩ ?_
                                    refine zr_callS (c_X12_spelt l G (115 : Int32) (97 : Int32) (102 : Int32) (101 : Int32) (0 : Int32) (0 : Int32) q16 e16) (WW' := fun _ => []) (st := []) (st' := [.long q16]) [] rfl rfl (fun _ => Nat.le_of_ble_eq_true rfl) (fun _ => rfl) rfl rfl nm_X12_spelt zw_7_8 zw_7_9 zw_1_18 zw_7_10 rfl (Nat.le_of_ble_eq_true rfl) ⟨Nat.le_of_ble_eq_true rfl, Nat.le_of_ble_eq_true rfl⟩ (by decide +kernel) (fun _ => ?_)
                                    obtain rfl := Option.some.inj hf
                                    exact zr_lret (b0 := fun _ => 0) (by decide +kernel) rfl rfl rfl rfl rfl
                                  · have hf := ziff hf hc15
                                    by_cases hc16 : x0 = (16 : Int32)
                                    · have hf := zift hf hc16
                                      refine zr_tabIn (v := (16 : Int32)) (tgt := 350) (dflt := 506) (lo := 0) (hi := 26) (offs := #[123, 139, 152, 166, 180, 194, 207, 223, 239, 254, 270, 284, 297, 309, 322, 335, 349, 364, 379, 395, 411, 426, 439, 451, 463, 477, 491]) (len := 123) (off := 349) hc16 (by decide +kernel) (by decide) (by decide) (by decide) ?_
                                      obtain ⟨q17, e17, hf⟩ := zbi_of hf
                                      refine zr_run [(.bipush 119, 0, 0, 0, .int (119 : Int32)), (.bipush 97, 0, 0, 0, .int (97 : Int32)), (.bipush 108, 0, 0, 0, .int (108 : Int32)), (.bipush 107, 0, 0, 0, .int (107 : Int32)), (.bipush 115, 0, 0, 0, .int (115 : Int32)), (.iconst 0, 0, 0, 0, .int (0 : Int32))] [] (WW' := []) (lv' := [some (.int x0)]) (pc' := 361) (st' := [.int (0 : Int32), .int (115 : Int32), .int (107 : Int32), .int (108 : Int32), .int (97 : Int32), .int (119 : Int32)]) (by decide +kernel) rfl rfl ⟨trivial, trivial, trivial, trivial, trivial, trivial, trivial⟩ ?_
                                      refine zr_callS (c_X12_spelt l G (119 : Int32) (97 : Int32) (108 : Int32) (107 : Int32) (115 : Int32) (0 : Int32) q17 e17) (WW' := fun _ => []) (st := []) (st' := [.long q17]) [] rfl rfl (fun _ => Nat.le_of_ble_eq_true rfl) (fun _ => rfl) rfl rfl nm_X12_spelt zw_7_8 zw_7_9 zw_1_18 zw_7_10 rfl (Nat.le_of_ble_eq_true rfl) ⟨Nat.le_of_ble_eq_true rfl, Nat.le_of_ble_eq_true rfl⟩ (by decide +kernel) (fun _ => ?_)
                                      obtain rfl := Option.some.inj hf
                                      exact zr_lret (b0 := fun _ => 0) (by decide +kernel) rfl rfl rfl rfl rfl
                                    · have hf := ziff hf hc16
                                      by_cases hc17 : x0 = (17 : Int32)
                                      · have hf := zift hf hc17
                                        refine zr_tabIn (v := (17 : Int32)) (tgt := 365) (dflt := 506) (lo := 0) (hi := 26) (offs := #[123, 139, 152, 166, 180, 194, 207, 223, 239, 254, 270, 284, 297, 309, 322, 335, 349, 364, 379, 395, 411, 426, 439, 451, 463, 477, 491]) (len := 123) (off := 364) hc17 (by decide +kernel) (by decide) (by decide) (by decide) ?_
                                        obtain ⟨q18, e18, hf⟩ := zbi_of hf
                                        refine zr_run [(.bipush 119, 0, 0, 0, .int (119 : Int32)), (.bipush 97, 0, 0, 0, .int (97 : Int32)), (.bipush 105, 0, 0, 0, .int (105 : Int32)), (.bipush 116, 0, 0, 0, .int (116 : Int32)), (.bipush 115, 0, 0, 0, .int (115 : Int32)), (.iconst 0, 0, 0, 0, .int (0 : Int32))] [] (WW' := []) (lv' := [some (.int x0)]) (pc' := 376) (st' := [.int (0 : Int32), .int (115 : Int32), .int (116 : Int32), .int (105 : Int32), .int (97 : Int32), .int (119 : Int32)]) (by decide +kernel) rfl rfl ⟨trivial, trivial, trivial, trivial, trivial, trivial, trivial⟩ ?_
                                        refine zr_callS (c_X12_spelt l G (119 : Int32) (97 : Int32) (105 : Int32) (116 : Int32) (115 : Int32) (0 : Int32) q18 e18) (WW' := fun _ => []) (st := []) (st' := [.long q18]) [] rfl rfl (fun _ => Nat.le_of_ble_eq_true rfl) (fun _ => rfl) rfl rfl nm_X12_spelt zw_7_8 zw_7_9 zw_1_18 zw_7_10 rfl (Nat.le_of_ble_eq_true rfl) ⟨Nat.le_of_ble_eq_true rfl, Nat.le_of_ble_eq_true rfl⟩ (by decide +kernel) (fun _ => ?_)
                                        obtain rfl := Option.some.inj hf
                                        exact zr_lret (b0 := fun _ => 0) (by decide +kernel) rfl rfl rfl rfl rfl
                                      · have hf := ziff hf hc17
                                        by_cases hc18 : x0 = (18 : Int32)
                                        · have hf := zift hf hc18
                                          refine zr_tabIn (v := (18 : Int32)) (tgt := 380) (dflt := 506) (lo := 0) (hi := 26) (offs := #[123, 139, 152, 166, 180, 194, 207, 223, 239, 254, 270, 284, 297, 309, 322, 335, 349, 364, 379, 395, 411, 426, 439, 451, 463, 477, 491]) (len := 123) (off := 379) hc18 (by decide +kernel) (by decide) (by decide) (by decide) ?_
                                          obtain ⟨q19, e19, hf⟩ := zbi_of hf
                                          refine zr_run [(.bipush 115, 0, 0, 0, .int (115 : Int32)), (.bipush 97, 0, 0, 0, .int (97 : Int32)), (.bipush 105, 0, 0, 0, .int (105 : Int32)), (.bipush 108, 0, 0, 0, .int (108 : Int32)), (.bipush 101, 0, 0, 0, .int (101 : Int32)), (.bipush 100, 0, 0, 0, .int (100 : Int32))] [] (WW' := []) (lv' := [some (.int x0)]) (pc' := 392) (st' := [.int (100 : Int32), .int (101 : Int32), .int (108 : Int32), .int (105 : Int32), .int (97 : Int32), .int (115 : Int32)]) (by decide +kernel) rfl rfl ⟨trivial, trivial, trivial, trivial, trivial, trivial, trivial⟩ ?_
                                          refine zr_callS (c_X12_spelt l G (115 : Int32) (97 : Int32) (105 : Int32) (108 : Int32) (101 : Int32) (100 : Int32) q19 e19) (WW' := fun _ => []) (st := []) (st' := [.long q19]) [] rfl rfl (fun _ => Nat.le_of_ble_eq_true rfl) (fun _ => rfl) rfl rfl nm_X12_spelt zw_7_8 zw_7_9 zw_1_18 zw_7_10 rfl (Nat.le_of_ble_eq_true rfl) ⟨Nat.le_of_ble_eq_true rfl, Nat.le_of_ble_eq_true rfl⟩ (by decide +kernel) (fun _ => ?_)
                                          obtain rfl := Option.some.inj hf
                                          exact zr_lret (b0 := fun _ => 0) (by decide +kernel) rfl rfl rfl rfl rfl
                                        · have hf := ziff hf hc18
                                          by_cases hc19 : x0 = (19 : Int32)
                                          · have hf := zift hf hc19
                                            refine zr_tabIn (v := (19 : Int32)) (tgt := 396) (dflt := 506) (lo := 0) (hi := 26) (offs := #[123, 139, 152, 166, 180, 194, 207, 223, 239, 254, 270, 284, 297, 309, 322, 335, 349, 364, 379, 395, 411, 426, 439, 451, 463, 477, 491]) (len := 123) (off := 395) hc19 (by decide +kernel) (by decide) (by decide) (by decide) ?_
                                            obtain ⟨q20, e20, hf⟩ := zbi_of hf
                                            refine zr_run [(.bipush 111, 0, 0, 0, .int (111 : Int32)), (.bipush 117, 0, 0, 0, .int (117 : Int32)), (.bipush 116, 0, 0, 0, .int (116 : Int32)), (.bipush 108, 0, 0, 0, .int (108 : Int32)), (.bipush 97, 0, 0, 0, .int (97 : Int32)), (.bipush 119, 0, 0, 0, .int (119 : Int32))] [] (WW' := []) (lv' := [some (.int x0)]) (pc' := 408) (st' := [.int (119 : Int32), .int (97 : Int32), .int (108 : Int32), .int (116 : Int32), .int (117 : Int32), .int (111 : Int32)]) (by decide +kernel) rfl rfl ⟨trivial, trivial, trivial, trivial, trivial, trivial, trivial⟩ ?_
                                            refine zr_callS (c_X12_spelt l G (111 : Int32) (117 : Int32) (116 : Int32) (108 : Int32) (97 : Int32) (119 : Int32) q20 e20) (WW' := fun _ => []) (st := []) (st' := [.long q20]) [] rfl rfl (fun _ => Nat.le_of_ble_eq_true rfl) (fun _ => rfl) rfl rfl nm_X12_spelt zw_7_8 zw_7_9 zw_1_18 zw_7_10 rfl (Nat.le_of_ble_eq_true rfl) ⟨Nat.le_of_ble_eq_true rfl, Nat.le_of_ble_eq_true rfl⟩ (by decide +kernel) (fun _ => ?_)
                                            obtain rfl := Option.some.inj hf
                                            exact zr_lret (b0 := fun _ => 0) (by decide +kernel) rfl rfl rfl rfl rfl
                                          · have hf := ziff hf hc19
                                            by_cases hc20 : x0 = (20 : Int32)
                                            · have hf := zift hf hc20
                                              refine zr_tabIn (v := (20 : Int32)) (tgt := 412) (dflt := 506) (lo := 0) (hi := 26) (offs := #[123, 139, 152, 166, 180, 194, 207, 223, 239, 254, 270, 284, 297, 309, 322, 335, 349, 364, 379, 395, 411, 426, 439, 451, 463, 477, 491]) (len := 123) (off := 411) hc20 (by decide +kernel) (by decide) (by decide) (by decide) ?_
                                              obtain ⟨q21, e21, hf⟩ := zbi_of hf
                                              refine zr_run [(.bipush 115, 0, 0, 0, .int (115 : Int32)), (.bipush 108, 0, 0, 0, .int (108 : Int32)), (.bipush 97, 0, 0, 0, .int (97 : Int32)), (.bipush 105, 0, 0, 0, .int (105 : Int32)), (.bipush 110, 0, 0, 0, .int (110 : Int32)), (.iconst 0, 0, 0, 0, .int (0 : Int32))] [] (WW' := []) (lv' := [some (.int x0)]) (pc' := 423) (st' := [.int (0 : Int32), .int (110 : Int32), .int (105 : Int32), .int (97 : Int32), .int (108 : Int32), .int (115 : Int32)]) (by decide +kernel) rfl rfl ⟨trivial, trivial, trivial, trivial, trivial, trivial, trivial⟩ ?_
                                              refine zr_callS (c_X12_spelt l G (115 : Int32) (108 : Int32) (97 : Int32) (105 : Int32) (110 : Int32) (0 : Int32) q21 e21) (WW' := fun _ => []) (st := []) (st' := [.long q21]) [] rfl rfl (fun _ => Nat.le_of_ble_eq_true rfl) (fun _ => rfl) rfl rfl nm_X12_spelt zw_7_8 zw_7_9 zw_1_18 zw_7_10 rfl (Nat.le_of_ble_eq_true rfl) ⟨Nat.le_of_ble_eq_true rfl, Nat.le_of_ble_eq_true rfl⟩ (by decide +kernel) (fun _ => ?_)
                                              obtain rfl := Option.some.inj hf
                                              exact zr_lret (b0 := fun _ => 0) (by decide +kernel) rfl rfl rfl rfl rfl
                                            · have hf := ziff hf hc20
                                              by_cases hc21 : x0 = (21 : Int32)
                                              · have hf := zift hf hc21
                                                refine zr_tabIn (v := (21 : Int32)) (tgt := 427) (dflt := 506) (lo := 0) (hi := 26) (offs := #[123, 139, 152, 166, 180, 194, 207, 223, 239, 254, 270, 284, 297, 309, 322, 335, 349, 364, 379, 395, 411, 426, 439, 451, 463, 477, 491]) (len := 123) (off := 426) hc21 (by decide +kernel) (by decide) (by decide) (by decide) ?_
                                                obtain ⟨q22, e22, hf⟩ := zbi_of hf
                                                refine zr_run [(.bipush 107, 0, 0, 0, .int (107 : Int32)), (.bipush 105, 0, 0, 0, .int (105 : Int32)), (.bipush 110, 0, 0, 0, .int (110 : Int32)), (.iconst 0, 0, 0, 0, .int (0 : Int32)), (.iconst 0, 0, 0, 0, .int (0 : Int32)), (.iconst 0, 0, 0, 0, .int (0 : Int32))] [] (WW' := []) (lv' := [some (.int x0)]) (pc' := 436) (st' := [.int (0 : Int32), .int (0 : Int32), .int (0 : Int32), .int (110 : Int32), .int (105 : Int32), .int (107 : Int32)]) (by decide +kernel) rfl rfl ⟨trivial, trivial, trivial, trivial, trivial, trivial, trivial⟩ ?_
                                                refine zr_callS (c_X12_spelt l G (107 : Int32) (105 : Int32) (110 : Int32) (0 : Int32) (0 : Int32) (0 : Int32) q22 e22) (WW' := fun _ => []) (st := []) (st' := [.long q22]) [] rfl rfl (fun _ => Nat.le_of_ble_eq_true rfl) (fun _ => rfl) rfl rfl nm_X12_spelt zw_7_8 zw_7_9 zw_1_18 zw_7_10 rfl (Nat.le_of_ble_eq_true rfl) ⟨Nat.le_of_ble_eq_true rfl, Nat.le_of_ble_eq_true rfl⟩ (by decide +kernel) (fun _ => ?_)
                                                obtain rfl := Option.some.inj hf
                                                exact zr_lret (b0 := fun _ => 0) (by decide +kernel) rfl rfl rfl rfl rfl
                                              · have hf := ziff hf hc21
                                                by_cases hc22 : x0 = (22 : Int32)
                                                · have hf := zift hf hc22
                                                  refine zr_tabIn (v := (22 : Int32)) (tgt := 440) (dflt := 506) (lo := 0) (hi := 26) (offs := #[123, 139, 152, 166, 180, 194, 207, 223, 239, 254, 270, 284, 297, 309, 322, 335, 349, 364, 379, 395, 411, 426, 439, 451, 463, 477, 491]) (len := 123) (off := 439) hc22 (by decide +kernel) (by decide) (by decide) (by decide) ?_
                                                  obtain ⟨q23, e23, hf⟩ := zbi_of hf
                                                  refine zr_run [(.bipush 116, 0, 0, 0, .int (116 : Int32)), (.bipush 111, 0, 0, 0, .int (111 : Int32)), (.iconst 0, 0, 0, 0, .int (0 : Int32)), (.iconst 0, 0, 0, 0, .int (0 : Int32)), (.iconst 0, 0, 0, 0, .int (0 : Int32)), (.iconst 0, 0, 0, 0, .int (0 : Int32))] [] (WW' := []) (lv' := [some (.int x0)]) (pc' := 448) (st' := [.int (0 : Int32), .int (0 : Int32), .int (0 : Int32), .int (0 : Int32), .int (111 : Int32), .int (116 : Int32)]) (by decide +kernel) rfl rfl ⟨trivial, trivial, trivial, trivial, trivial, trivial, trivial⟩ ?_
                                                  refine zr_callS (c_X12_spelt l G (116 : Int32) (111 : Int32) (0 : Int32) (0 : Int32) (0 : Int32) (0 : Int32) q23 e23) (WW' := fun _ => []) (st := []) (st' := [.long q23]) [] rfl rfl (fun _ => Nat.le_of_ble_eq_true rfl) (fun _ => rfl) rfl rfl nm_X12_spelt zw_7_8 zw_7_9 zw_1_18 zw_7_10 rfl (Nat.le_of_ble_eq_true rfl) ⟨Nat.le_of_ble_eq_true rfl, Nat.le_of_ble_eq_true rfl⟩ (by decide +kernel) (fun _ => ?_)
                                                  obtain rfl := Option.some.inj hf
                                                  exact zr_lret (b0 := fun _ => 0) (by decide +kernel) rfl rfl rfl rfl rfl
                                                · have hf := ziff hf hc22
                                                  by_cases hc23 : x0 = (23 : Int32)
                                                  · have hf := zift hf hc23
                                                    refine zr_tabIn (v := (23 : Int32)) (tgt := 452) (dflt := 506) (lo := 0) (hi := 26) (offs := #[123, 139, 152, 166, 180, 194, 207, 223, 239, 254, 270, 284, 297, 309, 322, 335, 349, 364, 379, 395, 411, 426, 439, 451, 463, 477, 491]) (len := 123) (off := 451) hc23 (by decide +kernel) (by decide) (by decide) (by decide) ?_
                                                    obtain ⟨q24, e24, hf⟩ := zbi_of hf
                                                    refine zr_run [(.bipush 97, 0, 0, 0, .int (97 : Int32)), (.bipush 116, 0, 0, 0, .int (116 : Int32)), (.iconst 0, 0, 0, 0, .int (0 : Int32)), (.iconst 0, 0, 0, 0, .int (0 : Int32)), (.iconst 0, 0, 0, 0, .int (0 : Int32)), (.iconst 0, 0, 0, 0, .int (0 : Int32))] [] (WW' := []) (lv' := [some (.int x0)]) (pc' := 460) (st' := [.int (0 : Int32), .int (0 : Int32), .int (0 : Int32), .int (0 : Int32), .int (116 : Int32), .int (97 : Int32)]) (by decide +kernel) rfl rfl ⟨trivial, trivial, trivial, trivial, trivial, trivial, trivial⟩ ?_
                                                    refine zr_callS (c_X12_spelt l G (97 : Int32) (116 : Int32) (0 : Int32) (0 : Int32) (0 : Int32) (0 : Int32) q24 e24) (WW' := fun _ => []) (st := []) (st' := [.long q24]) [] rfl rfl (fun _ => Nat.le_of_ble_eq_true rfl) (fun _ => rfl) rfl rfl nm_X12_spelt zw_7_8 zw_7_9 zw_1_18 zw_7_10 rfl (Nat.le_of_ble_eq_true rfl) ⟨Nat.le_of_ble_eq_true rfl, Nat.le_of_ble_eq_true rfl⟩ (by decide +kernel) (fun _ => ?_)
                                                    obtain rfl := Option.some.inj hf
                                                    exact zr_lret (b0 := fun _ => 0) (by decide +kernel) rfl rfl rfl rfl rfl
                                                  · have hf := ziff hf hc23
                                                    by_cases hc24 : x0 = (24 : Int32)
                                                    · have hf := zift hf hc24
                                                      refine zr_tabIn (v := (24 : Int32)) (tgt := 464) (dflt := 506) (lo := 0) (hi := 26) (offs := #[123, 139, 152, 166, 180, 194, 207, 223, 239, 254, 270, 284, 297, 309, 322, 335, 349, 364, 379, 395, 411, 426, 439, 451, 463, 477, 491]) (len := 123) (off := 463) hc24 (by decide +kernel) (by decide) (by decide) (by decide) ?_
                                                      obtain ⟨q25, e25, hf⟩ := zbi_of hf
                                                      refine zr_run [(.bipush 99, 0, 0, 0, .int (99 : Int32)), (.bipush 111, 0, 0, 0, .int (111 : Int32)), (.bipush 105, 0, 0, 0, .int (105 : Int32)), (.bipush 110, 0, 0, 0, .int (110 : Int32)), (.iconst 0, 0, 0, 0, .int (0 : Int32)), (.iconst 0, 0, 0, 0, .int (0 : Int32))] [] (WW' := []) (lv' := [some (.int x0)]) (pc' := 474) (st' := [.int (0 : Int32), .int (0 : Int32), .int (110 : Int32), .int (105 : Int32), .int (111 : Int32), .int (99 : Int32)]) (by decide +kernel) rfl rfl ⟨trivial, trivial, trivial, trivial, trivial, trivial, trivial⟩ ?_
                                                      refine zr_callS (c_X12_spelt l G (99 : Int32) (111 : Int32) (105 : Int32) (110 : Int32) (0 : Int32) (0 : Int32) q25 e25) (WW' := fun _ => []) (st := []) (st' := [.long q25]) [] rfl rfl (fun _ => Nat.le_of_ble_eq_true rfl) (fun _ => rfl) rfl rfl nm_X12_spelt zw_7_8 zw_7_9 zw_1_18 zw_7_10 rfl (Nat.le_of_ble_eq_true rfl) ⟨Nat.le_of_ble_eq_true rfl, Nat.le_of_ble_eq_true rfl⟩ (by decide +kernel) (fun _ => ?_)
                                                      obtain rfl := Option.some.inj hf
                                                      exact zr_lret (b0 := fun _ => 0) (by decide +kernel) rfl rfl rfl rfl rfl
                                                    · have hf := ziff hf hc24
                                                      by_cases hc25 : x0 = (25 : Int32)
                                                      · have hf := zift hf hc25
                                                        refine zr_tabIn (v := (25 : Int32)) (tgt := 478) (dflt := 506) (lo := 0) (hi := 26) (offs := #[123, 139, 152, 166, 180, 194, 207, 223, 239, 254, 270, 284, 297, 309, 322, 335, 349, 364, 379, 395, 411, 426, 439, 451, 463, 477, 491]) (len := 123) (off := 477) hc25 (by decide +kernel) (by decide) (by decide) (by decide) ?_
                                                        obtain ⟨q26, e26, hf⟩ := zbi_of hf
                                                        refine zr_run [(.bipush 100, 0, 0, 0, .int (100 : Int32)), (.bipush 97, 0, 0, 0, .int (97 : Int32)), (.bipush 121, 0, 0, 0, .int (121 : Int32)), (.bipush 115, 0, 0, 0, .int (115 : Int32)), (.iconst 0, 0, 0, 0, .int (0 : Int32)), (.iconst 0, 0, 0, 0, .int (0 : Int32))] [] (WW' := []) (lv' := [some (.int x0)]) (pc' := 488) (st' := [.int (0 : Int32), .int (0 : Int32), .int (115 : Int32), .int (121 : Int32), .int (97 : Int32), .int (100 : Int32)]) (by decide +kernel) rfl rfl ⟨trivial, trivial, trivial, trivial, trivial, trivial, trivial⟩ ?_
                                                        refine zr_callS (c_X12_spelt l G (100 : Int32) (97 : Int32) (121 : Int32) (115 : Int32) (0 : Int32) (0 : Int32) q26 e26) (WW' := fun _ => []) (st := []) (st' := [.long q26]) [] rfl rfl (fun _ => Nat.le_of_ble_eq_true rfl) (fun _ => rfl) rfl rfl nm_X12_spelt zw_7_8 zw_7_9 zw_1_18 zw_7_10 rfl (Nat.le_of_ble_eq_true rfl) ⟨Nat.le_of_ble_eq_true rfl, Nat.le_of_ble_eq_true rfl⟩ (by decide +kernel) (fun _ => ?_)
                                                        obtain rfl := Option.some.inj hf
                                                        exact zr_lret (b0 := fun _ => 0) (by decide +kernel) rfl rfl rfl rfl rfl
                                                      · have hf := ziff hf hc25
                                                        by_cases hc26 : x0 = (26 : Int32)
                                                        · have hf := zift hf hc26
                                                          refine zr_tabIn (v := (26 : Int32)) (tgt := 492) (dflt := 506) (lo := 0) (hi := 26) (offs := #[123, 139, 152, 166, 180, 194, 207, 223, 239, 254, 270, 284, 297, 309, 322, 335, 349, 364, 379, 395, 411, 426, 439, 451, 463, 477, 491]) (len := 123) (off := 491) hc26 (by decide +kernel) (by decide) (by decide) (by decide) ?_
                                                          obtain ⟨q27, e27, hf⟩ := zbi_of hf
                                                          refine zr_run [(.bipush 109, 0, 0, 0, .int (109 : Int32)), (.bipush 105, 0, 0, 0, .int (105 : Int32)), (.bipush 108, 0, 0, 0, .int (108 : Int32)), (.bipush 101, 0, 0, 0, .int (101 : Int32)), (.bipush 115, 0, 0, 0, .int (115 : Int32)), (.iconst 0, 0, 0, 0, .int (0 : Int32))] [] (WW' := []) (lv' := [some (.int x0)]) (pc' := 503) (st' := [.int (0 : Int32), .int (115 : Int32), .int (101 : Int32), .int (108 : Int32), .int (105 : Int32), .int (109 : Int32)]) (by decide +kernel) rfl rfl ⟨trivial, trivial, trivial, trivial, trivial, trivial, trivial⟩ ?_
                                                          refine zr_callS (c_X12_spelt l G (109 : Int32) (105 : Int32) (108 : Int32) (101 : Int32) (115 : Int32) (0 : Int32) q27 e27) (WW' := fun _ => []) (st := []) (st' := [.long q27]) [] rfl rfl (fun _ => Nat.le_of_ble_eq_true rfl) (fun _ => rfl) rfl rfl nm_X12_spelt zw_7_8 zw_7_9 zw_1_18 zw_7_10 rfl (Nat.le_of_ble_eq_true rfl) ⟨Nat.le_of_ble_eq_true rfl, Nat.le_of_ble_eq_true rfl⟩ (by decide +kernel) (fun _ => ?_)
                                                          obtain rfl := Option.some.inj hf
                                                          exact zr_lret (b0 := fun _ => 0) (by decide +kernel) rfl rfl rfl rfl rfl
                                                        · have hf := ziff hf hc26
                                                          refine zr_tabOut (tgt := 507) (dflt := 506) (lo := 0) (hi := 26) (offs := #[123, 139, 152, 166, 180, 194, 207, 223, 239, 254, 270, 284, 297, 309, 322, 335, 349, 364, 379, 395, 411, 426, 439, 451, 463, 477, 491]) (len := 123) (by decide +kernel) (by have q0 := lv_neT hc0 (a := 0) (by decide); have q1 := lv_neT hc1 (a := 1) (by decide); have q2 := lv_neT hc2 (a := 2) (by decide); have q3 := lv_neT hc3 (a := 3) (by decide); have q4 := lv_neT hc4 (a := 4) (by decide); have q5 := lv_neT hc5 (a := 5) (by decide); have q6 := lv_neT hc6 (a := 6) (by decide); have q7 := lv_neT hc7 (a := 7) (by decide); have q8 := lv_neT hc8 (a := 8) (by decide); have q9 := lv_neT hc9 (a := 9) (by decide); have q10 := lv_neT hc10 (a := 10) (by decide); have q11 := lv_neT hc11 (a := 11) (by decide); have q12 := lv_neT hc12 (a := 12) (by decide); have q13 := lv_neT hc13 (a := 13) (by decide); have q14 := lv_neT hc14 (a := 14) (by decide); have q15 := lv_neT hc15 (a := 15) (by decide); have q16 := lv_neT hc16 (a := 16) (by decide); have q17 := lv_neT hc17 (a := 17) (by decide); have q18 := lv_neT hc18 (a := 18) (by decide); have q19 := lv_neT hc19 (a := 19) (by decide); have q20 := lv_neT hc20 (a := 20) (by decide); have q21 := lv_neT hc21 (a := 21) (by decide); have q22 := lv_neT hc22 (a := 22) (by decide); have q23 := lv_neT hc23 (a := 23) (by decide); have q24 := lv_neT hc24 (a := 24) (by decide); have q25 := lv_neT hc25 (a := 25) (by decide); have q26 := lv_neT hc26 (a := 26) (by decide); omega) (by decide) ?_
                                                          obtain ⟨q28, e28, hf⟩ := zbi_of hf
                                                          refine zr_run [(.bipush 110, 0, 0, 0, .int (110 : Int32)), (.bipush 117, 0, 0, 0, .int (117 : Int32)), (.bipush 109, 0, 0, 0, .int (109 : Int32)), (.bipush 98, 0, 0, 0, .int (98 : Int32)), (.bipush 101, 0, 0, 0, .int (101 : Int32)), (.bipush 114, 0, 0, 0, .int (114 : Int32))] [] (WW' := []) (lv' := [some (.int x0)]) (pc' := 519) (st' := [.int (114 : Int32), .int (101 : Int32), .int (98 : Int32), .int (109 : Int32), .int (117 : Int32), .int (110 : Int32)]) (by decide +kernel) rfl rfl ⟨trivial, trivial, trivial, trivial, trivial, trivial, trivial⟩ ?_
                                                          refine zr_callS (c_X12_spelt l G (110 : Int32) (117 : Int32) (109 : Int32) (98 : Int32) (101 : Int32) (114 : Int32) q28 e28) (WW' := fun _ => []) (st := []) (st' := [.long q28]) [] rfl rfl (fun _ => Nat.le_of_ble_eq_true rfl) (fun _ => rfl) rfl rfl nm_X12_spelt zw_7_8 zw_7_9 zw_1_18 zw_7_10 rfl (Nat.le_of_ble_eq_true rfl) ⟨Nat.le_of_ble_eq_true rfl, Nat.le_of_ble_eq_true rfl⟩ (by decide +kernel) (fun _ => ?_)
                                                          obtain rfl := Option.some.inj hf
                                                          exact zr_lret (b0 := fun _ => 0) (by decide +kernel) rfl rfl rfl rfl rfl
  exact zj_entry [some (.int x0)] (by decide +kernel) rfl (by decide) (Nat.le_of_ble_eq_true rfl) rfl rfl (key _)
def M_X12_isWord : zj_M := (RX12, cX12_isWord, 2, (some .boolean), { frames := 2, cells := 0, slots := 0, locals := 47 }, false)
theorem nm_X12_isWord : zj_nm yX12_isWord 1 := ⟨by decide +kernel, by decide +kernel, by decide +kernel⟩
def f_X12_isWord_b24  (s0 : MoT)   : Option (Int32) := some (0 : Int32)
def f_X12_isWord  (s0 : MoT) (x1 : Int32) : Option (Int32) := (if (Mo_kind s0) = (2 : Int32) then ((f_X12_wordOf x1).bind fun q1 => (if (lg_cmp (Mo_word s0) q1) = 0 then some (1 : Int32) else f_X12_isWord_b24 s0)) else f_X12_isWord_b24 s0)
set_option maxRecDepth 100000 in
set_option maxHeartbeats 4000000 in
theorem t_X12_isWord_b24 (l : Launch) (G : zj_G) (a0 : Nat → Nat) (W0 : List va_W) (r : Int32) (s0 : MoT)    (hf : f_X12_isWord_b24 s0 = some r) : zj_J l G M_X12_isWord W0 (zj_ret G M_X12_isWord W0 (some (.int r)) (fun _ => [w_Mo G a0 s0])) 0 0 [w_Mo G a0 s0] [none, none] 24 [] := by
  unfold f_X12_isWord_b24 at hf
  refine zr_run [(.iconst 0, 0, 0, 0, .int (0 : Int32))] [] (WW' := [w_Mo G a0 s0]) (lv' := [none, none]) (pc' := 25) (st' := [.int (0 : Int32)]) (by decide +kernel) rfl rfl ⟨trivial, trivial⟩ ?_
  obtain rfl := Option.some.inj hf
  exact zr_zret (by decide) (b0 := fun _ => 0) (by decide +kernel) rfl rfl rfl rfl rfl
set_option maxRecDepth 100000 in
set_option maxHeartbeats 4000000 in
theorem c_X12_isWord (l : Launch) (G : zj_G) (a0 : Nat → Nat) (s0 : MoT) (x1 : Int32) (r : Int32) (hf : f_X12_isWord s0 x1 = some r) : zj_C l G M_X12_isWord yX12_isWord [w_Mo G a0 s0] [.ref (a0 0), .int x1] (some (.int r)) (fun _ => [w_Mo G a0 s0]) := by
  have key : ∀ W0 : List va_W, zj_J l G M_X12_isWord W0 (zj_ret G M_X12_isWord W0 (some (.int r)) (fun _ => [w_Mo G a0 s0])) 0 0 [w_Mo G a0 s0] [some (.ref (a0 0)), some (.int x1)] 0 [] := by
    intro W0
    unfold f_X12_isWord at hf
    refine zr_run [(.aload_n 0, 0, 0, 0, .null), (.getfield 113, 0, 0, 7, .null), (.iconst 2, 0, 0, 0, .int (2 : Int32))] [] (WW' := [w_Mo G a0 s0]) (lv' := [some (.ref (a0 0)), some (.int x1)]) (pc' := 5) (st' := [.int (2 : Int32), .int (Mo_kind s0)]) (by decide +kernel) rfl rfl ⟨trivial, ⟨rfl, rfl, zw_6_36⟩, trivial, trivial⟩ ?_
    refine zr_icmp_ne (off := 19) (tgt := 24) (by decide +kernel) (by decide) (fun hc => ?_) (fun hc => ?_)
    · have hf := zift hf hc
      obtain ⟨q1, e1, hf⟩ := zbi_of hf
      refine zr_run [(.aload_n 0, 0, 0, 0, .null), (.getfield 126, 0, 0, 12, .null), (.iload_n 1, 0, 0, 0, .null)] [] (WW' := [w_Mo G a0 s0]) (lv' := [some (.ref (a0 0)), some (.int x1)]) (pc' := 13) (st' := [.int x1, .long (Mo_word s0)]) (by decide +kernel) rfl rfl ⟨trivial, ⟨rfl, rfl, zw_6_41⟩, trivial, trivial⟩ ?_
      refine zr_callS (c_X12_wordOf l G x1 q1 e1) (WW' := fun _ => [w_Mo G a0 s0]) (st := [.long (Mo_word s0)]) (st' := [.long q1, .long (Mo_word s0)]) [] rfl rfl (fun _ => Nat.le_of_ble_eq_true rfl) (fun _ => rfl) rfl rfl nm_X12_wordOf zw_7_5 zw_7_6 zw_1_18 zw_7_7 rfl (Nat.le_of_ble_eq_true rfl) ⟨Nat.le_of_ble_eq_true rfl, Nat.le_of_ble_eq_true rfl⟩ (by decide +kernel) (fun _ => ?_)
      refine zr_run [(.lcmp, 0, 0, 0, .null)] [] (WW' := [w_Mo G a0 s0]) (lv' := [some (.ref (a0 0)), some (.int x1)]) (pc' := 17) (st' := [.int (lg_cmp (Mo_word s0) q1)]) (by decide +kernel) rfl rfl ⟨trivial, trivial⟩ ?_
      refine zr_if_ne (off := 7) (tgt := 24) (by decide +kernel) (by decide) (fun hc => ?_) (fun hc => ?_)
      · have hf := zift hf hc
        refine zr_run [(.iconst 1, 0, 0, 0, .int (1 : Int32))] [] (WW' := [w_Mo G a0 s0]) (lv' := [some (.ref (a0 0)), some (.int x1)]) (pc' := 21) (st' := [.int (1 : Int32)]) (by decide +kernel) rfl rfl ⟨trivial, trivial⟩ ?_
        refine zr_goto (off := 4) (tgt := 25) (by decide +kernel) (by decide) ?_
        obtain rfl := Option.some.inj hf
        exact zr_zret (by decide) (b0 := fun _ => 0) (by decide +kernel) rfl rfl rfl rfl rfl
      · have hf := ziff hf hc
        refine zr_run [] [0, 1] (WW' := [w_Mo G a0 s0]) (lv' := [none, none]) (pc' := 24) (st' := []) (by decide +kernel) rfl rfl trivial ?_
        exact t_X12_isWord_b24 l G a0 W0 r s0 hf
    · have hf := ziff hf hc
      refine zr_run [] [0, 1] (WW' := [w_Mo G a0 s0]) (lv' := [none, none]) (pc' := 24) (st' := []) (by decide +kernel) rfl rfl trivial ?_
      exact t_X12_isWord_b24 l G a0 W0 r s0 hf
  exact zj_entry [some (.ref (a0 0)), some (.int x1)] (by decide +kernel) rfl (by decide) (Nat.le_of_ble_eq_true rfl) rfl rfl (key _)
def M_X12_isSign : zj_M := (RX12, cX12_isSign, 2, (some .boolean), { frames := 0, cells := 0, slots := 0, locals := 0 }, false)
theorem nm_X12_isSign : zj_nm yX12_isSign 1 := ⟨by decide +kernel, by decide +kernel, by decide +kernel⟩
def f_X12_isSign_b20  (s0 : MoT)   : Option (Int32) := some (0 : Int32)
def f_X12_isSign  (s0 : MoT) (x1 : Int32) : Option (Int32) := (if (Mo_kind s0) = (4 : Int32) then (if (Mo_sign s0) = x1 then some (1 : Int32) else f_X12_isSign_b20 s0) else f_X12_isSign_b20 s0)
set_option maxRecDepth 100000 in
set_option maxHeartbeats 4000000 in
theorem t_X12_isSign_b20 (l : Launch) (G : zj_G) (a0 : Nat → Nat) (W0 : List va_W) (r : Int32) (s0 : MoT)    (hf : f_X12_isSign_b20 s0 = some r) : zj_J l G M_X12_isSign W0 (zj_ret G M_X12_isSign W0 (some (.int r)) (fun _ => [w_Mo G a0 s0])) 0 0 [w_Mo G a0 s0] [none, none] 20 [] := by
  unfold f_X12_isSign_b20 at hf
  refine zr_run [(.iconst 0, 0, 0, 0, .int (0 : Int32))] [] (WW' := [w_Mo G a0 s0]) (lv' := [none, none]) (pc' := 21) (st' := [.int (0 : Int32)]) (by decide +kernel) rfl rfl ⟨trivial, trivial⟩ ?_
  obtain rfl := Option.some.inj hf
  exact zr_zret (by decide) (b0 := fun _ => 0) (by decide +kernel) rfl rfl rfl rfl rfl
set_option maxRecDepth 100000 in
set_option maxHeartbeats 4000000 in
theorem c_X12_isSign (l : Launch) (G : zj_G) (a0 : Nat → Nat) (s0 : MoT) (x1 : Int32) (r : Int32) (hf : f_X12_isSign s0 x1 = some r) : zj_C l G M_X12_isSign yX12_isSign [w_Mo G a0 s0] [.ref (a0 0), .int x1] (some (.int r)) (fun _ => [w_Mo G a0 s0]) := by
  have key : ∀ W0 : List va_W, zj_J l G M_X12_isSign W0 (zj_ret G M_X12_isSign W0 (some (.int r)) (fun _ => [w_Mo G a0 s0])) 0 0 [w_Mo G a0 s0] [some (.ref (a0 0)), some (.int x1)] 0 [] := by
    intro W0
    unfold f_X12_isSign at hf
    refine zr_run [(.aload_n 0, 0, 0, 0, .null), (.getfield 113, 0, 0, 7, .null), (.iconst 4, 0, 0, 0, .int (4 : Int32))] [] (WW' := [w_Mo G a0 s0]) (lv' := [some (.ref (a0 0)), some (.int x1)]) (pc' := 5) (st' := [.int (4 : Int32), .int (Mo_kind s0)]) (by decide +kernel) rfl rfl ⟨trivial, ⟨rfl, rfl, zw_6_36⟩, trivial, trivial⟩ ?_
    refine zr_icmp_ne (off := 15) (tgt := 20) (by decide +kernel) (by decide) (fun hc => ?_) (fun hc => ?_)
    · have hf := zift hf hc
      refine zr_run [(.aload_n 0, 0, 0, 0, .null), (.getfield 123, 0, 0, 9, .null), (.iload_n 1, 0, 0, 0, .null)] [] (WW' := [w_Mo G a0 s0]) (lv' := [some (.ref (a0 0)), some (.int x1)]) (pc' := 13) (st' := [.int x1, .int (Mo_sign s0)]) (by decide +kernel) rfl rfl ⟨trivial, ⟨rfl, rfl, zw_6_38⟩, trivial, trivial⟩ ?_
      refine zr_icmp_ne (off := 7) (tgt := 20) (by decide +kernel) (by decide) (fun hc => ?_) (fun hc => ?_)
      · have hf := zift hf hc
        refine zr_run [(.iconst 1, 0, 0, 0, .int (1 : Int32))] [] (WW' := [w_Mo G a0 s0]) (lv' := [some (.ref (a0 0)), some (.int x1)]) (pc' := 17) (st' := [.int (1 : Int32)]) (by decide +kernel) rfl rfl ⟨trivial, trivial⟩ ?_
        refine zr_goto (off := 4) (tgt := 21) (by decide +kernel) (by decide) ?_
        obtain rfl := Option.some.inj hf
        exact zr_zret (by decide) (b0 := fun _ => 0) (by decide +kernel) rfl rfl rfl rfl rfl
      · have hf := ziff hf hc
        refine zr_run [] [0, 1] (WW' := [w_Mo G a0 s0]) (lv' := [none, none]) (pc' := 20) (st' := []) (by decide +kernel) rfl rfl trivial ?_
        exact t_X12_isSign_b20 l G a0 W0 r s0 hf
    · have hf := ziff hf hc
      refine zr_run [] [0, 1] (WW' := [w_Mo G a0 s0]) (lv' := [none, none]) (pc' := 20) (st' := []) (by decide +kernel) rfl rfl trivial ?_
      exact t_X12_isSign_b20 l G a0 W0 r s0 hf
  exact zj_entry [some (.ref (a0 0)), some (.int x1)] (by decide +kernel) rfl (by decide) (Nat.le_of_ble_eq_true rfl) rfl rfl (key _)
def M_X12_isName : zj_M := (RX12, cX12_isName, 2, (some .boolean), { frames := 2, cells := 0, slots := 0, locals := 47 }, false)
theorem nm_X12_isName : zj_nm yX12_isName 0 := ⟨by decide +kernel, by decide +kernel, by decide +kernel⟩
def f_X12_isName_H12  (s0 : MoT) (k12 : Int32 → Option (Int32)) (x1 : Int32) : Option (Int32) := (if (27 : Int32) < x1 then some (1 : Int32) else ((f_X12_wordOf x1).bind fun q1 => (if (lg_cmp (Mo_word s0) q1) = 0 then some (0 : Int32) else k12 (x1 + (1 : Int32)))))
def f_X12_isName_L12  (s0 : MoT)  : Nat → Int32 → Option (Int32)
  | 0 => fun _ => none
  | n + 1 => fun x1 => f_X12_isName_H12 s0 (f_X12_isName_L12 s0 n) x1
def f_X12_isName  (s0 : MoT)  : Option (Int32) := (if (Mo_kind s0) = (2 : Int32) then f_X12_isName_L12 s0 zFU (0 : Int32) else some (0 : Int32))
set_option maxRecDepth 100000 in
set_option maxHeartbeats 4000000 in
theorem t_X12_isName_H12 (l : Launch) (G : zj_G) (a0 : Nat → Nat) (W0 : List va_W) (r : Int32) (s0 : MoT) (k12 : Int32 → Option (Int32)) (hk12 : ∀ (x1 : Int32), k12 x1 = some r → zj_J l G M_X12_isName W0 (zj_ret G M_X12_isName W0 (some (.int r)) (fun _ => [w_Mo G a0 s0])) 0 0 [w_Mo G a0 s0] [some (.ref (a0 0)), some (.int x1)] 12 []) (x1 : Int32) (hf : f_X12_isName_H12 s0 k12 x1 = some r) : zj_J l G M_X12_isName W0 (zj_ret G M_X12_isName W0 (some (.int r)) (fun _ => [w_Mo G a0 s0])) 0 0 [w_Mo G a0 s0] [some (.ref (a0 0)), some (.int x1)] 12 [] := by
  unfold f_X12_isName_H12 at hf
  refine zr_run [(.iload_n 1, 0, 0, 0, .null), (.bipush 27, 0, 0, 0, .int (27 : Int32))] [] (WW' := [w_Mo G a0 s0]) (lv' := [some (.ref (a0 0)), some (.int x1)]) (pc' := 15) (st' := [.int (27 : Int32), .int x1]) (by decide +kernel) rfl rfl ⟨trivial, trivial, trivial⟩ ?_
  refine zr_icmp_gt (off := 23) (tgt := 38) (by decide +kernel) (by decide) (fun hc => ?_) (fun hc => ?_)
  · have hf := zift hf hc
    refine zr_run [(.iconst 1, 0, 0, 0, .int (1 : Int32))] [] (WW' := [w_Mo G a0 s0]) (lv' := [some (.ref (a0 0)), some (.int x1)]) (pc' := 39) (st' := [.int (1 : Int32)]) (by decide +kernel) rfl rfl ⟨trivial, trivial⟩ ?_
    obtain rfl := Option.some.inj hf
    exact zr_zret (by decide) (b0 := fun _ => 0) (by decide +kernel) rfl rfl rfl rfl rfl
  · have hf := ziff hf hc
    obtain ⟨q1, e1, hf⟩ := zbi_of hf
    refine zr_run [(.aload_n 0, 0, 0, 0, .null), (.getfield 126, 0, 0, 12, .null), (.iload_n 1, 0, 0, 0, .null)] [] (WW' := [w_Mo G a0 s0]) (lv' := [some (.ref (a0 0)), some (.int x1)]) (pc' := 23) (st' := [.int x1, .long (Mo_word s0)]) (by decide +kernel) rfl rfl ⟨trivial, ⟨rfl, rfl, zw_6_41⟩, trivial, trivial⟩ ?_
    refine zr_callS (c_X12_wordOf l G x1 q1 e1) (WW' := fun _ => [w_Mo G a0 s0]) (st := [.long (Mo_word s0)]) (st' := [.long q1, .long (Mo_word s0)]) [] rfl rfl (fun _ => Nat.le_of_ble_eq_true rfl) (fun _ => rfl) rfl rfl nm_X12_wordOf zw_7_5 zw_7_6 zw_1_18 zw_7_7 rfl (Nat.le_of_ble_eq_true rfl) ⟨Nat.le_of_ble_eq_true rfl, Nat.le_of_ble_eq_true rfl⟩ (by decide +kernel) (fun _ => ?_)
    refine zr_run [(.lcmp, 0, 0, 0, .null)] [] (WW' := [w_Mo G a0 s0]) (lv' := [some (.ref (a0 0)), some (.int x1)]) (pc' := 27) (st' := [.int (lg_cmp (Mo_word s0) q1)]) (by decide +kernel) rfl rfl ⟨trivial, trivial⟩ ?_
    refine zr_if_ne (off := 5) (tgt := 32) (by decide +kernel) (by decide) (fun hc => ?_) (fun hc => ?_)
    · have hf := zift hf hc
      refine zr_run [(.iconst 0, 0, 0, 0, .int (0 : Int32))] [] (WW' := [w_Mo G a0 s0]) (lv' := [some (.ref (a0 0)), some (.int x1)]) (pc' := 31) (st' := [.int (0 : Int32)]) (by decide +kernel) rfl rfl ⟨trivial, trivial⟩ ?_
      obtain rfl := Option.some.inj hf
      exact zr_zret (by decide) (b0 := fun _ => 0) (by decide +kernel) rfl rfl rfl rfl rfl
    · have hf := ziff hf hc
      refine zr_run [(.iinc 1 1, 0, 0, 0, .int (1 : Int32))] [] (WW' := [w_Mo G a0 s0]) (lv' := [some (.ref (a0 0)), some (.int (x1 + (1 : Int32)))]) (pc' := 35) (st' := []) (by decide +kernel) rfl rfl ⟨trivial, trivial⟩ ?_
      refine zr_goto (off := -23) (tgt := 12) (by decide +kernel) (by decide) ?_
      exact hk12 (x1 + (1 : Int32)) hf
theorem t_X12_isName_L12 (l : Launch) (G : zj_G) (a0 : Nat → Nat) (W0 : List va_W) (r : Int32) (s0 : MoT)   : ∀ (n : Nat) (x1 : Int32), f_X12_isName_L12 s0 n x1 = some r → zj_J l G M_X12_isName W0 (zj_ret G M_X12_isName W0 (some (.int r)) (fun _ => [w_Mo G a0 s0])) 0 0 [w_Mo G a0 s0] [some (.ref (a0 0)), some (.int x1)] 12 [] := by
  intro n
  induction n with
  | zero => intro x1 hf; exact nomatch (show none = some r from hf)
  | succ n ih => intro x1 hf; exact t_X12_isName_H12 l G a0 W0 r s0  (f_X12_isName_L12 s0 n)  ih x1  hf
set_option maxRecDepth 100000 in
set_option maxHeartbeats 4000000 in
theorem c_X12_isName (l : Launch) (G : zj_G) (a0 : Nat → Nat) (s0 : MoT)  (r : Int32) (hf : f_X12_isName s0 = some r) : zj_C l G M_X12_isName yX12_isName [w_Mo G a0 s0] [.ref (a0 0)] (some (.int r)) (fun _ => [w_Mo G a0 s0]) := by
  have key : ∀ W0 : List va_W, zj_J l G M_X12_isName W0 (zj_ret G M_X12_isName W0 (some (.int r)) (fun _ => [w_Mo G a0 s0])) 0 0 [w_Mo G a0 s0] [some (.ref (a0 0)), none] 0 [] := by
    intro W0
    unfold f_X12_isName at hf
    refine zr_run [(.aload_n 0, 0, 0, 0, .null), (.getfield 113, 0, 0, 7, .null), (.iconst 2, 0, 0, 0, .int (2 : Int32))] [] (WW' := [w_Mo G a0 s0]) (lv' := [some (.ref (a0 0)), none]) (pc' := 5) (st' := [.int (2 : Int32), .int (Mo_kind s0)]) (by decide +kernel) rfl rfl ⟨trivial, ⟨rfl, rfl, zw_6_36⟩, trivial, trivial⟩ ?_
    refine zr_icmp_eq (off := 5) (tgt := 10) (by decide +kernel) (by decide) (fun hc => ?_) (fun hc => ?_)
    · have hf := zift hf hc
      refine zr_run [(.iconst 0, 0, 0, 0, .int (0 : Int32)), (.istore_n 1, 0, 0, 0, .null)] [] (WW' := [w_Mo G a0 s0]) (lv' := [some (.ref (a0 0)), some (.int (0 : Int32))]) (pc' := 12) (st' := []) (by decide +kernel) rfl rfl ⟨trivial, trivial, trivial⟩ ?_
      exact t_X12_isName_L12 l G a0 W0 r s0 zFU (0 : Int32) hf
    · have hf := ziff hf hc
      refine zr_run [(.iconst 0, 0, 0, 0, .int (0 : Int32))] [] (WW' := [w_Mo G a0 s0]) (lv' := [some (.ref (a0 0)), none]) (pc' := 9) (st' := [.int (0 : Int32)]) (by decide +kernel) rfl rfl ⟨trivial, trivial⟩ ?_
      obtain rfl := Option.some.inj hf
      exact zr_zret (by decide) (b0 := fun _ => 0) (by decide +kernel) rfl rfl rfl rfl rfl
  exact zj_entry [some (.ref (a0 0)), none] (by decide +kernel) rfl (by decide) (Nat.le_of_ble_eq_true rfl) rfl rfl (key _)
def M_X12_bad : zj_M := (RX12, cX12_bad, 2, (some .boolean), { frames := 0, cells := 0, slots := 0, locals := 0 }, false)
theorem nm_X12_bad : zj_nm yX12_bad 1 := ⟨by decide +kernel, by decide +kernel, by decide +kernel⟩
def f_X12_bad_b14  (s0 : MoT)  (z0 : Int32) : Option (Int32 × MoT) := (zlet (Mo_s_fault s0 z0) fun y1 => (zlet (Mo_s_place y1 (Mo_from y1)) fun y2 => some ((0 : Int32), y2)))
def f_X12_bad  (s0 : MoT) (x1 : Int32) : Option (Int32 × MoT) := (if (Mo_kind s0) = (1 : Int32) then f_X12_bad_b14 s0 (1 : Int32) else f_X12_bad_b14 s0 x1)
set_option maxRecDepth 100000 in
set_option maxHeartbeats 4000000 in
theorem t_X12_bad_b14 (l : Launch) (G : zj_G) (a0 : Nat → Nat) (W0 : List va_W) (r : Int32 × MoT) (s0 : MoT)   (z0 : Int32) (hf : f_X12_bad_b14 s0 z0 = some r) : zj_J l G M_X12_bad W0 (zj_ret G M_X12_bad W0 (some (.int r.1)) (fun _ => [w_Mo G a0 r.2])) 0 0 [w_Mo G a0 s0] [some (.ref (a0 0)), none] 14 [.int z0, .ref (a0 0)] := by
  unfold f_X12_bad_b14 at hf
  obtain ⟨y1, e1, hf⟩ := zlet_of hf
  refine zr_run [(.putfield 149, 0, 0, 10, .null)] [] (WW' := [w_Mo G a0 (Mo_s_fault s0 z0)]) (lv' := [some (.ref (a0 0)), none]) (pc' := 17) (st' := []) (by decide +kernel) rfl rfl ⟨⟨rfl, rfl, rfl, trivial, rfl, rfl, zw_6_39⟩, trivial⟩ ?_
  refine zr_eq (WW2 := [w_Mo G a0 y1]) (lv2 := [some (.ref (a0 0)), none]) (st2 := []) (by rw [e1]) rfl rfl ?_
  obtain ⟨y2, e2, hf⟩ := zlet_of hf
  refine zr_run [(.aload_n 0, 0, 0, 0, .null), (.aload_n 0, 0, 0, 0, .null), (.getfield 107, 0, 0, 6, .null), (.putfield 152, 0, 0, 11, .null)] [] (WW' := [w_Mo G a0 (Mo_s_place y1 (Mo_from y1))]) (lv' := [some (.ref (a0 0)), none]) (pc' := 25) (st' := []) (by decide +kernel) rfl rfl ⟨trivial, trivial, ⟨rfl, rfl, zw_6_35⟩, ⟨rfl, rfl, rfl, trivial, rfl, rfl, zw_6_40⟩, trivial⟩ ?_
  refine zr_eq (WW2 := [w_Mo G a0 y2]) (lv2 := [some (.ref (a0 0)), none]) (st2 := []) (by rw [e2]) rfl rfl ?_
  refine zr_run [(.iconst 0, 0, 0, 0, .int (0 : Int32))] [] (WW' := [w_Mo G a0 y2]) (lv' := [some (.ref (a0 0)), none]) (pc' := 26) (st' := [.int (0 : Int32)]) (by decide +kernel) rfl rfl ⟨trivial, trivial⟩ ?_
  obtain rfl := Option.some.inj hf
  exact zr_zret (by decide) (b0 := fun _ => 0) (by decide +kernel) rfl rfl rfl rfl rfl
set_option maxRecDepth 100000 in
set_option maxHeartbeats 4000000 in
theorem c_X12_bad (l : Launch) (G : zj_G) (a0 : Nat → Nat) (s0 : MoT) (x1 : Int32) (r : Int32 × MoT) (hf : f_X12_bad s0 x1 = some r) : zj_C l G M_X12_bad yX12_bad [w_Mo G a0 s0] [.ref (a0 0), .int x1] (some (.int r.1)) (fun _ => [w_Mo G a0 r.2]) := by
  have key : ∀ W0 : List va_W, zj_J l G M_X12_bad W0 (zj_ret G M_X12_bad W0 (some (.int r.1)) (fun _ => [w_Mo G a0 r.2])) 0 0 [w_Mo G a0 s0] [some (.ref (a0 0)), some (.int x1)] 0 [] := by
    intro W0
    unfold f_X12_bad at hf
    refine zr_run [(.aload_n 0, 0, 0, 0, .null), (.aload_n 0, 0, 0, 0, .null), (.getfield 113, 0, 0, 7, .null), (.iconst 1, 0, 0, 0, .int (1 : Int32))] [] (WW' := [w_Mo G a0 s0]) (lv' := [some (.ref (a0 0)), some (.int x1)]) (pc' := 6) (st' := [.int (1 : Int32), .int (Mo_kind s0), .ref (a0 0)]) (by decide +kernel) rfl rfl ⟨trivial, trivial, ⟨rfl, rfl, zw_6_36⟩, trivial, trivial⟩ ?_
    refine zr_icmp_ne (off := 7) (tgt := 13) (by decide +kernel) (by decide) (fun hc => ?_) (fun hc => ?_)
    · have hf := zift hf hc
      refine zr_run [(.iconst 1, 0, 0, 0, .int (1 : Int32))] [] (WW' := [w_Mo G a0 s0]) (lv' := [some (.ref (a0 0)), some (.int x1)]) (pc' := 10) (st' := [.int (1 : Int32), .ref (a0 0)]) (by decide +kernel) rfl rfl ⟨trivial, trivial⟩ ?_
      refine zr_goto (off := 4) (tgt := 14) (by decide +kernel) (by decide) ?_
      refine zr_run [] [1] (WW' := [w_Mo G a0 s0]) (lv' := [some (.ref (a0 0)), none]) (pc' := 14) (st' := [.int (1 : Int32), .ref (a0 0)]) (by decide +kernel) rfl rfl trivial ?_
      exact t_X12_bad_b14 l G a0 W0 r s0 (1 : Int32) hf
    · have hf := ziff hf hc
      refine zr_run [(.iload_n 1, 0, 0, 0, .null)] [1] (WW' := [w_Mo G a0 s0]) (lv' := [some (.ref (a0 0)), none]) (pc' := 14) (st' := [.int x1, .ref (a0 0)]) (by decide +kernel) rfl rfl ⟨trivial, trivial⟩ ?_
      exact t_X12_bad_b14 l G a0 W0 r s0 x1 hf
  exact zj_entry [some (.ref (a0 0)), some (.int x1)] (by decide +kernel) rfl (by decide) (Nat.le_of_ble_eq_true rfl) rfl rfl (key _)
def M_X12_readNumber : zj_M := (RX12, cX12_readNumber, 3, (some .boolean), { frames := 2, cells := 0, slots := 0, locals := 45 }, false)
theorem nm_X12_readNumber : zj_nm yX12_readNumber 2 := ⟨by decide +kernel, by decide +kernel, by decide +kernel⟩
def f_X12_readNumber  (s0 : MoT) (x1 : Int32) (x2 : Int32) : Option (Int32 × MoT) := (if (Mo_kind s0) = (3 : Int32) then ((f_X12_isIn (Mo_number s0) x1 x2).bind fun q1 => (if q1 = 0 then ((f_X12_bad s0 (2 : Int32)).bind fun q2 => (if zb_bo q2.1 = true then some (q2.1, q2.2) else none)) else (zlet (Mo_s_told s0 (Mo_number s0)) fun y4 => ((f_X12_go y4).bind fun q5 => some ((1 : Int32), q5))))) else ((f_X12_bad s0 (1 : Int32)).bind fun q6 => (if zb_bo q6.1 = true then some (q6.1, q6.2) else none)))
set_option maxRecDepth 100000 in
set_option maxHeartbeats 4000000 in
theorem c_X12_readNumber (l : Launch) (G : zj_G) (a0 : Nat → Nat) (s0 : MoT) (x1 : Int32) (x2 : Int32) (r : Int32 × MoT) (hf : f_X12_readNumber s0 x1 x2 = some r) : zj_C l G M_X12_readNumber yX12_readNumber [w_Mo G a0 s0] [.ref (a0 0), .int x1, .int x2] (some (.int r.1)) (fun _ => [w_Mo G a0 r.2]) := by
  have key : ∀ W0 : List va_W, zj_J l G M_X12_readNumber W0 (zj_ret G M_X12_readNumber W0 (some (.int r.1)) (fun _ => [w_Mo G a0 r.2])) 0 0 [w_Mo G a0 s0] [some (.ref (a0 0)), some (.int x1), some (.int x2)] 0 [] := by
    intro W0
    unfold f_X12_readNumber at hf
    refine zr_run [(.aload_n 0, 0, 0, 0, .null), (.getfield 113, 0, 0, 7, .null), (.iconst 3, 0, 0, 0, .int (3 : Int32))] [] (WW' := [w_Mo G a0 s0]) (lv' := [some (.ref (a0 0)), some (.int x1), some (.int x2)]) (pc' := 5) (st' := [.int (3 : Int32), .int (Mo_kind s0)]) (by decide +kernel) rfl rfl ⟨trivial, ⟨rfl, rfl, zw_6_36⟩, trivial, trivial⟩ ?_
    refine zr_icmp_eq (off := 9) (tgt := 14) (by decide +kernel) (by decide) (fun hc => ?_) (fun hc => ?_)
    · have hf := zift hf hc
      obtain ⟨q1, e1, hf⟩ := zbi_of hf
      refine zr_run [(.aload_n 0, 0, 0, 0, .null), (.getfield 130, 0, 0, 8, .null), (.iload_n 1, 0, 0, 0, .null), (.iload_n 2, 0, 0, 0, .null)] [] (WW' := [w_Mo G a0 s0]) (lv' := [some (.ref (a0 0)), some (.int x1), some (.int x2)]) (pc' := 20) (st' := [.int x2, .int x1, .int (Mo_number s0)]) (by decide +kernel) rfl rfl ⟨trivial, ⟨rfl, rfl, zw_6_37⟩, trivial, trivial, trivial⟩ ?_
      refine zr_callS (c_X12_isIn l G (Mo_number s0) x1 x2 q1 e1) (WW' := fun _ => [w_Mo G a0 s0]) (st := []) (st' := [.int q1]) [] rfl rfl (fun _ => Nat.le_of_ble_eq_true rfl) (fun _ => rfl) rfl rfl nm_X12_isIn zw_7_38 zw_7_39 zw_1_18 zw_7_40 rfl (Nat.le_of_ble_eq_true rfl) ⟨Nat.le_of_ble_eq_true rfl, Nat.le_of_ble_eq_true rfl⟩ (by decide +kernel) (fun _ => ?_)
      refine zr_if_ne (off := 9) (tgt := 32) (by decide +kernel) (by decide) (fun hc => ?_) (fun hc => ?_)
      · have hf := zift hf hc
        obtain ⟨q2, e2, hf⟩ := zbi_of hf
        refine zr_run [(.aload_n 0, 0, 0, 0, .null), (.iconst 2, 0, 0, 0, .int (2 : Int32))] [] (WW' := [w_Mo G a0 s0]) (lv' := [some (.ref (a0 0)), some (.int x1), some (.int x2)]) (pc' := 28) (st' := [.int (2 : Int32), .ref (a0 0)]) (by decide +kernel) rfl rfl ⟨trivial, trivial, trivial⟩ ?_
        refine zr_callV (c_X12_bad l G a0 s0 (2 : Int32) q2 e2) (WW' := fun _ => [w_Mo G a0 q2.2]) (st := []) (st' := [.int q2.1]) [0] rfl rfl (fun _ => Nat.le_of_ble_eq_true rfl) (fun _ => rfl) rfl rfl nm_X12_bad zw_7_19 zw_7_21 zw_0_56 zw_1_18 zw_7_22 rfl rfl rfl (Nat.le_of_ble_eq_true rfl) ⟨Nat.le_of_ble_eq_true rfl, Nat.le_of_ble_eq_true rfl⟩ (by decide +kernel) (fun _ => ?_)
        obtain ⟨h3, hf⟩ := zck_of hf
        obtain rfl := Option.some.inj hf
        exact zr_zret h3 (b0 := fun _ => 0) (by decide +kernel) rfl rfl rfl rfl rfl
      · have hf := ziff hf hc
        obtain ⟨y4, e4, hf⟩ := zlet_of hf
        refine zr_run [(.aload_n 0, 0, 0, 0, .null), (.aload_n 0, 0, 0, 0, .null), (.getfield 130, 0, 0, 8, .null), (.putfield 162, 0, 0, 13, .null)] [] (WW' := [w_Mo G a0 (Mo_s_told s0 (Mo_number s0))]) (lv' := [some (.ref (a0 0)), some (.int x1), some (.int x2)]) (pc' := 40) (st' := []) (by decide +kernel) rfl rfl ⟨trivial, trivial, ⟨rfl, rfl, zw_6_37⟩, ⟨rfl, rfl, rfl, trivial, rfl, rfl, zw_6_42⟩, trivial⟩ ?_
        refine zr_eq (WW2 := [w_Mo G a0 y4]) (lv2 := [some (.ref (a0 0)), some (.int x1), some (.int x2)]) (st2 := []) (by rw [e4]) rfl rfl ?_
        obtain ⟨q5, e5, hf⟩ := zbi_of hf
        refine zr_run [(.aload_n 0, 0, 0, 0, .null)] [] (WW' := [w_Mo G a0 y4]) (lv' := [some (.ref (a0 0)), some (.int x1), some (.int x2)]) (pc' := 41) (st' := [.ref (a0 0)]) (by decide +kernel) rfl rfl ⟨trivial, trivial⟩ ?_
        refine zr_callV (c_X12_go l G a0 y4 q5 e5) (WW' := fun _ => [w_Mo G a0 q5]) (st := []) (st' := []) [0] rfl rfl (fun _ => Nat.le_of_ble_eq_true rfl) (fun _ => rfl) rfl rfl nm_X12_go zw_6_221 zw_6_223 zw_0_50 zw_1_18 zw_6_224 rfl rfl rfl (Nat.le_of_ble_eq_true rfl) ⟨Nat.le_of_ble_eq_true rfl, Nat.le_of_ble_eq_true rfl⟩ (by decide +kernel) (fun _ => ?_)
        refine zr_run [(.iconst 1, 0, 0, 0, .int (1 : Int32))] [] (WW' := [w_Mo G a0 q5]) (lv' := [some (.ref (a0 0)), some (.int x1), some (.int x2)]) (pc' := 45) (st' := [.int (1 : Int32)]) (by decide +kernel) rfl rfl ⟨trivial, trivial⟩ ?_
        obtain rfl := Option.some.inj hf
        exact zr_zret (by decide) (b0 := fun _ => 0) (by decide +kernel) rfl rfl rfl rfl rfl
    · have hf := ziff hf hc
      obtain ⟨q6, e6, hf⟩ := zbi_of hf
      refine zr_run [(.aload_n 0, 0, 0, 0, .null), (.iconst 1, 0, 0, 0, .int (1 : Int32))] [] (WW' := [w_Mo G a0 s0]) (lv' := [some (.ref (a0 0)), some (.int x1), some (.int x2)]) (pc' := 10) (st' := [.int (1 : Int32), .ref (a0 0)]) (by decide +kernel) rfl rfl ⟨trivial, trivial, trivial⟩ ?_
      refine zr_callV (c_X12_bad l G a0 s0 (1 : Int32) q6 e6) (WW' := fun _ => [w_Mo G a0 q6.2]) (st := []) (st' := [.int q6.1]) [0] rfl rfl (fun _ => Nat.le_of_ble_eq_true rfl) (fun _ => rfl) rfl rfl nm_X12_bad zw_7_19 zw_7_21 zw_0_56 zw_1_18 zw_7_22 rfl rfl rfl (Nat.le_of_ble_eq_true rfl) ⟨Nat.le_of_ble_eq_true rfl, Nat.le_of_ble_eq_true rfl⟩ (by decide +kernel) (fun _ => ?_)
      obtain ⟨h7, hf⟩ := zck_of hf
      obtain rfl := Option.some.inj hf
      exact zr_zret h7 (b0 := fun _ => 0) (by decide +kernel) rfl rfl rfl rfl rfl
  exact zj_entry [some (.ref (a0 0)), some (.int x1), some (.int x2)] (by decide +kernel) rfl (by decide) (Nat.le_of_ble_eq_true rfl) rfl rfl (key _)
def M_X12_readEnd : zj_M := (RX12, cX12_readEnd, 1, (some .boolean), { frames := 2, cells := 0, slots := 0, locals := 45 }, false)
theorem nm_X12_readEnd : zj_nm yX12_readEnd 0 := ⟨by decide +kernel, by decide +kernel, by decide +kernel⟩
def f_X12_readEnd  (s0 : MoT)  : Option (Int32 × MoT) := ((f_X12_isSign s0 (59 : Int32)).bind fun q1 => (if q1 = 0 then ((f_X12_bad s0 (1 : Int32)).bind fun q2 => (if zb_bo q2.1 = true then some (q2.1, q2.2) else none)) else ((f_X12_go s0).bind fun q4 => some ((1 : Int32), q4))))
set_option maxRecDepth 100000 in
set_option maxHeartbeats 4000000 in
theorem c_X12_readEnd (l : Launch) (G : zj_G) (a0 : Nat → Nat) (s0 : MoT)  (r : Int32 × MoT) (hf : f_X12_readEnd s0 = some r) : zj_C l G M_X12_readEnd yX12_readEnd [w_Mo G a0 s0] [.ref (a0 0)] (some (.int r.1)) (fun _ => [w_Mo G a0 r.2]) := by
  have key : ∀ W0 : List va_W, zj_J l G M_X12_readEnd W0 (zj_ret G M_X12_readEnd W0 (some (.int r.1)) (fun _ => [w_Mo G a0 r.2])) 0 0 [w_Mo G a0 s0] [some (.ref (a0 0))] 0 [] := by
    intro W0
    unfold f_X12_readEnd at hf
    obtain ⟨q1, e1, hf⟩ := zbi_of hf
    refine zr_run [(.aload_n 0, 0, 0, 0, .null), (.bipush 59, 0, 0, 0, .int (59 : Int32))] [] (WW' := [w_Mo G a0 s0]) (lv' := [some (.ref (a0 0))]) (pc' := 3) (st' := [.int (59 : Int32), .ref (a0 0)]) (by decide +kernel) rfl rfl ⟨trivial, trivial, trivial⟩ ?_
    refine zr_callV (c_X12_isSign l G a0 s0 (59 : Int32) q1 e1) (WW' := fun _ => [w_Mo G a0 s0]) (st := []) (st' := [.int q1]) [0] rfl rfl (fun _ => Nat.le_of_ble_eq_true rfl) (fun _ => rfl) rfl rfl nm_X12_isSign zw_7_68 zw_7_70 zw_0_66 zw_1_18 zw_7_71 rfl rfl rfl (Nat.le_of_ble_eq_true rfl) ⟨Nat.le_of_ble_eq_true rfl, Nat.le_of_ble_eq_true rfl⟩ (by decide +kernel) (fun _ => ?_)
    refine zr_if_ne (off := 9) (tgt := 15) (by decide +kernel) (by decide) (fun hc => ?_) (fun hc => ?_)
    · have hf := zift hf hc
      obtain ⟨q2, e2, hf⟩ := zbi_of hf
      refine zr_run [(.aload_n 0, 0, 0, 0, .null), (.iconst 1, 0, 0, 0, .int (1 : Int32))] [] (WW' := [w_Mo G a0 s0]) (lv' := [some (.ref (a0 0))]) (pc' := 11) (st' := [.int (1 : Int32), .ref (a0 0)]) (by decide +kernel) rfl rfl ⟨trivial, trivial, trivial⟩ ?_
      refine zr_callV (c_X12_bad l G a0 s0 (1 : Int32) q2 e2) (WW' := fun _ => [w_Mo G a0 q2.2]) (st := []) (st' := [.int q2.1]) [0] rfl rfl (fun _ => Nat.le_of_ble_eq_true rfl) (fun _ => rfl) rfl rfl nm_X12_bad zw_7_19 zw_7_21 zw_0_56 zw_1_18 zw_7_22 rfl rfl rfl (Nat.le_of_ble_eq_true rfl) ⟨Nat.le_of_ble_eq_true rfl, Nat.le_of_ble_eq_true rfl⟩ (by decide +kernel) (fun _ => ?_)
      obtain ⟨h3, hf⟩ := zck_of hf
      obtain rfl := Option.some.inj hf
      exact zr_zret h3 (b0 := fun _ => 0) (by decide +kernel) rfl rfl rfl rfl rfl
    · have hf := ziff hf hc
      obtain ⟨q4, e4, hf⟩ := zbi_of hf
      refine zr_run [(.aload_n 0, 0, 0, 0, .null)] [] (WW' := [w_Mo G a0 s0]) (lv' := [some (.ref (a0 0))]) (pc' := 16) (st' := [.ref (a0 0)]) (by decide +kernel) rfl rfl ⟨trivial, trivial⟩ ?_
      refine zr_callV (c_X12_go l G a0 s0 q4 e4) (WW' := fun _ => [w_Mo G a0 q4]) (st := []) (st' := []) [0] rfl rfl (fun _ => Nat.le_of_ble_eq_true rfl) (fun _ => rfl) rfl rfl nm_X12_go zw_6_221 zw_6_223 zw_0_50 zw_1_18 zw_6_224 rfl rfl rfl (Nat.le_of_ble_eq_true rfl) ⟨Nat.le_of_ble_eq_true rfl, Nat.le_of_ble_eq_true rfl⟩ (by decide +kernel) (fun _ => ?_)
      refine zr_run [(.iconst 1, 0, 0, 0, .int (1 : Int32))] [] (WW' := [w_Mo G a0 q4]) (lv' := [some (.ref (a0 0))]) (pc' := 20) (st' := [.int (1 : Int32)]) (by decide +kernel) rfl rfl ⟨trivial, trivial⟩ ?_
      obtain rfl := Option.some.inj hf
      exact zr_zret (by decide) (b0 := fun _ => 0) (by decide +kernel) rfl rfl rfl rfl rfl
  exact zj_entry [some (.ref (a0 0))] (by decide +kernel) rfl (by decide) (Nat.le_of_ble_eq_true rfl) rfl rfl (key _)
def M_X12_begin : zj_M := (RX12, cX12_begin, 2, none, { frames := 2, cells := 0, slots := 0, locals := 45 }, false)
theorem nm_X12_begin : zj_nm yX12_begin 1 := ⟨by decide +kernel, by decide +kernel, by decide +kernel⟩
def f_X12_begin  (s0 : MoT) (x1 : Int32) : Option (MoT) := (zlet (Mo_s_thrown s0 (0 : Int32)) fun y1 => ((f_X12_take y1).bind fun q2 => (zlet (Mo_s_size q2.2 q2.1) fun y3 => (zlet (Mo_s_limit y3 x1) fun y4 => (zlet (Mo_s_fault y4 (0 : Int32)) fun y5 => (zlet (Mo_s_to y5 (0 : Int32)) fun y6 => ((f_X12_go y6).bind fun q7 => some q7)))))))
set_option maxRecDepth 100000 in
set_option maxHeartbeats 4000000 in
theorem c_X12_begin (l : Launch) (G : zj_G) (a0 : Nat → Nat) (s0 : MoT) (x1 : Int32) (r : MoT) (hf : f_X12_begin s0 x1 = some r) : zj_C l G M_X12_begin yX12_begin [w_Mo G a0 s0] [.ref (a0 0), .int x1] (none) (fun _ => [w_Mo G a0 r]) := by
  have key : ∀ W0 : List va_W, zj_J l G M_X12_begin W0 (zj_ret G M_X12_begin W0 (none) (fun _ => [w_Mo G a0 r])) 0 0 [w_Mo G a0 s0] [some (.ref (a0 0)), some (.int x1)] 0 [] := by
    intro W0
    unfold f_X12_begin at hf
    obtain ⟨y1, e1, hf⟩ := zlet_of hf
    refine zr_run [(.aload_n 0, 0, 0, 0, .null), (.iconst 0, 0, 0, 0, .int (0 : Int32)), (.putfield 91, 0, 0, 0, .null)] [] (WW' := [w_Mo G a0 (Mo_s_thrown s0 (0 : Int32))]) (lv' := [some (.ref (a0 0)), some (.int x1)]) (pc' := 5) (st' := []) (by decide +kernel) rfl rfl ⟨trivial, trivial, ⟨rfl, rfl, rfl, trivial, rfl, rfl, zw_6_29⟩, trivial⟩ ?_
    refine zr_eq (WW2 := [w_Mo G a0 y1]) (lv2 := [some (.ref (a0 0)), some (.int x1)]) (st2 := []) (by rw [e1]) rfl rfl ?_
    obtain ⟨q2, e2, hf⟩ := zbi_of hf
    refine zr_run [(.aload_n 0, 0, 0, 0, .null), (.aload_n 0, 0, 0, 0, .null)] [] (WW' := [w_Mo G a0 y1]) (lv' := [some (.ref (a0 0)), some (.int x1)]) (pc' := 7) (st' := [.ref (a0 0), .ref (a0 0)]) (by decide +kernel) rfl rfl ⟨trivial, trivial, trivial⟩ ?_
    refine zr_callV (c_X12_take l G a0 y1 q2 e2) (WW' := fun _ => [w_Mo G a0 q2.2]) (st := [.ref (a0 0)]) (st' := [.int q2.1, .ref (a0 0)]) [0] rfl rfl (fun _ => Nat.le_of_ble_eq_true rfl) (fun _ => rfl) rfl rfl nm_X12_take zw_6_217 zw_6_219 zw_0_49 zw_1_18 zw_6_220 rfl rfl rfl (Nat.le_of_ble_eq_true rfl) ⟨Nat.le_of_ble_eq_true rfl, Nat.le_of_ble_eq_true rfl⟩ (by decide +kernel) (fun _ => ?_)
    obtain ⟨y3, e3, hf⟩ := zlet_of hf
    refine zr_run [(.putfield 101, 0, 0, 3, .null)] [] (WW' := [w_Mo G a0 (Mo_s_size q2.2 q2.1)]) (lv' := [some (.ref (a0 0)), some (.int x1)]) (pc' := 13) (st' := []) (by decide +kernel) rfl rfl ⟨⟨rfl, rfl, rfl, trivial, rfl, rfl, zw_6_32⟩, trivial⟩ ?_
    refine zr_eq (WW2 := [w_Mo G a0 y3]) (lv2 := [some (.ref (a0 0)), some (.int x1)]) (st2 := []) (by rw [e3]) rfl rfl ?_
    obtain ⟨y4, e4, hf⟩ := zlet_of hf
    refine zr_run [(.aload_n 0, 0, 0, 0, .null), (.iload_n 1, 0, 0, 0, .null), (.putfield 110, 0, 0, 4, .null)] [] (WW' := [w_Mo G a0 (Mo_s_limit y3 x1)]) (lv' := [some (.ref (a0 0)), some (.int x1)]) (pc' := 18) (st' := []) (by decide +kernel) rfl rfl ⟨trivial, trivial, ⟨rfl, rfl, rfl, trivial, rfl, rfl, zw_6_33⟩, trivial⟩ ?_
    refine zr_eq (WW2 := [w_Mo G a0 y4]) (lv2 := [some (.ref (a0 0)), some (.int x1)]) (st2 := []) (by rw [e4]) rfl rfl ?_
    obtain ⟨y5, e5, hf⟩ := zlet_of hf
    refine zr_run [(.aload_n 0, 0, 0, 0, .null), (.iconst 0, 0, 0, 0, .int (0 : Int32)), (.putfield 149, 0, 0, 10, .null)] [] (WW' := [w_Mo G a0 (Mo_s_fault y4 (0 : Int32))]) (lv' := [some (.ref (a0 0)), some (.int x1)]) (pc' := 23) (st' := []) (by decide +kernel) rfl rfl ⟨trivial, trivial, ⟨rfl, rfl, rfl, trivial, rfl, rfl, zw_6_39⟩, trivial⟩ ?_
    refine zr_eq (WW2 := [w_Mo G a0 y5]) (lv2 := [some (.ref (a0 0)), some (.int x1)]) (st2 := []) (by rw [e5]) rfl rfl ?_
    obtain ⟨y6, e6, hf⟩ := zlet_of hf
    refine zr_run [(.aload_n 0, 0, 0, 0, .null), (.iconst 0, 0, 0, 0, .int (0 : Int32)), (.putfield 104, 0, 0, 5, .null)] [] (WW' := [w_Mo G a0 (Mo_s_to y5 (0 : Int32))]) (lv' := [some (.ref (a0 0)), some (.int x1)]) (pc' := 28) (st' := []) (by decide +kernel) rfl rfl ⟨trivial, trivial, ⟨rfl, rfl, rfl, trivial, rfl, rfl, zw_6_34⟩, trivial⟩ ?_
    refine zr_eq (WW2 := [w_Mo G a0 y6]) (lv2 := [some (.ref (a0 0)), some (.int x1)]) (st2 := []) (by rw [e6]) rfl rfl ?_
    obtain ⟨q7, e7, hf⟩ := zbi_of hf
    refine zr_run [(.aload_n 0, 0, 0, 0, .null)] [] (WW' := [w_Mo G a0 y6]) (lv' := [some (.ref (a0 0)), some (.int x1)]) (pc' := 29) (st' := [.ref (a0 0)]) (by decide +kernel) rfl rfl ⟨trivial, trivial⟩ ?_
    refine zr_callV (c_X12_go l G a0 y6 q7 e7) (WW' := fun _ => [w_Mo G a0 q7]) (st := []) (st' := []) [0] rfl rfl (fun _ => Nat.le_of_ble_eq_true rfl) (fun _ => rfl) rfl rfl nm_X12_go zw_6_221 zw_6_223 zw_0_50 zw_1_18 zw_6_224 rfl rfl rfl (Nat.le_of_ble_eq_true rfl) ⟨Nat.le_of_ble_eq_true rfl, Nat.le_of_ble_eq_true rfl⟩ (by decide +kernel) (fun _ => ?_)
    obtain rfl := Option.some.inj hf
    exact zr_vret (b0 := fun _ => 0) (by decide +kernel) rfl rfl rfl rfl rfl
  exact zj_entry [some (.ref (a0 0)), some (.int x1)] (by decide +kernel) rfl (by decide) (Nat.le_of_ble_eq_true rfl) rfl rfl (key _)
def M_X12_startSo : zj_M := (RX12, cX12_startSo, 2, none, { frames := 0, cells := 0, slots := 0, locals := 0 }, false)
theorem nm_X12_startSo : zj_nm yX12_startSo 0 := ⟨by decide +kernel, by decide +kernel, by decide +kernel⟩
def f_X12_startSo_H26  (s0 : MoT) (k26 : MoT → Int32 → Option (MoT)) (x1 : Int32) : Option (MoT) := (if x1 < (6 : Int32) then (if zb_in ((236 : Int32) + x1) 758 = true then (if zb_in ((450 : Int32) + x1) 758 = true then (zlet (Mo_s_now s0 ((upd (Mo_now s0) ((450 : Int32) + x1).toNatClampNeg ((Mo_now s0) ((236 : Int32) + x1).toNatClampNeg)))) fun y5 => (if zb_in ((462 : Int32) + x1) 758 = true then (zlet (Mo_s_now y5 ((upd (Mo_now y5) ((462 : Int32) + x1).toNatClampNeg (-1 : Int32)))) fun y7 => (if zb_in ((224 : Int32) + x1) 758 = true then (if zb_in ((468 : Int32) + x1) 758 = true then (zlet (Mo_s_now y7 ((upd (Mo_now y7) ((468 : Int32) + x1).toNatClampNeg ((Mo_now y7) ((224 : Int32) + x1).toNatClampNeg)))) fun y10 => (if zb_in ((230 : Int32) + x1) 758 = true then (if zb_in ((492 : Int32) + x1) 758 = true then (zlet (Mo_s_now y10 ((upd (Mo_now y10) ((492 : Int32) + x1).toNatClampNeg ((Mo_now y10) ((230 : Int32) + x1).toNatClampNeg)))) fun y13 => k26 y13 (x1 + (1 : Int32))) else none) else none)) else none) else none)) else none)) else none) else none) else some s0)
def f_X12_startSo_L26    : Nat → MoT → Int32 → Option (MoT)
  | 0 => fun _ _ => none
  | n + 1 => fun s0 x1 => f_X12_startSo_H26 s0 (f_X12_startSo_L26  n) x1
def f_X12_startSo_H4  (s0 : MoT) (k4 : MoT → Int32 → Option (MoT)) (x1 : Int32) : Option (MoT) := (if x1 < (758 : Int32) then (if zb_in x1 758 = true then (zlet (Mo_s_now s0 ((upd (Mo_now s0) x1.toNatClampNeg (0 : Int32)))) fun y2 => k4 y2 (x1 + (1 : Int32))) else none) else f_X12_startSo_L26 zFU s0 (0 : Int32))
def f_X12_startSo_L4    : Nat → MoT → Int32 → Option (MoT)
  | 0 => fun _ _ => none
  | n + 1 => fun s0 x1 => f_X12_startSo_H4 s0 (f_X12_startSo_L4  n) x1
def f_X12_startSo  (s0 : MoT)  : Option (MoT) := f_X12_startSo_L4 zFU s0 (443 : Int32)
set_option maxRecDepth 100000 in
set_option maxHeartbeats 4000000 in
theorem t_X12_startSo_H26 (l : Launch) (G : zj_G) (a0 : Nat → Nat) (W0 : List va_W) (r : MoT) (s0 : MoT) (k26 : MoT → Int32 → Option (MoT)) (hk26 : ∀ (s0 : MoT) (x1 : Int32), k26 s0 x1 = some r → zj_J l G M_X12_startSo W0 (zj_ret G M_X12_startSo W0 (none) (fun _ => [w_Mo G a0 r])) 0 0 [w_Mo G a0 s0] [some (.ref (a0 0)), some (.int x1)] 26 []) (x1 : Int32) (hf : f_X12_startSo_H26 s0 k26 x1 = some r) : zj_J l G M_X12_startSo W0 (zj_ret G M_X12_startSo W0 (none) (fun _ => [w_Mo G a0 r])) 0 0 [w_Mo G a0 s0] [some (.ref (a0 0)), some (.int x1)] 26 [] := by
  unfold f_X12_startSo_H26 at hf
  refine zr_run [(.iload_n 1, 0, 0, 0, .null), (.bipush 6, 0, 0, 0, .int (6 : Int32))] [] (WW' := [w_Mo G a0 s0]) (lv' := [some (.ref (a0 0)), some (.int x1)]) (pc' := 29) (st' := [.int (6 : Int32), .int x1]) (by decide +kernel) rfl rfl ⟨trivial, trivial, trivial⟩ ?_
  refine zr_icmp_ge (off := 80) (tgt := 109) (by decide +kernel) (by decide) (fun hc => ?_) (fun hc => ?_)
  · have hf := zift hf hc
    obtain ⟨h3, hf⟩ := zck_of hf
    obtain ⟨h4, hf⟩ := zck_of hf
    obtain ⟨y5, e5, hf⟩ := zlet_of hf
    refine zr_run [(.aload_n 0, 0, 0, 0, .null), (.getfield 13, 0, 0, 14, .null), (.sipush 450, 0, 0, 0, .int (450 : Int32)), (.iload_n 1, 0, 0, 0, .null), (.iadd, 0, 0, 0, .null), (.aload_n 0, 0, 0, 0, .null), (.getfield 13, 0, 0, 14, .null), (.sipush 236, 0, 0, 0, .int (236 : Int32)), (.iload_n 1, 0, 0, 0, .null), (.iadd, 0, 0, 0, .null), (.iaload, 0, 2, 0, .null), (.iastore, 0, 2, 0, .null)] [] (WW' := [w_Mo G a0 (Mo_s_now s0 ((upd (Mo_now s0) ((450 : Int32) + x1).toNatClampNeg ((Mo_now s0) ((236 : Int32) + x1).toNatClampNeg))))]) (lv' := [some (.ref (a0 0)), some (.int x1)]) (pc' := 52) (st' := []) (by decide +kernel) rfl rfl ⟨trivial, ⟨rfl, rfl, zw_6_43⟩, trivial, trivial, trivial, trivial, ⟨rfl, rfl, zw_6_43⟩, trivial, trivial, trivial, ⟨rfl, rfl, h3⟩, ⟨rfl, rfl, h4⟩, trivial⟩ ?_
    refine zr_eq (WW2 := [w_Mo G a0 y5]) (lv2 := [some (.ref (a0 0)), some (.int x1)]) (st2 := []) (by rw [e5]) rfl rfl ?_
    obtain ⟨h6, hf⟩ := zck_of hf
    obtain ⟨y7, e7, hf⟩ := zlet_of hf
    refine zr_run [(.aload_n 0, 0, 0, 0, .null), (.getfield 13, 0, 0, 14, .null), (.sipush 462, 0, 0, 0, .int (462 : Int32)), (.iload_n 1, 0, 0, 0, .null), (.iadd, 0, 0, 0, .null), (.iconst (-1), 0, 0, 0, .int (-1 : Int32)), (.iastore, 0, 2, 0, .null)] [] (WW' := [w_Mo G a0 (Mo_s_now y5 ((upd (Mo_now y5) ((462 : Int32) + x1).toNatClampNeg (-1 : Int32))))]) (lv' := [some (.ref (a0 0)), some (.int x1)]) (pc' := 63) (st' := []) (by decide +kernel) rfl rfl ⟨trivial, ⟨rfl, rfl, zw_6_43⟩, trivial, trivial, trivial, trivial, ⟨rfl, rfl, h6⟩, trivial⟩ ?_
    refine zr_eq (WW2 := [w_Mo G a0 y7]) (lv2 := [some (.ref (a0 0)), some (.int x1)]) (st2 := []) (by rw [e7]) rfl rfl ?_
    obtain ⟨h8, hf⟩ := zck_of hf
    obtain ⟨h9, hf⟩ := zck_of hf
    obtain ⟨y10, e10, hf⟩ := zlet_of hf
    refine zr_run [(.aload_n 0, 0, 0, 0, .null), (.getfield 13, 0, 0, 14, .null), (.sipush 468, 0, 0, 0, .int (468 : Int32)), (.iload_n 1, 0, 0, 0, .null), (.iadd, 0, 0, 0, .null), (.aload_n 0, 0, 0, 0, .null), (.getfield 13, 0, 0, 14, .null), (.sipush 224, 0, 0, 0, .int (224 : Int32)), (.iload_n 1, 0, 0, 0, .null), (.iadd, 0, 0, 0, .null), (.iaload, 0, 2, 0, .null), (.iastore, 0, 2, 0, .null)] [] (WW' := [w_Mo G a0 (Mo_s_now y7 ((upd (Mo_now y7) ((468 : Int32) + x1).toNatClampNeg ((Mo_now y7) ((224 : Int32) + x1).toNatClampNeg))))]) (lv' := [some (.ref (a0 0)), some (.int x1)]) (pc' := 83) (st' := []) (by decide +kernel) rfl rfl ⟨trivial, ⟨rfl, rfl, zw_6_43⟩, trivial, trivial, trivial, trivial, ⟨rfl, rfl, zw_6_43⟩, trivial, trivial, trivial, ⟨rfl, rfl, h8⟩, ⟨rfl, rfl, h9⟩, trivial⟩ ?_
    refine zr_eq (WW2 := [w_Mo G a0 y10]) (lv2 := [some (.ref (a0 0)), some (.int x1)]) (st2 := []) (by rw [e10]) rfl rfl ?_
    obtain ⟨h11, hf⟩ := zck_of hf
    obtain ⟨h12, hf⟩ := zck_of hf
    obtain ⟨y13, e13, hf⟩ := zlet_of hf
    refine zr_run [(.aload_n 0, 0, 0, 0, .null), (.getfield 13, 0, 0, 14, .null), (.sipush 492, 0, 0, 0, .int (492 : Int32)), (.iload_n 1, 0, 0, 0, .null), (.iadd, 0, 0, 0, .null), (.aload_n 0, 0, 0, 0, .null), (.getfield 13, 0, 0, 14, .null), (.sipush 230, 0, 0, 0, .int (230 : Int32)), (.iload_n 1, 0, 0, 0, .null), (.iadd, 0, 0, 0, .null), (.iaload, 0, 2, 0, .null), (.iastore, 0, 2, 0, .null)] [] (WW' := [w_Mo G a0 (Mo_s_now y10 ((upd (Mo_now y10) ((492 : Int32) + x1).toNatClampNeg ((Mo_now y10) ((230 : Int32) + x1).toNatClampNeg))))]) (lv' := [some (.ref (a0 0)), some (.int x1)]) (pc' := 103) (st' := []) (by decide +kernel) rfl rfl ⟨trivial, ⟨rfl, rfl, zw_6_43⟩, trivial, trivial, trivial, trivial, ⟨rfl, rfl, zw_6_43⟩, trivial, trivial, trivial, ⟨rfl, rfl, h11⟩, ⟨rfl, rfl, h12⟩, trivial⟩ ?_
    refine zr_eq (WW2 := [w_Mo G a0 y13]) (lv2 := [some (.ref (a0 0)), some (.int x1)]) (st2 := []) (by rw [e13]) rfl rfl ?_
    refine zr_run [(.iinc 1 1, 0, 0, 0, .int (1 : Int32))] [] (WW' := [w_Mo G a0 y13]) (lv' := [some (.ref (a0 0)), some (.int (x1 + (1 : Int32)))]) (pc' := 106) (st' := []) (by decide +kernel) rfl rfl ⟨trivial, trivial⟩ ?_
    refine zr_goto (off := -80) (tgt := 26) (by decide +kernel) (by decide) ?_
    exact hk26 y13 (x1 + (1 : Int32)) hf
  · have hf := ziff hf hc
    obtain rfl := Option.some.inj hf
    exact zr_vret (b0 := fun _ => 0) (by decide +kernel) rfl rfl rfl rfl rfl
theorem t_X12_startSo_L26 (l : Launch) (G : zj_G) (a0 : Nat → Nat) (W0 : List va_W) (r : MoT)    : ∀ (n : Nat) (s0 : MoT) (x1 : Int32), f_X12_startSo_L26 n s0 x1 = some r → zj_J l G M_X12_startSo W0 (zj_ret G M_X12_startSo W0 (none) (fun _ => [w_Mo G a0 r])) 0 0 [w_Mo G a0 s0] [some (.ref (a0 0)), some (.int x1)] 26 [] := by
  intro n
  induction n with
  | zero => intro s0 x1 hf; exact nomatch (show none = some r from hf)
  | succ n ih => intro s0 x1 hf; exact t_X12_startSo_H26 l G a0 W0 r s0  (f_X12_startSo_L26 n)  ih x1  hf
set_option maxRecDepth 100000 in
set_option maxHeartbeats 4000000 in
theorem t_X12_startSo_H4 (l : Launch) (G : zj_G) (a0 : Nat → Nat) (W0 : List va_W) (r : MoT) (s0 : MoT) (k4 : MoT → Int32 → Option (MoT)) (hk4 : ∀ (s0 : MoT) (x1 : Int32), k4 s0 x1 = some r → zj_J l G M_X12_startSo W0 (zj_ret G M_X12_startSo W0 (none) (fun _ => [w_Mo G a0 r])) 0 0 [w_Mo G a0 s0] [some (.ref (a0 0)), some (.int x1)] 4 []) (x1 : Int32) (hf : f_X12_startSo_H4 s0 k4 x1 = some r) : zj_J l G M_X12_startSo W0 (zj_ret G M_X12_startSo W0 (none) (fun _ => [w_Mo G a0 r])) 0 0 [w_Mo G a0 s0] [some (.ref (a0 0)), some (.int x1)] 4 [] := by
  unfold f_X12_startSo_H4 at hf
  refine zr_run [(.iload_n 1, 0, 0, 0, .null), (.sipush 758, 0, 0, 0, .int (758 : Int32))] [] (WW' := [w_Mo G a0 s0]) (lv' := [some (.ref (a0 0)), some (.int x1)]) (pc' := 8) (st' := [.int (758 : Int32), .int x1]) (by decide +kernel) rfl rfl ⟨trivial, trivial, trivial⟩ ?_
  refine zr_icmp_ge (off := 16) (tgt := 24) (by decide +kernel) (by decide) (fun hc => ?_) (fun hc => ?_)
  · have hf := zift hf hc
    obtain ⟨h1, hf⟩ := zck_of hf
    obtain ⟨y2, e2, hf⟩ := zlet_of hf
    refine zr_run [(.aload_n 0, 0, 0, 0, .null), (.getfield 13, 0, 0, 14, .null), (.iload_n 1, 0, 0, 0, .null), (.iconst 0, 0, 0, 0, .int (0 : Int32)), (.iastore, 0, 2, 0, .null)] [] (WW' := [w_Mo G a0 (Mo_s_now s0 ((upd (Mo_now s0) x1.toNatClampNeg (0 : Int32))))]) (lv' := [some (.ref (a0 0)), some (.int x1)]) (pc' := 18) (st' := []) (by decide +kernel) rfl rfl ⟨trivial, ⟨rfl, rfl, zw_6_43⟩, trivial, trivial, ⟨rfl, rfl, h1⟩, trivial⟩ ?_
    refine zr_eq (WW2 := [w_Mo G a0 y2]) (lv2 := [some (.ref (a0 0)), some (.int x1)]) (st2 := []) (by rw [e2]) rfl rfl ?_
    refine zr_run [(.iinc 1 1, 0, 0, 0, .int (1 : Int32))] [] (WW' := [w_Mo G a0 y2]) (lv' := [some (.ref (a0 0)), some (.int (x1 + (1 : Int32)))]) (pc' := 21) (st' := []) (by decide +kernel) rfl rfl ⟨trivial, trivial⟩ ?_
    refine zr_goto (off := -17) (tgt := 4) (by decide +kernel) (by decide) ?_
    exact hk4 y2 (x1 + (1 : Int32)) hf
  · have hf := ziff hf hc
    refine zr_run [(.iconst 0, 0, 0, 0, .int (0 : Int32)), (.istore_n 1, 0, 0, 0, .null)] [] (WW' := [w_Mo G a0 s0]) (lv' := [some (.ref (a0 0)), some (.int (0 : Int32))]) (pc' := 26) (st' := []) (by decide +kernel) rfl rfl ⟨trivial, trivial, trivial⟩ ?_
    exact t_X12_startSo_L26 l G a0 W0 r zFU s0 (0 : Int32) hf
theorem t_X12_startSo_L4 (l : Launch) (G : zj_G) (a0 : Nat → Nat) (W0 : List va_W) (r : MoT)    : ∀ (n : Nat) (s0 : MoT) (x1 : Int32), f_X12_startSo_L4 n s0 x1 = some r → zj_J l G M_X12_startSo W0 (zj_ret G M_X12_startSo W0 (none) (fun _ => [w_Mo G a0 r])) 0 0 [w_Mo G a0 s0] [some (.ref (a0 0)), some (.int x1)] 4 [] := by
  intro n
  induction n with
  | zero => intro s0 x1 hf; exact nomatch (show none = some r from hf)
  | succ n ih => intro s0 x1 hf; exact t_X12_startSo_H4 l G a0 W0 r s0  (f_X12_startSo_L4 n)  ih x1  hf
set_option maxRecDepth 100000 in
set_option maxHeartbeats 4000000 in
theorem c_X12_startSo (l : Launch) (G : zj_G) (a0 : Nat → Nat) (s0 : MoT)  (r : MoT) (hf : f_X12_startSo s0 = some r) : zj_C l G M_X12_startSo yX12_startSo [w_Mo G a0 s0] [.ref (a0 0)] (none) (fun _ => [w_Mo G a0 r]) := by
  have key : ∀ W0 : List va_W, zj_J l G M_X12_startSo W0 (zj_ret G M_X12_startSo W0 (none) (fun _ => [w_Mo G a0 r])) 0 0 [w_Mo G a0 s0] [some (.ref (a0 0)), none] 0 [] := by
    intro W0
    unfold f_X12_startSo at hf
    refine zr_run [(.sipush 443, 0, 0, 0, .int (443 : Int32)), (.istore_n 1, 0, 0, 0, .null)] [] (WW' := [w_Mo G a0 s0]) (lv' := [some (.ref (a0 0)), some (.int (443 : Int32))]) (pc' := 4) (st' := []) (by decide +kernel) rfl rfl ⟨trivial, trivial, trivial⟩ ?_
    exact t_X12_startSo_L4 l G a0 W0 r zFU s0 (443 : Int32) hf
  exact zj_entry [some (.ref (a0 0)), none] (by decide +kernel) rfl (by decide) (Nat.le_of_ble_eq_true rfl) rfl rfl (key _)
def M_X12_findIn : zj_M := (RX12, cX12_findIn, 6, (some .int), { frames := 0, cells := 0, slots := 0, locals := 0 }, false)
theorem nm_X12_findIn : zj_nm yX12_findIn 4 := ⟨by decide +kernel, by decide +kernel, by decide +kernel⟩
def f_X12_findIn_H3 (N0 : Nat) (s0 : (Nat → Int64)) (k3 : Int32 → Int32 → Int64 → Int32 → Option (Int32)) (x1 : Int32) (x2 : Int32) (x3 : Int64) (x5 : Int32) : Option (Int32) := (if x5 < x2 then (if zb_in (x1 + x5) N0 = true then (if (lg_cmp (s0 (x1 + x5).toNatClampNeg) x3) = 0 then some x5 else k3 x1 x2 x3 (x5 + (1 : Int32))) else none) else some (-1 : Int32))
def f_X12_findIn_L3 (N0 : Nat) (s0 : (Nat → Int64))  : Nat → Int32 → Int32 → Int64 → Int32 → Option (Int32)
  | 0 => fun _ _ _ _ => none
  | n + 1 => fun x1 x2 x3 x5 => f_X12_findIn_H3 N0 s0 (f_X12_findIn_L3 N0 s0 n) x1 x2 x3 x5
def f_X12_findIn (N0 : Nat) (s0 : (Nat → Int64)) (x1 : Int32) (x2 : Int32) (x3 : Int64) : Option (Int32) := f_X12_findIn_L3 N0 s0 zFU x1 x2 x3 (0 : Int32)
set_option maxRecDepth 100000 in
set_option maxHeartbeats 4000000 in
theorem t_X12_findIn_H3 (l : Launch) (G : zj_G) (a0 : Nat → Nat) (N0 : Nat) (W0 : List va_W) (r : Int32) (s0 : (Nat → Int64)) (k3 : Int32 → Int32 → Int64 → Int32 → Option (Int32)) (hk3 : ∀ (x1 : Int32) (x2 : Int32) (x3 : Int64) (x5 : Int32), k3 x1 x2 x3 x5 = some r → zj_J l G M_X12_findIn W0 (zj_ret G M_X12_findIn W0 (some (.int r)) (fun _ => [[(a0 0, .inl (G.2.1 2, N0, .inr (.inl (s0))))]])) 0 0 [[(a0 0, .inl (G.2.1 2, N0, .inr (.inl (s0))))]] [some (.ref (a0 0)), some (.int x1), some (.int x2), some (.long x3), none, some (.int x5)] 3 []) (x1 : Int32) (x2 : Int32) (x3 : Int64) (x5 : Int32) (hf : f_X12_findIn_H3 N0 s0 k3 x1 x2 x3 x5 = some r) : zj_J l G M_X12_findIn W0 (zj_ret G M_X12_findIn W0 (some (.int r)) (fun _ => [[(a0 0, .inl (G.2.1 2, N0, .inr (.inl (s0))))]])) 0 0 [[(a0 0, .inl (G.2.1 2, N0, .inr (.inl (s0))))]] [some (.ref (a0 0)), some (.int x1), some (.int x2), some (.long x3), none, some (.int x5)] 3 [] := by
  unfold f_X12_findIn_H3 at hf
  refine zr_run [(.iload 5, 0, 0, 0, .null), (.iload_n 2, 0, 0, 0, .null)] [] (WW' := [[(a0 0, .inl (G.2.1 2, N0, .inr (.inl (s0))))]]) (lv' := [some (.ref (a0 0)), some (.int x1), some (.int x2), some (.long x3), none, some (.int x5)]) (pc' := 6) (st' := [.int x2, .int x5]) (by decide +kernel) rfl rfl ⟨trivial, trivial, trivial⟩ ?_
  refine zr_icmp_ge (off := 23) (tgt := 29) (by decide +kernel) (by decide) (fun hc => ?_) (fun hc => ?_)
  · have hf := zift hf hc
    obtain ⟨h1, hf⟩ := zck_of hf
    refine zr_run [(.aload_n 0, 0, 0, 0, .null), (.iload_n 1, 0, 0, 0, .null), (.iload 5, 0, 0, 0, .null), (.iadd, 0, 0, 0, .null), (.laload, 0, 0, 0, .null), (.lload_n 3, 0, 0, 0, .null), (.lcmp, 0, 0, 0, .null)] [] (WW' := [[(a0 0, .inl (G.2.1 2, N0, .inr (.inl (s0))))]]) (lv' := [some (.ref (a0 0)), some (.int x1), some (.int x2), some (.long x3), none, some (.int x5)]) (pc' := 17) (st' := [.int (lg_cmp (s0 (x1 + x5).toNatClampNeg) x3)]) (by decide +kernel) rfl rfl ⟨trivial, trivial, trivial, trivial, ⟨rfl, rfl, h1⟩, trivial, trivial, trivial⟩ ?_
    refine zr_if_ne (off := 6) (tgt := 23) (by decide +kernel) (by decide) (fun hc => ?_) (fun hc => ?_)
    · have hf := zift hf hc
      refine zr_run [(.iload 5, 0, 0, 0, .null)] [] (WW' := [[(a0 0, .inl (G.2.1 2, N0, .inr (.inl (s0))))]]) (lv' := [some (.ref (a0 0)), some (.int x1), some (.int x2), some (.long x3), none, some (.int x5)]) (pc' := 22) (st' := [.int x5]) (by decide +kernel) rfl rfl ⟨trivial, trivial⟩ ?_
      obtain rfl := Option.some.inj hf
      exact zr_iret (b0 := fun _ => 0) (by decide +kernel) rfl rfl rfl rfl rfl
    · have hf := ziff hf hc
      refine zr_run [(.iinc 5 1, 0, 0, 0, .int (1 : Int32))] [] (WW' := [[(a0 0, .inl (G.2.1 2, N0, .inr (.inl (s0))))]]) (lv' := [some (.ref (a0 0)), some (.int x1), some (.int x2), some (.long x3), none, some (.int (x5 + (1 : Int32)))]) (pc' := 26) (st' := []) (by decide +kernel) rfl rfl ⟨trivial, trivial⟩ ?_
      refine zr_goto (off := -23) (tgt := 3) (by decide +kernel) (by decide) ?_
      exact hk3 x1 x2 x3 (x5 + (1 : Int32)) hf
  · have hf := ziff hf hc
    refine zr_run [(.iconst (-1), 0, 0, 0, .int (-1 : Int32))] [] (WW' := [[(a0 0, .inl (G.2.1 2, N0, .inr (.inl (s0))))]]) (lv' := [some (.ref (a0 0)), some (.int x1), some (.int x2), some (.long x3), none, some (.int x5)]) (pc' := 30) (st' := [.int (-1 : Int32)]) (by decide +kernel) rfl rfl ⟨trivial, trivial⟩ ?_
    obtain rfl := Option.some.inj hf
    exact zr_iret (b0 := fun _ => 0) (by decide +kernel) rfl rfl rfl rfl rfl
theorem t_X12_findIn_L3 (l : Launch) (G : zj_G) (a0 : Nat → Nat) (N0 : Nat) (W0 : List va_W) (r : Int32) (s0 : (Nat → Int64))   : ∀ (n : Nat) (x1 : Int32) (x2 : Int32) (x3 : Int64) (x5 : Int32), f_X12_findIn_L3 N0 s0 n x1 x2 x3 x5 = some r → zj_J l G M_X12_findIn W0 (zj_ret G M_X12_findIn W0 (some (.int r)) (fun _ => [[(a0 0, .inl (G.2.1 2, N0, .inr (.inl (s0))))]])) 0 0 [[(a0 0, .inl (G.2.1 2, N0, .inr (.inl (s0))))]] [some (.ref (a0 0)), some (.int x1), some (.int x2), some (.long x3), none, some (.int x5)] 3 [] := by
  intro n
  induction n with
  | zero => intro x1 x2 x3 x5 hf; exact nomatch (show none = some r from hf)
  | succ n ih => intro x1 x2 x3 x5 hf; exact t_X12_findIn_H3 l G a0 N0 W0 r s0  (f_X12_findIn_L3 N0 s0 n)  ih x1 x2 x3 x5  hf
set_option maxRecDepth 100000 in
set_option maxHeartbeats 4000000 in
theorem c_X12_findIn (l : Launch) (G : zj_G) (a0 : Nat → Nat) (N0 : Nat) (s0 : (Nat → Int64)) (x1 : Int32) (x2 : Int32) (x3 : Int64) (r : Int32) (hf : f_X12_findIn N0 s0 x1 x2 x3 = some r) : zj_C l G M_X12_findIn yX12_findIn [[(a0 0, .inl (G.2.1 2, N0, .inr (.inl (s0))))]] [.ref (a0 0), .int x1, .int x2, .long x3] (some (.int r)) (fun _ => [[(a0 0, .inl (G.2.1 2, N0, .inr (.inl (s0))))]]) := by
  have key : ∀ W0 : List va_W, zj_J l G M_X12_findIn W0 (zj_ret G M_X12_findIn W0 (some (.int r)) (fun _ => [[(a0 0, .inl (G.2.1 2, N0, .inr (.inl (s0))))]])) 0 0 [[(a0 0, .inl (G.2.1 2, N0, .inr (.inl (s0))))]] [some (.ref (a0 0)), some (.int x1), some (.int x2), some (.long x3), none, none] 0 [] := by
    intro W0
    unfold f_X12_findIn at hf
    refine zr_run [(.iconst 0, 0, 0, 0, .int (0 : Int32)), (.istore 5, 0, 0, 0, .null)] [] (WW' := [[(a0 0, .inl (G.2.1 2, N0, .inr (.inl (s0))))]]) (lv' := [some (.ref (a0 0)), some (.int x1), some (.int x2), some (.long x3), none, some (.int (0 : Int32))]) (pc' := 3) (st' := []) (by decide +kernel) rfl rfl ⟨trivial, trivial, trivial⟩ ?_
    exact t_X12_findIn_L3 l G a0 N0 W0 r s0 zFU x1 x2 x3 (0 : Int32) hf
  exact zj_entry [some (.ref (a0 0)), some (.int x1), some (.int x2), some (.long x3), none, none] (by decide +kernel) rfl (by decide) (Nat.le_of_ble_eq_true rfl) rfl rfl (key _)
def M_X12_readNew : zj_M := (RX12, cX12_readNew, 2, (some .boolean), { frames := 3, cells := 0, slots := 0, locals := 68 }, false)
theorem nm_X12_readNew : zj_nm yX12_readNew 1 := ⟨by decide +kernel, by decide +kernel, by decide +kernel⟩
def f_X12_readNew  (s0 : MoT) (x1 : Int32) : Option (Int32 × MoT) := ((f_X12_isName s0).bind fun q1 => (if q1 = 0 then ((f_X12_bad s0 (1 : Int32)).bind fun q2 => (if zb_bo q2.1 = true then some (q2.1, q2.2) else none)) else ((f_X12_findIn 16 (Mo_readName s0) (0 : Int32) ((Mo_read s0) (0 : Int32).toNatClampNeg) (Mo_word s0)).bind fun q4 => (if q4 = (-1 : Int32) then ((f_X12_findIn 16 (Mo_readName s0) (10 : Int32) ((Mo_read s0) (2 : Int32).toNatClampNeg) (Mo_word s0)).bind fun q5 => (if q5 = (-1 : Int32) then (if zb_in x1 16 = true then (zlet (Mo_s_readName s0 ((vp_updL (Mo_readName s0) x1.toNatClampNeg (Mo_word s0)))) fun y7 => ((f_X12_go y7).bind fun q8 => some ((1 : Int32), q8))) else none) else ((f_X12_bad s0 (3 : Int32)).bind fun q9 => (if zb_bo q9.1 = true then some (q9.1, q9.2) else none)))) else ((f_X12_bad s0 (3 : Int32)).bind fun q11 => (if zb_bo q11.1 = true then some (q11.1, q11.2) else none))))))
set_option maxRecDepth 100000 in
set_option maxHeartbeats 4000000 in
theorem c_X12_readNew (l : Launch) (G : zj_G) (a0 : Nat → Nat) (s0 : MoT) (x1 : Int32) (r : Int32 × MoT) (hf : f_X12_readNew s0 x1 = some r) : zj_C l G M_X12_readNew yX12_readNew [w_Mo G a0 s0] [.ref (a0 0), .int x1] (some (.int r.1)) (fun _ => [w_Mo G a0 r.2]) := by
  have key : ∀ W0 : List va_W, zj_J l G M_X12_readNew W0 (zj_ret G M_X12_readNew W0 (some (.int r.1)) (fun _ => [w_Mo G a0 r.2])) 0 0 [w_Mo G a0 s0] [some (.ref (a0 0)), some (.int x1)] 0 [] := by
    intro W0
    unfold f_X12_readNew at hf
    obtain ⟨q1, e1, hf⟩ := zbi_of hf
    refine zr_run [(.aload_n 0, 0, 0, 0, .null)] [] (WW' := [w_Mo G a0 s0]) (lv' := [some (.ref (a0 0)), some (.int x1)]) (pc' := 1) (st' := [.ref (a0 0)]) (by decide +kernel) rfl rfl ⟨trivial, trivial⟩ ?_
    refine zr_callV (c_X12_isName l G a0 s0 q1 e1) (WW' := fun _ => [w_Mo G a0 s0]) (st := []) (st' := [.int q1]) [0] rfl rfl (fun _ => Nat.le_of_ble_eq_true rfl) (fun _ => rfl) rfl rfl nm_X12_isName zw_7_27 zw_7_29 zw_0_58 zw_1_18 zw_7_30 rfl rfl rfl (Nat.le_of_ble_eq_true rfl) ⟨Nat.le_of_ble_eq_true rfl, Nat.le_of_ble_eq_true rfl⟩ (by decide +kernel) (fun _ => ?_)
    refine zr_if_ne (off := 9) (tgt := 13) (by decide +kernel) (by decide) (fun hc => ?_) (fun hc => ?_)
    · have hf := zift hf hc
      obtain ⟨q2, e2, hf⟩ := zbi_of hf
      refine zr_run [(.aload_n 0, 0, 0, 0, .null), (.iconst 1, 0, 0, 0, .int (1 : Int32))] [] (WW' := [w_Mo G a0 s0]) (lv' := [some (.ref (a0 0)), some (.int x1)]) (pc' := 9) (st' := [.int (1 : Int32), .ref (a0 0)]) (by decide +kernel) rfl rfl ⟨trivial, trivial, trivial⟩ ?_
      refine zr_callV (c_X12_bad l G a0 s0 (1 : Int32) q2 e2) (WW' := fun _ => [w_Mo G a0 q2.2]) (st := []) (st' := [.int q2.1]) [0] rfl rfl (fun _ => Nat.le_of_ble_eq_true rfl) (fun _ => rfl) rfl rfl nm_X12_bad zw_7_19 zw_7_21 zw_0_56 zw_1_18 zw_7_22 rfl rfl rfl (Nat.le_of_ble_eq_true rfl) ⟨Nat.le_of_ble_eq_true rfl, Nat.le_of_ble_eq_true rfl⟩ (by decide +kernel) (fun _ => ?_)
      obtain ⟨h3, hf⟩ := zck_of hf
      obtain rfl := Option.some.inj hf
      exact zr_zret h3 (b0 := fun _ => 0) (by decide +kernel) rfl rfl rfl rfl rfl
    · have hf := ziff hf hc
      obtain ⟨q4, e4, hf⟩ := zbi_of hf
      refine zr_run [(.aload_n 0, 0, 0, 0, .null), (.getfield 32, 0, 0, 20, .null), (.iconst 0, 0, 0, 0, .int (0 : Int32)), (.aload_n 0, 0, 0, 0, .null), (.getfield 16, 0, 0, 15, .null), (.iconst 0, 0, 0, 0, .int (0 : Int32)), (.iaload, 0, 3, 0, .null), (.aload_n 0, 0, 0, 0, .null), (.getfield 126, 0, 0, 12, .null)] [] (WW' := [w_Mo G a0 s0]) (lv' := [some (.ref (a0 0)), some (.int x1)]) (pc' := 28) (st' := [.long (Mo_word s0), .int ((Mo_read s0) (0 : Int32).toNatClampNeg), .int (0 : Int32), .ref (a0 8)]) (by decide +kernel) rfl rfl ⟨trivial, ⟨rfl, rfl, zw_6_49⟩, trivial, trivial, ⟨rfl, rfl, zw_6_44⟩, trivial, ⟨rfl, rfl, (by decide)⟩, trivial, ⟨rfl, rfl, zw_6_41⟩, trivial⟩ ?_
      refine zr_cellS (b := 0) (c' := 8) (c_X12_findIn l G (fun _ => (a0 8)) 16 (Mo_readName s0) (0 : Int32) ((Mo_read s0) (0 : Int32).toNatClampNeg) (Mo_word s0) q4 e4) rfl (st := []) (st' := [.int q4]) rfl rfl nm_X12_findIn zw_7_31 zw_7_32 zw_1_18 zw_7_33 rfl (Nat.le_of_ble_eq_true rfl) ⟨Nat.le_of_ble_eq_true rfl, Nat.le_of_ble_eq_true rfl⟩ (by decide +kernel) ?_
      refine zr_eq (WW2 := [w_Mo G a0 s0]) rfl rfl rfl ?_
      refine zr_run [(.iconst (-1), 0, 0, 0, .int (-1 : Int32))] [] (WW' := [w_Mo G a0 s0]) (lv' := [some (.ref (a0 0)), some (.int x1)]) (pc' := 32) (st' := [.int (-1 : Int32), .int q4]) (by decide +kernel) rfl rfl ⟨trivial, trivial⟩ ?_
      refine zr_icmp_ne (off := 26) (tgt := 58) (by decide +kernel) (by decide) (fun hc => ?_) (fun hc => ?_)
      · have hf := zift hf hc
        obtain ⟨q5, e5, hf⟩ := zbi_of hf
        refine zr_run [(.aload_n 0, 0, 0, 0, .null), (.getfield 32, 0, 0, 20, .null), (.bipush 10, 0, 0, 0, .int (10 : Int32)), (.aload_n 0, 0, 0, 0, .null), (.getfield 16, 0, 0, 15, .null), (.iconst 2, 0, 0, 0, .int (2 : Int32)), (.iaload, 0, 3, 0, .null), (.aload_n 0, 0, 0, 0, .null), (.getfield 126, 0, 0, 12, .null)] [] (WW' := [w_Mo G a0 s0]) (lv' := [some (.ref (a0 0)), some (.int x1)]) (pc' := 51) (st' := [.long (Mo_word s0), .int ((Mo_read s0) (2 : Int32).toNatClampNeg), .int (10 : Int32), .ref (a0 8)]) (by decide +kernel) rfl rfl ⟨trivial, ⟨rfl, rfl, zw_6_49⟩, trivial, trivial, ⟨rfl, rfl, zw_6_44⟩, trivial, ⟨rfl, rfl, (by decide)⟩, trivial, ⟨rfl, rfl, zw_6_41⟩, trivial⟩ ?_
        refine zr_cellS (b := 0) (c' := 8) (c_X12_findIn l G (fun _ => (a0 8)) 16 (Mo_readName s0) (10 : Int32) ((Mo_read s0) (2 : Int32).toNatClampNeg) (Mo_word s0) q5 e5) rfl (st := []) (st' := [.int q5]) rfl rfl nm_X12_findIn zw_7_31 zw_7_32 zw_1_18 zw_7_33 rfl (Nat.le_of_ble_eq_true rfl) ⟨Nat.le_of_ble_eq_true rfl, Nat.le_of_ble_eq_true rfl⟩ (by decide +kernel) ?_
        refine zr_eq (WW2 := [w_Mo G a0 s0]) rfl rfl rfl ?_
        refine zr_run [(.iconst (-1), 0, 0, 0, .int (-1 : Int32))] [] (WW' := [w_Mo G a0 s0]) (lv' := [some (.ref (a0 0)), some (.int x1)]) (pc' := 55) (st' := [.int (-1 : Int32), .int q5]) (by decide +kernel) rfl rfl ⟨trivial, trivial⟩ ?_
        refine zr_icmp_eq (off := 9) (tgt := 64) (by decide +kernel) (by decide) (fun hc => ?_) (fun hc => ?_)
        · have hf := zift hf hc
          obtain ⟨h6, hf⟩ := zck_of hf
          obtain ⟨y7, e7, hf⟩ := zlet_of hf
          refine zr_run [(.aload_n 0, 0, 0, 0, .null), (.getfield 32, 0, 0, 20, .null), (.iload_n 1, 0, 0, 0, .null), (.aload_n 0, 0, 0, 0, .null), (.getfield 126, 0, 0, 12, .null), (.lastore, 0, 8, 0, .null)] [] (WW' := [w_Mo G a0 (Mo_s_readName s0 ((vp_updL (Mo_readName s0) x1.toNatClampNeg (Mo_word s0))))]) (lv' := [some (.ref (a0 0)), some (.int x1)]) (pc' := 74) (st' := []) (by decide +kernel) rfl rfl ⟨trivial, ⟨rfl, rfl, zw_6_49⟩, trivial, trivial, ⟨rfl, rfl, zw_6_41⟩, ⟨rfl, rfl, h6⟩, trivial⟩ ?_
          refine zr_eq (WW2 := [w_Mo G a0 y7]) (lv2 := [some (.ref (a0 0)), some (.int x1)]) (st2 := []) (by rw [e7]) rfl rfl ?_
          obtain ⟨q8, e8, hf⟩ := zbi_of hf
          refine zr_run [(.aload_n 0, 0, 0, 0, .null)] [] (WW' := [w_Mo G a0 y7]) (lv' := [some (.ref (a0 0)), some (.int x1)]) (pc' := 75) (st' := [.ref (a0 0)]) (by decide +kernel) rfl rfl ⟨trivial, trivial⟩ ?_
          refine zr_callV (c_X12_go l G a0 y7 q8 e8) (WW' := fun _ => [w_Mo G a0 q8]) (st := []) (st' := []) [0] rfl rfl (fun _ => Nat.le_of_ble_eq_true rfl) (fun _ => rfl) rfl rfl nm_X12_go zw_6_221 zw_6_223 zw_0_50 zw_1_18 zw_6_224 rfl rfl rfl (Nat.le_of_ble_eq_true rfl) ⟨Nat.le_of_ble_eq_true rfl, Nat.le_of_ble_eq_true rfl⟩ (by decide +kernel) (fun _ => ?_)
          refine zr_run [(.iconst 1, 0, 0, 0, .int (1 : Int32))] [] (WW' := [w_Mo G a0 q8]) (lv' := [some (.ref (a0 0)), some (.int x1)]) (pc' := 79) (st' := [.int (1 : Int32)]) (by decide +kernel) rfl rfl ⟨trivial, trivial⟩ ?_
          obtain rfl := Option.some.inj hf
          exact zr_zret (by decide) (b0 := fun _ => 0) (by decide +kernel) rfl rfl rfl rfl rfl
        · have hf := ziff hf hc
          obtain ⟨q9, e9, hf⟩ := zbi_of hf
          refine zr_run [(.aload_n 0, 0, 0, 0, .null), (.iconst 3, 0, 0, 0, .int (3 : Int32))] [] (WW' := [w_Mo G a0 s0]) (lv' := [some (.ref (a0 0)), some (.int x1)]) (pc' := 60) (st' := [.int (3 : Int32), .ref (a0 0)]) (by decide +kernel) rfl rfl ⟨trivial, trivial, trivial⟩ ?_
          refine zr_callV (c_X12_bad l G a0 s0 (3 : Int32) q9 e9) (WW' := fun _ => [w_Mo G a0 q9.2]) (st := []) (st' := [.int q9.1]) [0] rfl rfl (fun _ => Nat.le_of_ble_eq_true rfl) (fun _ => rfl) rfl rfl nm_X12_bad zw_7_19 zw_7_21 zw_0_56 zw_1_18 zw_7_22 rfl rfl rfl (Nat.le_of_ble_eq_true rfl) ⟨Nat.le_of_ble_eq_true rfl, Nat.le_of_ble_eq_true rfl⟩ (by decide +kernel) (fun _ => ?_)
          obtain ⟨h10, hf⟩ := zck_of hf
          obtain rfl := Option.some.inj hf
          exact zr_zret h10 (b0 := fun _ => 0) (by decide +kernel) rfl rfl rfl rfl rfl
      · have hf := ziff hf hc
        obtain ⟨q11, e11, hf⟩ := zbi_of hf
        refine zr_run [(.aload_n 0, 0, 0, 0, .null), (.iconst 3, 0, 0, 0, .int (3 : Int32))] [] (WW' := [w_Mo G a0 s0]) (lv' := [some (.ref (a0 0)), some (.int x1)]) (pc' := 60) (st' := [.int (3 : Int32), .ref (a0 0)]) (by decide +kernel) rfl rfl ⟨trivial, trivial, trivial⟩ ?_
        refine zr_callV (c_X12_bad l G a0 s0 (3 : Int32) q11 e11) (WW' := fun _ => [w_Mo G a0 q11.2]) (st := []) (st' := [.int q11.1]) [0] rfl rfl (fun _ => Nat.le_of_ble_eq_true rfl) (fun _ => rfl) rfl rfl nm_X12_bad zw_7_19 zw_7_21 zw_0_56 zw_1_18 zw_7_22 rfl rfl rfl (Nat.le_of_ble_eq_true rfl) ⟨Nat.le_of_ble_eq_true rfl, Nat.le_of_ble_eq_true rfl⟩ (by decide +kernel) (fun _ => ?_)
        obtain ⟨h12, hf⟩ := zck_of hf
        obtain rfl := Option.some.inj hf
        exact zr_zret h12 (b0 := fun _ => 0) (by decide +kernel) rfl rfl rfl rfl rfl
  exact zj_entry [some (.ref (a0 0)), some (.int x1)] (by decide +kernel) rfl (by decide) (Nat.le_of_ble_eq_true rfl) rfl rfl (key _)
def M_X12_isOne : zj_M := (RX12, cX12_isOne, 3, (some .boolean), { frames := 3, cells := 0, slots := 0, locals := 68 }, false)
theorem nm_X12_isOne : zj_nm yX12_isOne 2 := ⟨by decide +kernel, by decide +kernel, by decide +kernel⟩
def f_X12_isOne_b46  (s0 : MoT)   : Option (Int32 × MoT) := some ((1 : Int32), s0)
def f_X12_isOne  (s0 : MoT) (x1 : Int32) (x2 : Int32) : Option (Int32 × MoT) := ((f_X12_isName s0).bind fun q1 => (if q1 = 0 then ((f_X12_bad s0 (1 : Int32)).bind fun q2 => (if zb_bo q2.1 = true then some (q2.1, q2.2) else none)) else ((f_X12_findIn 16 (Mo_readName s0) x1 x2 (Mo_word s0)).bind fun q4 => (zlet (Mo_s_told s0 q4) fun y5 => (if (Mo_told y5) = (-1 : Int32) then ((f_X12_bad y5 (3 : Int32)).bind fun q6 => (if q6.1 = 0 then some ((0 : Int32), q6.2) else f_X12_isOne_b46 q6.2)) else f_X12_isOne_b46 y5)))))
set_option maxRecDepth 100000 in
set_option maxHeartbeats 4000000 in
theorem t_X12_isOne_b46 (l : Launch) (G : zj_G) (a0 : Nat → Nat) (W0 : List va_W) (r : Int32 × MoT) (s0 : MoT)    (hf : f_X12_isOne_b46 s0 = some r) : zj_J l G M_X12_isOne W0 (zj_ret G M_X12_isOne W0 (some (.int r.1)) (fun _ => [w_Mo G a0 r.2])) 0 0 [w_Mo G a0 s0] [none, none, none] 46 [] := by
  unfold f_X12_isOne_b46 at hf
  refine zr_run [(.iconst 1, 0, 0, 0, .int (1 : Int32))] [] (WW' := [w_Mo G a0 s0]) (lv' := [none, none, none]) (pc' := 47) (st' := [.int (1 : Int32)]) (by decide +kernel) rfl rfl ⟨trivial, trivial⟩ ?_
  refine zr_goto (off := 4) (tgt := 51) (by decide +kernel) (by decide) ?_
  obtain rfl := Option.some.inj hf
  exact zr_zret (by decide) (b0 := fun _ => 0) (by decide +kernel) rfl rfl rfl rfl rfl
set_option maxRecDepth 100000 in
set_option maxHeartbeats 4000000 in
theorem c_X12_isOne (l : Launch) (G : zj_G) (a0 : Nat → Nat) (s0 : MoT) (x1 : Int32) (x2 : Int32) (r : Int32 × MoT) (hf : f_X12_isOne s0 x1 x2 = some r) : zj_C l G M_X12_isOne yX12_isOne [w_Mo G a0 s0] [.ref (a0 0), .int x1, .int x2] (some (.int r.1)) (fun _ => [w_Mo G a0 r.2]) := by
  have key : ∀ W0 : List va_W, zj_J l G M_X12_isOne W0 (zj_ret G M_X12_isOne W0 (some (.int r.1)) (fun _ => [w_Mo G a0 r.2])) 0 0 [w_Mo G a0 s0] [some (.ref (a0 0)), some (.int x1), some (.int x2)] 0 [] := by
    intro W0
    unfold f_X12_isOne at hf
    obtain ⟨q1, e1, hf⟩ := zbi_of hf
    refine zr_run [(.aload_n 0, 0, 0, 0, .null)] [] (WW' := [w_Mo G a0 s0]) (lv' := [some (.ref (a0 0)), some (.int x1), some (.int x2)]) (pc' := 1) (st' := [.ref (a0 0)]) (by decide +kernel) rfl rfl ⟨trivial, trivial⟩ ?_
    refine zr_callV (c_X12_isName l G a0 s0 q1 e1) (WW' := fun _ => [w_Mo G a0 s0]) (st := []) (st' := [.int q1]) [0] rfl rfl (fun _ => Nat.le_of_ble_eq_true rfl) (fun _ => rfl) rfl rfl nm_X12_isName zw_7_27 zw_7_29 zw_0_58 zw_1_18 zw_7_30 rfl rfl rfl (Nat.le_of_ble_eq_true rfl) ⟨Nat.le_of_ble_eq_true rfl, Nat.le_of_ble_eq_true rfl⟩ (by decide +kernel) (fun _ => ?_)
    refine zr_if_ne (off := 9) (tgt := 13) (by decide +kernel) (by decide) (fun hc => ?_) (fun hc => ?_)
    · have hf := zift hf hc
      obtain ⟨q2, e2, hf⟩ := zbi_of hf
      refine zr_run [(.aload_n 0, 0, 0, 0, .null), (.iconst 1, 0, 0, 0, .int (1 : Int32))] [] (WW' := [w_Mo G a0 s0]) (lv' := [some (.ref (a0 0)), some (.int x1), some (.int x2)]) (pc' := 9) (st' := [.int (1 : Int32), .ref (a0 0)]) (by decide +kernel) rfl rfl ⟨trivial, trivial, trivial⟩ ?_
      refine zr_callV (c_X12_bad l G a0 s0 (1 : Int32) q2 e2) (WW' := fun _ => [w_Mo G a0 q2.2]) (st := []) (st' := [.int q2.1]) [0] rfl rfl (fun _ => Nat.le_of_ble_eq_true rfl) (fun _ => rfl) rfl rfl nm_X12_bad zw_7_19 zw_7_21 zw_0_56 zw_1_18 zw_7_22 rfl rfl rfl (Nat.le_of_ble_eq_true rfl) ⟨Nat.le_of_ble_eq_true rfl, Nat.le_of_ble_eq_true rfl⟩ (by decide +kernel) (fun _ => ?_)
      obtain ⟨h3, hf⟩ := zck_of hf
      obtain rfl := Option.some.inj hf
      exact zr_zret h3 (b0 := fun _ => 0) (by decide +kernel) rfl rfl rfl rfl rfl
    · have hf := ziff hf hc
      obtain ⟨q4, e4, hf⟩ := zbi_of hf
      refine zr_run [(.aload_n 0, 0, 0, 0, .null), (.aload_n 0, 0, 0, 0, .null), (.getfield 32, 0, 0, 20, .null), (.iload_n 1, 0, 0, 0, .null), (.iload_n 2, 0, 0, 0, .null), (.aload_n 0, 0, 0, 0, .null), (.getfield 126, 0, 0, 12, .null)] [] (WW' := [w_Mo G a0 s0]) (lv' := [some (.ref (a0 0)), some (.int x1), some (.int x2)]) (pc' := 24) (st' := [.long (Mo_word s0), .int x2, .int x1, .ref (a0 8), .ref (a0 0)]) (by decide +kernel) rfl rfl ⟨trivial, trivial, ⟨rfl, rfl, zw_6_49⟩, trivial, trivial, trivial, ⟨rfl, rfl, zw_6_41⟩, trivial⟩ ?_
      refine zr_cellS (b := 0) (c' := 8) (c_X12_findIn l G (fun _ => (a0 8)) 16 (Mo_readName s0) x1 x2 (Mo_word s0) q4 e4) rfl (st := [.ref (a0 0)]) (st' := [.int q4, .ref (a0 0)]) rfl rfl nm_X12_findIn zw_7_31 zw_7_32 zw_1_18 zw_7_33 rfl (Nat.le_of_ble_eq_true rfl) ⟨Nat.le_of_ble_eq_true rfl, Nat.le_of_ble_eq_true rfl⟩ (by decide +kernel) ?_
      refine zr_eq (WW2 := [w_Mo G a0 s0]) rfl rfl rfl ?_
      obtain ⟨y5, e5, hf⟩ := zlet_of hf
      refine zr_run [(.putfield 162, 0, 0, 13, .null)] [] (WW' := [w_Mo G a0 (Mo_s_told s0 q4)]) (lv' := [some (.ref (a0 0)), some (.int x1), some (.int x2)]) (pc' := 30) (st' := []) (by decide +kernel) rfl rfl ⟨⟨rfl, rfl, rfl, trivial, rfl, rfl, zw_6_42⟩, trivial⟩ ?_
      refine zr_eq (WW2 := [w_Mo G a0 y5]) (lv2 := [some (.ref (a0 0)), some (.int x1), some (.int x2)]) (st2 := []) (by rw [e5]) rfl rfl ?_
      refine zr_run [(.aload_n 0, 0, 0, 0, .null), (.getfield 162, 0, 0, 13, .null), (.iconst (-1), 0, 0, 0, .int (-1 : Int32))] [] (WW' := [w_Mo G a0 y5]) (lv' := [some (.ref (a0 0)), some (.int x1), some (.int x2)]) (pc' := 35) (st' := [.int (-1 : Int32), .int (Mo_told y5)]) (by decide +kernel) rfl rfl ⟨trivial, ⟨rfl, rfl, zw_6_42⟩, trivial, trivial⟩ ?_
      refine zr_icmp_ne (off := 11) (tgt := 46) (by decide +kernel) (by decide) (fun hc => ?_) (fun hc => ?_)
      · have hf := zift hf hc
        obtain ⟨q6, e6, hf⟩ := zbi_of hf
        refine zr_run [(.aload_n 0, 0, 0, 0, .null), (.iconst 3, 0, 0, 0, .int (3 : Int32))] [] (WW' := [w_Mo G a0 y5]) (lv' := [some (.ref (a0 0)), some (.int x1), some (.int x2)]) (pc' := 40) (st' := [.int (3 : Int32), .ref (a0 0)]) (by decide +kernel) rfl rfl ⟨trivial, trivial, trivial⟩ ?_
        refine zr_callV (c_X12_bad l G a0 y5 (3 : Int32) q6 e6) (WW' := fun _ => [w_Mo G a0 q6.2]) (st := []) (st' := [.int q6.1]) [0] rfl rfl (fun _ => Nat.le_of_ble_eq_true rfl) (fun _ => rfl) rfl rfl nm_X12_bad zw_7_19 zw_7_21 zw_0_56 zw_1_18 zw_7_22 rfl rfl rfl (Nat.le_of_ble_eq_true rfl) ⟨Nat.le_of_ble_eq_true rfl, Nat.le_of_ble_eq_true rfl⟩ (by decide +kernel) (fun _ => ?_)
        refine zr_if_eq (off := 7) (tgt := 50) (by decide +kernel) (by decide) (fun hc => ?_) (fun hc => ?_)
        · have hf := zift hf hc
          refine zr_run [(.iconst 0, 0, 0, 0, .int (0 : Int32))] [] (WW' := [w_Mo G a0 q6.2]) (lv' := [some (.ref (a0 0)), some (.int x1), some (.int x2)]) (pc' := 51) (st' := [.int (0 : Int32)]) (by decide +kernel) rfl rfl ⟨trivial, trivial⟩ ?_
          obtain rfl := Option.some.inj hf
          exact zr_zret (by decide) (b0 := fun _ => 0) (by decide +kernel) rfl rfl rfl rfl rfl
        · have hf := ziff hf hc
          refine zr_run [] [0, 1, 2] (WW' := [w_Mo G a0 q6.2]) (lv' := [none, none, none]) (pc' := 46) (st' := []) (by decide +kernel) rfl rfl trivial ?_
          exact t_X12_isOne_b46 l G a0 W0 r q6.2 hf
      · have hf := ziff hf hc
        refine zr_run [] [0, 1, 2] (WW' := [w_Mo G a0 y5]) (lv' := [none, none, none]) (pc' := 46) (st' := []) (by decide +kernel) rfl rfl trivial ?_
        exact t_X12_isOne_b46 l G a0 W0 r y5 hf
  exact zj_entry [some (.ref (a0 0)), some (.int x1), some (.int x2)] (by decide +kernel) rfl (by decide) (Nat.le_of_ble_eq_true rfl) rfl rfl (key _)
