def M_X7_hasRoom : zj_M := (RX7, cX7_hasRoom, 2, (some .boolean), { frames := 0, cells := 0, slots := 0, locals := 0 }, false)
theorem nm_X7_hasRoom : zj_nm yX7_hasRoom 1 := ⟨by decide +kernel, by decide +kernel, by decide +kernel⟩
def f_X7_hasRoom  (s0 : RdT) (x1 : Int32) : Option (Int32) := (if (940 : Int32) < ((Rd_length s0) + x1) then some (0 : Int32) else some (1 : Int32))
set_option maxRecDepth 100000 in
set_option maxHeartbeats 4000000 in
theorem c_X7_hasRoom (l : Launch) (G : zj_G) (a0 : Nat → Nat) (s0 : RdT) (x1 : Int32) (r : Int32) (hf : f_X7_hasRoom s0 x1 = some r) : zj_C l G M_X7_hasRoom yX7_hasRoom [w_Rd G a0 s0] [.ref (a0 0), .int x1] (some (.int r)) (fun _ => [w_Rd G a0 s0]) := by
  have key : ∀ W0 : List va_W, zj_J l G M_X7_hasRoom W0 (zj_ret G M_X7_hasRoom W0 (some (.int r)) (fun _ => [w_Rd G a0 s0])) 0 0 [w_Rd G a0 s0] [some (.ref (a0 0)), some (.int x1)] 0 [] := by
    intro W0
    unfold f_X7_hasRoom at hf
    refine zr_run [(.aload_n 0, 0, 0, 0, .null), (.getfield 15, 0, 0, 1, .null), (.iload_n 1, 0, 0, 0, .null), (.iadd, 0, 0, 0, .null), (.sipush 940, 0, 0, 0, .int (940 : Int32))] [] (WW' := [w_Rd G a0 s0]) (lv' := [some (.ref (a0 0)), some (.int x1)]) (pc' := 9) (st' := [.int (940 : Int32), .int ((Rd_length s0) + x1)]) (by decide +kernel) rfl rfl ⟨trivial, ⟨rfl, rfl, zw_1_92⟩, trivial, trivial, trivial, trivial⟩ ?_
    refine zr_icmp_gt (off := 7) (tgt := 16) (by decide +kernel) (by decide) (fun hc => ?_) (fun hc => ?_)
    · have hf := zift hf hc
      refine zr_run [(.iconst 0, 0, 0, 0, .int (0 : Int32))] [] (WW' := [w_Rd G a0 s0]) (lv' := [some (.ref (a0 0)), some (.int x1)]) (pc' := 17) (st' := [.int (0 : Int32)]) (by decide +kernel) rfl rfl ⟨trivial, trivial⟩ ?_
      obtain rfl := Option.some.inj hf
      exact zr_zret (by decide) (b0 := fun _ => 0) (by decide +kernel) rfl rfl rfl rfl rfl
    · have hf := ziff hf hc
      refine zr_run [(.iconst 1, 0, 0, 0, .int (1 : Int32))] [] (WW' := [w_Rd G a0 s0]) (lv' := [some (.ref (a0 0)), some (.int x1)]) (pc' := 13) (st' := [.int (1 : Int32)]) (by decide +kernel) rfl rfl ⟨trivial, trivial⟩ ?_
      refine zr_goto (off := 4) (tgt := 17) (by decide +kernel) (by decide) ?_
      obtain rfl := Option.some.inj hf
      exact zr_zret (by decide) (b0 := fun _ => 0) (by decide +kernel) rfl rfl rfl rfl rfl
  exact zj_entry [some (.ref (a0 0)), some (.int x1)] (by decide +kernel) rfl (by decide) (Nat.le_of_ble_eq_true rfl) rfl rfl (key _)
def M_X7_take : zj_M := (RX7, cX7_take, 3, none, { frames := 0, cells := 0, slots := 0, locals := 0 }, false)
theorem nm_X7_take : zj_nm yX7_take 1 := ⟨by decide +kernel, by decide +kernel, by decide +kernel⟩
def f_X7_take_b40  (s0 : RdT) (k3 : RdT → Int32 → Int32 → Option (RdT)) (x1 : Int32) (x2 : Int32) : Option (RdT) := k3 s0 x1 (x2 + (-8 : Int32))
def f_X7_take_H3  (s0 : RdT) (k3 : RdT → Int32 → Int32 → Option (RdT)) (x1 : Int32) (x2 : Int32) : Option (RdT) := (if x2 < 0 then some s0 else (if (Rd_length s0) < (940 : Int32) then (zlet ((zr_ushr x1 x2).toInt8.toInt32) fun y1 => (if zb_in (Rd_length s0) 940 = true then (zlet (Rd_s_tape s0 ((upd (Rd_tape s0) (Rd_length s0).toNatClampNeg (vp_nar .byte y1)))) fun y3 => (zlet (Rd_s_length y3 ((Rd_length y3) + (1 : Int32))) fun y4 => f_X7_take_b40 y4 k3 x1 x2)) else none)) else f_X7_take_b40 s0 k3 x1 x2))
def f_X7_take_L3    : Nat → RdT → Int32 → Int32 → Option (RdT)
  | 0 => fun _ _ _ => none
  | n + 1 => fun s0 x1 x2 => f_X7_take_H3 s0 (f_X7_take_L3  n) x1 x2
def f_X7_take  (s0 : RdT) (x1 : Int32) : Option (RdT) := f_X7_take_L3 zFU s0 x1 (24 : Int32)
set_option maxRecDepth 100000 in
set_option maxHeartbeats 4000000 in
theorem t_X7_take_b40 (l : Launch) (G : zj_G) (a0 : Nat → Nat) (W0 : List va_W) (r : RdT) (s0 : RdT) (k3 : RdT → Int32 → Int32 → Option (RdT)) (hk3 : ∀ (s0 : RdT) (x1 : Int32) (x2 : Int32), k3 s0 x1 x2 = some r → zj_J l G M_X7_take W0 (zj_ret G M_X7_take W0 (none) (fun _ => [w_Rd G a0 r])) 0 0 [w_Rd G a0 s0] [some (.ref (a0 0)), some (.int x1), some (.int x2)] 3 []) (x1 : Int32) (x2 : Int32) (hf : f_X7_take_b40 s0 k3 x1 x2 = some r) : zj_J l G M_X7_take W0 (zj_ret G M_X7_take W0 (none) (fun _ => [w_Rd G a0 r])) 0 0 [w_Rd G a0 s0] [some (.ref (a0 0)), some (.int x1), some (.int x2)] 40 [] := by
  unfold f_X7_take_b40 at hf
  refine zr_run [(.iinc 2 (-8), 0, 0, 0, .int (-8 : Int32))] [] (WW' := [w_Rd G a0 s0]) (lv' := [some (.ref (a0 0)), some (.int x1), some (.int (x2 + (-8 : Int32)))]) (pc' := 43) (st' := []) (by decide +kernel) rfl rfl ⟨trivial, trivial⟩ ?_
  refine zr_goto (off := -40) (tgt := 3) (by decide +kernel) (by decide) ?_
  exact hk3 s0 x1 (x2 + (-8 : Int32)) hf
set_option maxRecDepth 100000 in
set_option maxHeartbeats 4000000 in
theorem t_X7_take_H3 (l : Launch) (G : zj_G) (a0 : Nat → Nat) (W0 : List va_W) (r : RdT) (s0 : RdT) (k3 : RdT → Int32 → Int32 → Option (RdT)) (hk3 : ∀ (s0 : RdT) (x1 : Int32) (x2 : Int32), k3 s0 x1 x2 = some r → zj_J l G M_X7_take W0 (zj_ret G M_X7_take W0 (none) (fun _ => [w_Rd G a0 r])) 0 0 [w_Rd G a0 s0] [some (.ref (a0 0)), some (.int x1), some (.int x2)] 3 []) (x1 : Int32) (x2 : Int32) (hf : f_X7_take_H3 s0 k3 x1 x2 = some r) : zj_J l G M_X7_take W0 (zj_ret G M_X7_take W0 (none) (fun _ => [w_Rd G a0 r])) 0 0 [w_Rd G a0 s0] [some (.ref (a0 0)), some (.int x1), some (.int x2)] 3 [] := by
  unfold f_X7_take_H3 at hf
  refine zr_run [(.iload_n 2, 0, 0, 0, .null)] [] (WW' := [w_Rd G a0 s0]) (lv' := [some (.ref (a0 0)), some (.int x1), some (.int x2)]) (pc' := 4) (st' := [.int x2]) (by decide +kernel) rfl rfl ⟨trivial, trivial⟩ ?_
  refine zr_if_lt (off := 42) (tgt := 46) (by decide +kernel) (by decide) (fun hc => ?_) (fun hc => ?_)
  · have hf := zift hf hc
    obtain rfl := Option.some.inj hf
    exact zr_vret (b0 := fun _ => 0) (by decide +kernel) rfl rfl rfl rfl rfl
  · have hf := ziff hf hc
    refine zr_run [(.aload_n 0, 0, 0, 0, .null), (.getfield 15, 0, 0, 1, .null), (.sipush 940, 0, 0, 0, .int (940 : Int32))] [] (WW' := [w_Rd G a0 s0]) (lv' := [some (.ref (a0 0)), some (.int x1), some (.int x2)]) (pc' := 14) (st' := [.int (940 : Int32), .int (Rd_length s0)]) (by decide +kernel) rfl rfl ⟨trivial, ⟨rfl, rfl, zw_1_92⟩, trivial, trivial⟩ ?_
    refine zr_icmp_ge (off := 26) (tgt := 40) (by decide +kernel) (by decide) (fun hc => ?_) (fun hc => ?_)
    · have hf := zift hf hc
      obtain ⟨y1, e1, hf⟩ := zlet_of hf
      refine zr_run [(.aload_n 0, 0, 0, 0, .null), (.getfield 11, 0, 0, 0, .null), (.aload_n 0, 0, 0, 0, .null), (.getfield 15, 0, 0, 1, .null), (.iload_n 1, 0, 0, 0, .null), (.iload_n 2, 0, 0, 0, .null), (.iushr, 0, 0, 0, .null), (.i2b, 0, 0, 0, .null)] [] (WW' := [w_Rd G a0 s0]) (lv' := [some (.ref (a0 0)), some (.int x1), some (.int x2)]) (pc' := 29) (st' := [.int ((zr_ushr x1 x2).toInt8.toInt32), .int (Rd_length s0), .ref (a0 1)]) (by decide +kernel) rfl rfl ⟨trivial, ⟨rfl, rfl, zw_1_90⟩, trivial, ⟨rfl, rfl, zw_1_92⟩, trivial, trivial, trivial, trivial, trivial⟩ ?_
      refine zr_eq (WW2 := [w_Rd G a0 s0]) (lv2 := [some (.ref (a0 0)), some (.int x1), some (.int x2)]) (st2 := [.int y1, .int (Rd_length s0), .ref (a0 1)]) rfl rfl (by rw [e1]) ?_
      obtain ⟨h2, hf⟩ := zck_of hf
      obtain ⟨y3, e3, hf⟩ := zlet_of hf
      refine zr_run [(.bastore, 0, 1, 0, .null)] [] (WW' := [w_Rd G a0 (Rd_s_tape s0 ((upd (Rd_tape s0) (Rd_length s0).toNatClampNeg (vp_nar .byte y1))))]) (lv' := [some (.ref (a0 0)), some (.int x1), some (.int x2)]) (pc' := 30) (st' := []) (by decide +kernel) rfl rfl ⟨⟨rfl, rfl, h2⟩, trivial⟩ ?_
      refine zr_eq (WW2 := [w_Rd G a0 y3]) (lv2 := [some (.ref (a0 0)), some (.int x1), some (.int x2)]) (st2 := []) (by rw [e3]) rfl rfl ?_
      obtain ⟨y4, e4, hf⟩ := zlet_of hf
      refine zr_run [(.aload_n 0, 0, 0, 0, .null), (.dup, 0, 0, 0, .null), (.getfield 15, 0, 0, 1, .null), (.iconst 1, 0, 0, 0, .int (1 : Int32)), (.iadd, 0, 0, 0, .null), (.putfield 15, 0, 0, 1, .null)] [] (WW' := [w_Rd G a0 (Rd_s_length y3 ((Rd_length y3) + (1 : Int32)))]) (lv' := [some (.ref (a0 0)), some (.int x1), some (.int x2)]) (pc' := 40) (st' := []) (by decide +kernel) rfl rfl ⟨trivial, trivial, ⟨rfl, rfl, zw_1_92⟩, trivial, trivial, ⟨rfl, rfl, rfl, trivial, rfl, rfl, zw_1_92⟩, trivial⟩ ?_
      refine zr_eq (WW2 := [w_Rd G a0 y4]) (lv2 := [some (.ref (a0 0)), some (.int x1), some (.int x2)]) (st2 := []) (by rw [e4]) rfl rfl ?_
      exact t_X7_take_b40 l G a0 W0 r y4 k3 hk3 x1 x2 hf
    · have hf := ziff hf hc
      exact t_X7_take_b40 l G a0 W0 r s0 k3 hk3 x1 x2 hf
theorem t_X7_take_L3 (l : Launch) (G : zj_G) (a0 : Nat → Nat) (W0 : List va_W) (r : RdT)    : ∀ (n : Nat) (s0 : RdT) (x1 : Int32) (x2 : Int32), f_X7_take_L3 n s0 x1 x2 = some r → zj_J l G M_X7_take W0 (zj_ret G M_X7_take W0 (none) (fun _ => [w_Rd G a0 r])) 0 0 [w_Rd G a0 s0] [some (.ref (a0 0)), some (.int x1), some (.int x2)] 3 [] := by
  intro n
  induction n with
  | zero => intro s0 x1 x2 hf; exact nomatch (show none = some r from hf)
  | succ n ih => intro s0 x1 x2 hf; exact t_X7_take_H3 l G a0 W0 r s0  (f_X7_take_L3 n)  ih x1 x2  hf
set_option maxRecDepth 100000 in
set_option maxHeartbeats 4000000 in
theorem c_X7_take (l : Launch) (G : zj_G) (a0 : Nat → Nat) (s0 : RdT) (x1 : Int32) (r : RdT) (hf : f_X7_take s0 x1 = some r) : zj_C l G M_X7_take yX7_take [w_Rd G a0 s0] [.ref (a0 0), .int x1] (none) (fun _ => [w_Rd G a0 r]) := by
  have key : ∀ W0 : List va_W, zj_J l G M_X7_take W0 (zj_ret G M_X7_take W0 (none) (fun _ => [w_Rd G a0 r])) 0 0 [w_Rd G a0 s0] [some (.ref (a0 0)), some (.int x1), none] 0 [] := by
    intro W0
    unfold f_X7_take at hf
    refine zr_run [(.bipush 24, 0, 0, 0, .int (24 : Int32)), (.istore_n 2, 0, 0, 0, .null)] [] (WW' := [w_Rd G a0 s0]) (lv' := [some (.ref (a0 0)), some (.int x1), some (.int (24 : Int32))]) (pc' := 3) (st' := []) (by decide +kernel) rfl rfl ⟨trivial, trivial, trivial⟩ ?_
    exact t_X7_take_L3 l G a0 W0 r zFU s0 x1 (24 : Int32) hf
  exact zj_entry [some (.ref (a0 0)), some (.int x1), none] (by decide +kernel) rfl (by decide) (Nat.le_of_ble_eq_true rfl) rfl rfl (key _)
def M_X7_readRun : zj_M := (RX7, cX7_readRun, 4, none, { frames := 0, cells := 0, slots := 0, locals := 0 }, false)
theorem nm_X7_readRun : zj_nm yX7_readRun 0 := ⟨by decide +kernel, by decide +kernel, by decide +kernel⟩
def f_X7_readRun_b186  (s0 : RdT)  (x1 : Int32) (x2 : Int32) : Option (RdT) := (if x1 = 0 then (if (3 : Int32) < x2 then some s0 else (zlet (Rd_s_kind s0 (4 : Int32)) fun y5 => some y5)) else some s0)
def f_X7_readRun_b177  (s0 : RdT) (k139 : RdT → Int32 → Option (RdT)) (x3 : Int32) : Option (RdT) := k139 s0 (x3 + (1 : Int32))
def f_X7_readRun_H139  (s0 : RdT) (k139 : RdT → Int32 → Option (RdT)) (x3 : Int32) : Option (RdT) := (if x3 < (28 : Int32) then (if (Rd_kind s0) = (3 : Int32) then (if zb_in x3 28 = true then (if (lg_cmp ((Rd_keys s0) x3.toNatClampNeg) (Rd_name s0)) = 0 then (zlet (Rd_s_key s0 x3) fun y8 => (zlet (Rd_s_kind y8 (2 : Int32)) fun y9 => f_X7_readRun_b177 y9 k139 x3)) else f_X7_readRun_b177 s0 k139 x3) else none) else some s0) else some s0)
def f_X7_readRun_L139    : Nat → RdT → Int32 → Option (RdT)
  | 0 => fun _ _ => none
  | n + 1 => fun s0 x3 => f_X7_readRun_H139 s0 (f_X7_readRun_L139  n) x3
def f_X7_readRun_b117  (s0 : RdT)  (x1 : Int32) (x2 : Int32) : Option (RdT) := (zlet (Rd_s_kind s0 (1 : Int32)) fun y4 => (if x2 = 0 then (if (7 : Int32) < x1 then f_X7_readRun_b186 y4 x1 x2 else (zlet (Rd_s_kind y4 (3 : Int32)) fun y6 => f_X7_readRun_L139 zFU y6 (0 : Int32))) else f_X7_readRun_b186 y4 x1 x2))
def f_X7_readRun_b104  (s0 : RdT) (k14 : RdT → Int32 → Int32 → Option (RdT)) (x1 : Int32) (x2 : Int32) : Option (RdT) := (zlet (Rd_s_at s0 ((Rd_at s0) + (1 : Int32))) fun y12 => k14 y12 x1 x2)
def f_X7_readRun_b73  (s0 : RdT) (k14 : RdT → Int32 → Int32 → Option (RdT)) (x1 : Int32) (x2 : Int32) (x3 : Int32) : Option (RdT) := (if x3 < (48 : Int32) then f_X7_readRun_b117 s0 x1 x2 else (if (57 : Int32) < x3 then f_X7_readRun_b117 s0 x1 x2 else (zlet (((Rd_value s0) * (10 : Int32)) + (x3 - (48 : Int32))) fun y10 => (zlet (Rd_s_value s0 y10) fun y11 => f_X7_readRun_b104 y11 k14 x1 (x2 + (1 : Int32))))))
def f_X7_readRun_H14  (s0 : RdT) (k14 : RdT → Int32 → Int32 → Option (RdT)) (x1 : Int32) (x2 : Int32) : Option (RdT) := (if (Rd_at s0) < (Rd_length s0) then (if zb_in (Rd_at s0) 940 = true then (if ((Rd_tape s0) (Rd_at s0).toNatClampNeg) < (97 : Int32) then f_X7_readRun_b73 s0 k14 x1 x2 ((Rd_tape s0) (Rd_at s0).toNatClampNeg) else (if (122 : Int32) < ((Rd_tape s0) (Rd_at s0).toNatClampNeg) then f_X7_readRun_b73 s0 k14 x1 x2 ((Rd_tape s0) (Rd_at s0).toNatClampNeg) else (zlet (((Rd_name s0) * (32 : Int64)) + ((((Rd_tape s0) (Rd_at s0).toNatClampNeg) - (97 : Int32)) + (1 : Int32)).toInt64) fun y13 => (zlet (Rd_s_name s0 y13) fun y14 => f_X7_readRun_b104 y14 k14 (x1 + (1 : Int32)) x2)))) else none) else f_X7_readRun_b117 s0 x1 x2)
def f_X7_readRun_L14    : Nat → RdT → Int32 → Int32 → Option (RdT)
  | 0 => fun _ _ _ => none
  | n + 1 => fun s0 x1 x2 => f_X7_readRun_H14 s0 (f_X7_readRun_L14  n) x1 x2
def f_X7_readRun  (s0 : RdT)  : Option (RdT) := (zlet (Rd_s_name s0 (0 : Int64)) fun y1 => (zlet (Rd_s_value y1 (0 : Int32)) fun y2 => f_X7_readRun_L14 zFU y2 (0 : Int32) (0 : Int32)))
set_option maxRecDepth 100000 in
set_option maxHeartbeats 4000000 in
theorem t_X7_readRun_b186 (l : Launch) (G : zj_G) (a0 : Nat → Nat) (W0 : List va_W) (r : RdT) (s0 : RdT)   (x1 : Int32) (x2 : Int32) (hf : f_X7_readRun_b186 s0 x1 x2 = some r) : zj_J l G M_X7_readRun W0 (zj_ret G M_X7_readRun W0 (none) (fun _ => [w_Rd G a0 r])) 0 0 [w_Rd G a0 s0] [some (.ref (a0 0)), some (.int x1), some (.int x2), none] 186 [] := by
  unfold f_X7_readRun_b186 at hf
  refine zr_run [(.iload_n 1, 0, 0, 0, .null)] [] (WW' := [w_Rd G a0 s0]) (lv' := [some (.ref (a0 0)), some (.int x1), some (.int x2), none]) (pc' := 187) (st' := [.int x1]) (by decide +kernel) rfl rfl ⟨trivial, trivial⟩ ?_
  refine zr_if_ne (off := 13) (tgt := 200) (by decide +kernel) (by decide) (fun hc => ?_) (fun hc => ?_)
  · have hf := zift hf hc
    refine zr_run [(.iload_n 2, 0, 0, 0, .null), (.iconst 3, 0, 0, 0, .int (3 : Int32))] [] (WW' := [w_Rd G a0 s0]) (lv' := [some (.ref (a0 0)), some (.int x1), some (.int x2), none]) (pc' := 192) (st' := [.int (3 : Int32), .int x2]) (by decide +kernel) rfl rfl ⟨trivial, trivial, trivial⟩ ?_
    refine zr_icmp_gt (off := 8) (tgt := 200) (by decide +kernel) (by decide) (fun hc => ?_) (fun hc => ?_)
    · have hf := zift hf hc
      obtain rfl := Option.some.inj hf
      exact zr_vret (b0 := fun _ => 0) (by decide +kernel) rfl rfl rfl rfl rfl
    · have hf := ziff hf hc
      obtain ⟨y5, e5, hf⟩ := zlet_of hf
      refine zr_run [(.aload_n 0, 0, 0, 0, .null), (.iconst 4, 0, 0, 0, .int (4 : Int32)), (.putfield 33, 0, 0, 6, .null)] [] (WW' := [w_Rd G a0 (Rd_s_kind s0 (4 : Int32))]) (lv' := [some (.ref (a0 0)), some (.int x1), some (.int x2), none]) (pc' := 200) (st' := []) (by decide +kernel) rfl rfl ⟨trivial, trivial, ⟨rfl, rfl, rfl, trivial, rfl, rfl, zw_1_99⟩, trivial⟩ ?_
      refine zr_eq (WW2 := [w_Rd G a0 y5]) (lv2 := [some (.ref (a0 0)), some (.int x1), some (.int x2), none]) (st2 := []) (by rw [e5]) rfl rfl ?_
      obtain rfl := Option.some.inj hf
      exact zr_vret (b0 := fun _ => 0) (by decide +kernel) rfl rfl rfl rfl rfl
  · have hf := ziff hf hc
    obtain rfl := Option.some.inj hf
    exact zr_vret (b0 := fun _ => 0) (by decide +kernel) rfl rfl rfl rfl rfl
set_option maxRecDepth 100000 in
set_option maxHeartbeats 4000000 in
theorem t_X7_readRun_b177 (l : Launch) (G : zj_G) (a0 : Nat → Nat) (W0 : List va_W) (r : RdT) (s0 : RdT) (k139 : RdT → Int32 → Option (RdT)) (hk139 : ∀ (s0 : RdT) (x3 : Int32), k139 s0 x3 = some r → zj_J l G M_X7_readRun W0 (zj_ret G M_X7_readRun W0 (none) (fun _ => [w_Rd G a0 r])) 0 0 [w_Rd G a0 s0] [some (.ref (a0 0)), none, none, some (.int x3)] 139 []) (x3 : Int32) (hf : f_X7_readRun_b177 s0 k139 x3 = some r) : zj_J l G M_X7_readRun W0 (zj_ret G M_X7_readRun W0 (none) (fun _ => [w_Rd G a0 r])) 0 0 [w_Rd G a0 s0] [some (.ref (a0 0)), none, none, some (.int x3)] 177 [] := by
  unfold f_X7_readRun_b177 at hf
  refine zr_run [(.iinc 3 1, 0, 0, 0, .int (1 : Int32))] [] (WW' := [w_Rd G a0 s0]) (lv' := [some (.ref (a0 0)), none, none, some (.int (x3 + (1 : Int32)))]) (pc' := 180) (st' := []) (by decide +kernel) rfl rfl ⟨trivial, trivial⟩ ?_
  refine zr_goto (off := -41) (tgt := 139) (by decide +kernel) (by decide) ?_
  exact hk139 s0 (x3 + (1 : Int32)) hf
set_option maxRecDepth 100000 in
set_option maxHeartbeats 4000000 in
theorem t_X7_readRun_H139 (l : Launch) (G : zj_G) (a0 : Nat → Nat) (W0 : List va_W) (r : RdT) (s0 : RdT) (k139 : RdT → Int32 → Option (RdT)) (hk139 : ∀ (s0 : RdT) (x3 : Int32), k139 s0 x3 = some r → zj_J l G M_X7_readRun W0 (zj_ret G M_X7_readRun W0 (none) (fun _ => [w_Rd G a0 r])) 0 0 [w_Rd G a0 s0] [some (.ref (a0 0)), none, none, some (.int x3)] 139 []) (x3 : Int32) (hf : f_X7_readRun_H139 s0 k139 x3 = some r) : zj_J l G M_X7_readRun W0 (zj_ret G M_X7_readRun W0 (none) (fun _ => [w_Rd G a0 r])) 0 0 [w_Rd G a0 s0] [some (.ref (a0 0)), none, none, some (.int x3)] 139 [] := by
  unfold f_X7_readRun_H139 at hf
  refine zr_run [(.iload_n 3, 0, 0, 0, .null), (.bipush 28, 0, 0, 0, .int (28 : Int32))] [] (WW' := [w_Rd G a0 s0]) (lv' := [some (.ref (a0 0)), none, none, some (.int x3)]) (pc' := 142) (st' := [.int (28 : Int32), .int x3]) (by decide +kernel) rfl rfl ⟨trivial, trivial, trivial⟩ ?_
  refine zr_icmp_ge (off := 41) (tgt := 183) (by decide +kernel) (by decide) (fun hc => ?_) (fun hc => ?_)
  · have hf := zift hf hc
    refine zr_run [(.aload_n 0, 0, 0, 0, .null), (.getfield 33, 0, 0, 6, .null), (.iconst 3, 0, 0, 0, .int (3 : Int32))] [] (WW' := [w_Rd G a0 s0]) (lv' := [some (.ref (a0 0)), none, none, some (.int x3)]) (pc' := 150) (st' := [.int (3 : Int32), .int (Rd_kind s0)]) (by decide +kernel) rfl rfl ⟨trivial, ⟨rfl, rfl, zw_1_99⟩, trivial, trivial⟩ ?_
    refine zr_icmp_ne (off := 33) (tgt := 183) (by decide +kernel) (by decide) (fun hc => ?_) (fun hc => ?_)
    · have hf := zift hf hc
      obtain ⟨h7, hf⟩ := zck_of hf
      refine zr_run [(.aload_n 0, 0, 0, 0, .null), (.getfield 19, 0, 0, 2, .null), (.iload_n 3, 0, 0, 0, .null), (.laload, 0, 2, 0, .null), (.aload_n 0, 0, 0, 0, .null), (.getfield 45, 0, 0, 10, .null), (.lcmp, 0, 0, 0, .null)] [] (WW' := [w_Rd G a0 s0]) (lv' := [some (.ref (a0 0)), none, none, some (.int x3)]) (pc' := 164) (st' := [.int (lg_cmp ((Rd_keys s0) x3.toNatClampNeg) (Rd_name s0))]) (by decide +kernel) rfl rfl ⟨trivial, ⟨rfl, rfl, zw_1_95⟩, trivial, ⟨rfl, rfl, h7⟩, trivial, ⟨rfl, rfl, zw_1_108⟩, trivial, trivial⟩ ?_
      refine zr_if_ne (off := 13) (tgt := 177) (by decide +kernel) (by decide) (fun hc => ?_) (fun hc => ?_)
      · have hf := zift hf hc
        obtain ⟨y8, e8, hf⟩ := zlet_of hf
        refine zr_run [(.aload_n 0, 0, 0, 0, .null), (.iload_n 3, 0, 0, 0, .null), (.putfield 39, 0, 0, 8, .null)] [] (WW' := [w_Rd G a0 (Rd_s_key s0 x3)]) (lv' := [some (.ref (a0 0)), none, none, some (.int x3)]) (pc' := 172) (st' := []) (by decide +kernel) rfl rfl ⟨trivial, trivial, ⟨rfl, rfl, rfl, trivial, rfl, rfl, zw_1_103⟩, trivial⟩ ?_
        refine zr_eq (WW2 := [w_Rd G a0 y8]) (lv2 := [some (.ref (a0 0)), none, none, some (.int x3)]) (st2 := []) (by rw [e8]) rfl rfl ?_
        obtain ⟨y9, e9, hf⟩ := zlet_of hf
        refine zr_run [(.aload_n 0, 0, 0, 0, .null), (.iconst 2, 0, 0, 0, .int (2 : Int32)), (.putfield 33, 0, 0, 6, .null)] [] (WW' := [w_Rd G a0 (Rd_s_kind y8 (2 : Int32))]) (lv' := [some (.ref (a0 0)), none, none, some (.int x3)]) (pc' := 177) (st' := []) (by decide +kernel) rfl rfl ⟨trivial, trivial, ⟨rfl, rfl, rfl, trivial, rfl, rfl, zw_1_99⟩, trivial⟩ ?_
        refine zr_eq (WW2 := [w_Rd G a0 y9]) (lv2 := [some (.ref (a0 0)), none, none, some (.int x3)]) (st2 := []) (by rw [e9]) rfl rfl ?_
        exact t_X7_readRun_b177 l G a0 W0 r y9 k139 hk139 x3 hf
      · have hf := ziff hf hc
        exact t_X7_readRun_b177 l G a0 W0 r s0 k139 hk139 x3 hf
    · have hf := ziff hf hc
      refine zr_goto (off := 17) (tgt := 200) (by decide +kernel) (by decide) ?_
      obtain rfl := Option.some.inj hf
      exact zr_vret (b0 := fun _ => 0) (by decide +kernel) rfl rfl rfl rfl rfl
  · have hf := ziff hf hc
    refine zr_goto (off := 17) (tgt := 200) (by decide +kernel) (by decide) ?_
    obtain rfl := Option.some.inj hf
    exact zr_vret (b0 := fun _ => 0) (by decide +kernel) rfl rfl rfl rfl rfl
theorem t_X7_readRun_L139 (l : Launch) (G : zj_G) (a0 : Nat → Nat) (W0 : List va_W) (r : RdT)    : ∀ (n : Nat) (s0 : RdT) (x3 : Int32), f_X7_readRun_L139 n s0 x3 = some r → zj_J l G M_X7_readRun W0 (zj_ret G M_X7_readRun W0 (none) (fun _ => [w_Rd G a0 r])) 0 0 [w_Rd G a0 s0] [some (.ref (a0 0)), none, none, some (.int x3)] 139 [] := by
  intro n
  induction n with
  | zero => intro s0 x3 hf; exact nomatch (show none = some r from hf)
  | succ n ih => intro s0 x3 hf; exact t_X7_readRun_H139 l G a0 W0 r s0  (f_X7_readRun_L139 n)  ih x3  hf
set_option maxRecDepth 100000 in
set_option maxHeartbeats 4000000 in
theorem t_X7_readRun_b117 (l : Launch) (G : zj_G) (a0 : Nat → Nat) (W0 : List va_W) (r : RdT) (s0 : RdT)   (x1 : Int32) (x2 : Int32) (hf : f_X7_readRun_b117 s0 x1 x2 = some r) : zj_J l G M_X7_readRun W0 (zj_ret G M_X7_readRun W0 (none) (fun _ => [w_Rd G a0 r])) 0 0 [w_Rd G a0 s0] [some (.ref (a0 0)), some (.int x1), some (.int x2), none] 117 [] := by
  unfold f_X7_readRun_b117 at hf
  obtain ⟨y4, e4, hf⟩ := zlet_of hf
  refine zr_run [(.aload_n 0, 0, 0, 0, .null), (.iconst 1, 0, 0, 0, .int (1 : Int32)), (.putfield 33, 0, 0, 6, .null)] [] (WW' := [w_Rd G a0 (Rd_s_kind s0 (1 : Int32))]) (lv' := [some (.ref (a0 0)), some (.int x1), some (.int x2), none]) (pc' := 122) (st' := []) (by decide +kernel) rfl rfl ⟨trivial, trivial, ⟨rfl, rfl, rfl, trivial, rfl, rfl, zw_1_99⟩, trivial⟩ ?_
  refine zr_eq (WW2 := [w_Rd G a0 y4]) (lv2 := [some (.ref (a0 0)), some (.int x1), some (.int x2), none]) (st2 := []) (by rw [e4]) rfl rfl ?_
  refine zr_run [(.iload_n 2, 0, 0, 0, .null)] [] (WW' := [w_Rd G a0 y4]) (lv' := [some (.ref (a0 0)), some (.int x1), some (.int x2), none]) (pc' := 123) (st' := [.int x2]) (by decide +kernel) rfl rfl ⟨trivial, trivial⟩ ?_
  refine zr_if_ne (off := 63) (tgt := 186) (by decide +kernel) (by decide) (fun hc => ?_) (fun hc => ?_)
  · have hf := zift hf hc
    refine zr_run [(.iload_n 1, 0, 0, 0, .null), (.bipush 7, 0, 0, 0, .int (7 : Int32))] [] (WW' := [w_Rd G a0 y4]) (lv' := [some (.ref (a0 0)), some (.int x1), some (.int x2), none]) (pc' := 129) (st' := [.int (7 : Int32), .int x1]) (by decide +kernel) rfl rfl ⟨trivial, trivial, trivial⟩ ?_
    refine zr_icmp_gt (off := 57) (tgt := 186) (by decide +kernel) (by decide) (fun hc => ?_) (fun hc => ?_)
    · have hf := zift hf hc
      exact t_X7_readRun_b186 l G a0 W0 r y4 x1 x2 hf
    · have hf := ziff hf hc
      obtain ⟨y6, e6, hf⟩ := zlet_of hf
      refine zr_run [(.aload_n 0, 0, 0, 0, .null), (.iconst 3, 0, 0, 0, .int (3 : Int32)), (.putfield 33, 0, 0, 6, .null)] [] (WW' := [w_Rd G a0 (Rd_s_kind y4 (3 : Int32))]) (lv' := [some (.ref (a0 0)), some (.int x1), some (.int x2), none]) (pc' := 137) (st' := []) (by decide +kernel) rfl rfl ⟨trivial, trivial, ⟨rfl, rfl, rfl, trivial, rfl, rfl, zw_1_99⟩, trivial⟩ ?_
      refine zr_eq (WW2 := [w_Rd G a0 y6]) (lv2 := [some (.ref (a0 0)), some (.int x1), some (.int x2), none]) (st2 := []) (by rw [e6]) rfl rfl ?_
      refine zr_run [(.iconst 0, 0, 0, 0, .int (0 : Int32)), (.istore_n 3, 0, 0, 0, .null)] [1, 2] (WW' := [w_Rd G a0 y6]) (lv' := [some (.ref (a0 0)), none, none, some (.int (0 : Int32))]) (pc' := 139) (st' := []) (by decide +kernel) rfl rfl ⟨trivial, trivial, trivial⟩ ?_
      exact t_X7_readRun_L139 l G a0 W0 r zFU y6 (0 : Int32) hf
  · have hf := ziff hf hc
    exact t_X7_readRun_b186 l G a0 W0 r y4 x1 x2 hf
set_option maxRecDepth 100000 in
set_option maxHeartbeats 4000000 in
theorem t_X7_readRun_b104 (l : Launch) (G : zj_G) (a0 : Nat → Nat) (W0 : List va_W) (r : RdT) (s0 : RdT) (k14 : RdT → Int32 → Int32 → Option (RdT)) (hk14 : ∀ (s0 : RdT) (x1 : Int32) (x2 : Int32), k14 s0 x1 x2 = some r → zj_J l G M_X7_readRun W0 (zj_ret G M_X7_readRun W0 (none) (fun _ => [w_Rd G a0 r])) 0 0 [w_Rd G a0 s0] [some (.ref (a0 0)), some (.int x1), some (.int x2), none] 14 []) (x1 : Int32) (x2 : Int32) (hf : f_X7_readRun_b104 s0 k14 x1 x2 = some r) : zj_J l G M_X7_readRun W0 (zj_ret G M_X7_readRun W0 (none) (fun _ => [w_Rd G a0 r])) 0 0 [w_Rd G a0 s0] [some (.ref (a0 0)), some (.int x1), some (.int x2), none] 104 [] := by
  unfold f_X7_readRun_b104 at hf
  obtain ⟨y12, e12, hf⟩ := zlet_of hf
  refine zr_run [(.aload_n 0, 0, 0, 0, .null), (.dup, 0, 0, 0, .null), (.getfield 30, 0, 0, 5, .null), (.iconst 1, 0, 0, 0, .int (1 : Int32)), (.iadd, 0, 0, 0, .null), (.putfield 30, 0, 0, 5, .null)] [] (WW' := [w_Rd G a0 (Rd_s_at s0 ((Rd_at s0) + (1 : Int32)))]) (lv' := [some (.ref (a0 0)), some (.int x1), some (.int x2), none]) (pc' := 114) (st' := []) (by decide +kernel) rfl rfl ⟨trivial, trivial, ⟨rfl, rfl, zw_1_98⟩, trivial, trivial, ⟨rfl, rfl, rfl, trivial, rfl, rfl, zw_1_98⟩, trivial⟩ ?_
  refine zr_eq (WW2 := [w_Rd G a0 y12]) (lv2 := [some (.ref (a0 0)), some (.int x1), some (.int x2), none]) (st2 := []) (by rw [e12]) rfl rfl ?_
  refine zr_goto (off := -100) (tgt := 14) (by decide +kernel) (by decide) ?_
  exact hk14 y12 x1 x2 hf
set_option maxRecDepth 100000 in
set_option maxHeartbeats 4000000 in
theorem t_X7_readRun_b73 (l : Launch) (G : zj_G) (a0 : Nat → Nat) (W0 : List va_W) (r : RdT) (s0 : RdT) (k14 : RdT → Int32 → Int32 → Option (RdT)) (hk14 : ∀ (s0 : RdT) (x1 : Int32) (x2 : Int32), k14 s0 x1 x2 = some r → zj_J l G M_X7_readRun W0 (zj_ret G M_X7_readRun W0 (none) (fun _ => [w_Rd G a0 r])) 0 0 [w_Rd G a0 s0] [some (.ref (a0 0)), some (.int x1), some (.int x2), none] 14 []) (x1 : Int32) (x2 : Int32) (x3 : Int32) (hf : f_X7_readRun_b73 s0 k14 x1 x2 x3 = some r) : zj_J l G M_X7_readRun W0 (zj_ret G M_X7_readRun W0 (none) (fun _ => [w_Rd G a0 r])) 0 0 [w_Rd G a0 s0] [some (.ref (a0 0)), some (.int x1), some (.int x2), some (.int x3)] 73 [] := by
  unfold f_X7_readRun_b73 at hf
  refine zr_run [(.iload_n 3, 0, 0, 0, .null), (.bipush 48, 0, 0, 0, .int (48 : Int32))] [] (WW' := [w_Rd G a0 s0]) (lv' := [some (.ref (a0 0)), some (.int x1), some (.int x2), some (.int x3)]) (pc' := 76) (st' := [.int (48 : Int32), .int x3]) (by decide +kernel) rfl rfl ⟨trivial, trivial, trivial⟩ ?_
  refine zr_icmp_lt (off := 41) (tgt := 117) (by decide +kernel) (by decide) (fun hc => ?_) (fun hc => ?_)
  · have hf := zift hf hc
    refine zr_run [] [3] (WW' := [w_Rd G a0 s0]) (lv' := [some (.ref (a0 0)), some (.int x1), some (.int x2), none]) (pc' := 117) (st' := []) (by decide +kernel) rfl rfl trivial ?_
    exact t_X7_readRun_b117 l G a0 W0 r s0 x1 x2 hf
  · have hf := ziff hf hc
    refine zr_run [(.iload_n 3, 0, 0, 0, .null), (.bipush 57, 0, 0, 0, .int (57 : Int32))] [] (WW' := [w_Rd G a0 s0]) (lv' := [some (.ref (a0 0)), some (.int x1), some (.int x2), some (.int x3)]) (pc' := 82) (st' := [.int (57 : Int32), .int x3]) (by decide +kernel) rfl rfl ⟨trivial, trivial, trivial⟩ ?_
    refine zr_icmp_gt (off := 35) (tgt := 117) (by decide +kernel) (by decide) (fun hc => ?_) (fun hc => ?_)
    · have hf := zift hf hc
      refine zr_run [] [3] (WW' := [w_Rd G a0 s0]) (lv' := [some (.ref (a0 0)), some (.int x1), some (.int x2), none]) (pc' := 117) (st' := []) (by decide +kernel) rfl rfl trivial ?_
      exact t_X7_readRun_b117 l G a0 W0 r s0 x1 x2 hf
    · have hf := ziff hf hc
      obtain ⟨y10, e10, hf⟩ := zlet_of hf
      refine zr_run [(.aload_n 0, 0, 0, 0, .null), (.aload_n 0, 0, 0, 0, .null), (.getfield 42, 0, 0, 9, .null), (.bipush 10, 0, 0, 0, .int (10 : Int32)), (.imul, 0, 0, 0, .null), (.iload_n 3, 0, 0, 0, .null), (.bipush 48, 0, 0, 0, .int (48 : Int32)), (.isub, 0, 0, 0, .null), (.iadd, 0, 0, 0, .null)] [] (WW' := [w_Rd G a0 s0]) (lv' := [some (.ref (a0 0)), some (.int x1), some (.int x2), some (.int x3)]) (pc' := 98) (st' := [.int (((Rd_value s0) * (10 : Int32)) + (x3 - (48 : Int32))), .ref (a0 0)]) (by decide +kernel) rfl rfl ⟨trivial, trivial, ⟨rfl, rfl, zw_1_107⟩, trivial, trivial, trivial, trivial, trivial, trivial, trivial⟩ ?_
      refine zr_eq (WW2 := [w_Rd G a0 s0]) (lv2 := [some (.ref (a0 0)), some (.int x1), some (.int x2), some (.int x3)]) (st2 := [.int y10, .ref (a0 0)]) rfl rfl (by rw [e10]) ?_
      obtain ⟨y11, e11, hf⟩ := zlet_of hf
      refine zr_run [(.putfield 42, 0, 0, 9, .null)] [] (WW' := [w_Rd G a0 (Rd_s_value s0 y10)]) (lv' := [some (.ref (a0 0)), some (.int x1), some (.int x2), some (.int x3)]) (pc' := 101) (st' := []) (by decide +kernel) rfl rfl ⟨⟨rfl, rfl, rfl, trivial, rfl, rfl, zw_1_107⟩, trivial⟩ ?_
      refine zr_eq (WW2 := [w_Rd G a0 y11]) (lv2 := [some (.ref (a0 0)), some (.int x1), some (.int x2), some (.int x3)]) (st2 := []) (by rw [e11]) rfl rfl ?_
      refine zr_run [(.iinc 2 1, 0, 0, 0, .int (1 : Int32))] [3] (WW' := [w_Rd G a0 y11]) (lv' := [some (.ref (a0 0)), some (.int x1), some (.int (x2 + (1 : Int32))), none]) (pc' := 104) (st' := []) (by decide +kernel) rfl rfl ⟨trivial, trivial⟩ ?_
      exact t_X7_readRun_b104 l G a0 W0 r y11 k14 hk14 x1 (x2 + (1 : Int32)) hf
set_option maxRecDepth 100000 in
set_option maxHeartbeats 4000000 in
theorem t_X7_readRun_H14 (l : Launch) (G : zj_G) (a0 : Nat → Nat) (W0 : List va_W) (r : RdT) (s0 : RdT) (k14 : RdT → Int32 → Int32 → Option (RdT)) (hk14 : ∀ (s0 : RdT) (x1 : Int32) (x2 : Int32), k14 s0 x1 x2 = some r → zj_J l G M_X7_readRun W0 (zj_ret G M_X7_readRun W0 (none) (fun _ => [w_Rd G a0 r])) 0 0 [w_Rd G a0 s0] [some (.ref (a0 0)), some (.int x1), some (.int x2), none] 14 []) (x1 : Int32) (x2 : Int32) (hf : f_X7_readRun_H14 s0 k14 x1 x2 = some r) : zj_J l G M_X7_readRun W0 (zj_ret G M_X7_readRun W0 (none) (fun _ => [w_Rd G a0 r])) 0 0 [w_Rd G a0 s0] [some (.ref (a0 0)), some (.int x1), some (.int x2), none] 14 [] := by
  unfold f_X7_readRun_H14 at hf
  refine zr_run [(.aload_n 0, 0, 0, 0, .null), (.getfield 30, 0, 0, 5, .null), (.aload_n 0, 0, 0, 0, .null), (.getfield 15, 0, 0, 1, .null)] [] (WW' := [w_Rd G a0 s0]) (lv' := [some (.ref (a0 0)), some (.int x1), some (.int x2), none]) (pc' := 22) (st' := [.int (Rd_length s0), .int (Rd_at s0)]) (by decide +kernel) rfl rfl ⟨trivial, ⟨rfl, rfl, zw_1_98⟩, trivial, ⟨rfl, rfl, zw_1_92⟩, trivial⟩ ?_
  refine zr_icmp_ge (off := 95) (tgt := 117) (by decide +kernel) (by decide) (fun hc => ?_) (fun hc => ?_)
  · have hf := zift hf hc
    obtain ⟨h3, hf⟩ := zck_of hf
    refine zr_run [(.aload_n 0, 0, 0, 0, .null), (.getfield 11, 0, 0, 0, .null), (.aload_n 0, 0, 0, 0, .null), (.getfield 30, 0, 0, 5, .null), (.baload, 0, 1, 0, .null), (.istore_n 3, 0, 0, 0, .null), (.iload_n 3, 0, 0, 0, .null), (.bipush 97, 0, 0, 0, .int (97 : Int32))] [] (WW' := [w_Rd G a0 s0]) (lv' := [some (.ref (a0 0)), some (.int x1), some (.int x2), some (.int ((Rd_tape s0) (Rd_at s0).toNatClampNeg))]) (pc' := 38) (st' := [.int (97 : Int32), .int ((Rd_tape s0) (Rd_at s0).toNatClampNeg)]) (by decide +kernel) rfl rfl ⟨trivial, ⟨rfl, rfl, zw_1_90⟩, trivial, ⟨rfl, rfl, zw_1_98⟩, ⟨rfl, rfl, h3⟩, trivial, trivial, trivial, trivial⟩ ?_
    refine zr_icmp_lt (off := 35) (tgt := 73) (by decide +kernel) (by decide) (fun hc => ?_) (fun hc => ?_)
    · have hf := zift hf hc
      exact t_X7_readRun_b73 l G a0 W0 r s0 k14 hk14 x1 x2 ((Rd_tape s0) (Rd_at s0).toNatClampNeg) hf
    · have hf := ziff hf hc
      refine zr_run [(.iload_n 3, 0, 0, 0, .null), (.bipush 122, 0, 0, 0, .int (122 : Int32))] [] (WW' := [w_Rd G a0 s0]) (lv' := [some (.ref (a0 0)), some (.int x1), some (.int x2), some (.int ((Rd_tape s0) (Rd_at s0).toNatClampNeg))]) (pc' := 44) (st' := [.int (122 : Int32), .int ((Rd_tape s0) (Rd_at s0).toNatClampNeg)]) (by decide +kernel) rfl rfl ⟨trivial, trivial, trivial⟩ ?_
      refine zr_icmp_gt (off := 29) (tgt := 73) (by decide +kernel) (by decide) (fun hc => ?_) (fun hc => ?_)
      · have hf := zift hf hc
        exact t_X7_readRun_b73 l G a0 W0 r s0 k14 hk14 x1 x2 ((Rd_tape s0) (Rd_at s0).toNatClampNeg) hf
      · have hf := ziff hf hc
        obtain ⟨y13, e13, hf⟩ := zlet_of hf
        refine zr_run [(.aload_n 0, 0, 0, 0, .null), (.aload_n 0, 0, 0, 0, .null), (.getfield 45, 0, 0, 10, .null), (.ldc2_w 66, 0, 0, 0, .long (32 : Int64)), (.lmul, 0, 0, 0, .null), (.iload_n 3, 0, 0, 0, .null), (.bipush 97, 0, 0, 0, .int (97 : Int32)), (.isub, 0, 0, 0, .null), (.iconst 1, 0, 0, 0, .int (1 : Int32)), (.iadd, 0, 0, 0, .null), (.i2l, 0, 0, 0, .null), (.ladd, 0, 0, 0, .null)] [] (WW' := [w_Rd G a0 s0]) (lv' := [some (.ref (a0 0)), some (.int x1), some (.int x2), some (.int ((Rd_tape s0) (Rd_at s0).toNatClampNeg))]) (pc' := 64) (st' := [.long (((Rd_name s0) * (32 : Int64)) + ((((Rd_tape s0) (Rd_at s0).toNatClampNeg) - (97 : Int32)) + (1 : Int32)).toInt64), .ref (a0 0)]) (by decide +kernel) rfl rfl ⟨trivial, trivial, ⟨rfl, rfl, zw_1_108⟩, zw_1_89, trivial, trivial, trivial, trivial, trivial, trivial, trivial, trivial, trivial⟩ ?_
        refine zr_eq (WW2 := [w_Rd G a0 s0]) (lv2 := [some (.ref (a0 0)), some (.int x1), some (.int x2), some (.int ((Rd_tape s0) (Rd_at s0).toNatClampNeg))]) (st2 := [.long y13, .ref (a0 0)]) rfl rfl (by rw [e13]) ?_
        obtain ⟨y14, e14, hf⟩ := zlet_of hf
        refine zr_run [(.putfield 45, 0, 0, 10, .null)] [] (WW' := [w_Rd G a0 (Rd_s_name s0 y13)]) (lv' := [some (.ref (a0 0)), some (.int x1), some (.int x2), some (.int ((Rd_tape s0) (Rd_at s0).toNatClampNeg))]) (pc' := 67) (st' := []) (by decide +kernel) rfl rfl ⟨⟨rfl, rfl, rfl, trivial, rfl, rfl, zw_1_108⟩, trivial⟩ ?_
        refine zr_eq (WW2 := [w_Rd G a0 y14]) (lv2 := [some (.ref (a0 0)), some (.int x1), some (.int x2), some (.int ((Rd_tape s0) (Rd_at s0).toNatClampNeg))]) (st2 := []) (by rw [e14]) rfl rfl ?_
        refine zr_run [(.iinc 1 1, 0, 0, 0, .int (1 : Int32))] [] (WW' := [w_Rd G a0 y14]) (lv' := [some (.ref (a0 0)), some (.int (x1 + (1 : Int32))), some (.int x2), some (.int ((Rd_tape s0) (Rd_at s0).toNatClampNeg))]) (pc' := 70) (st' := []) (by decide +kernel) rfl rfl ⟨trivial, trivial⟩ ?_
        refine zr_goto (off := 34) (tgt := 104) (by decide +kernel) (by decide) ?_
        refine zr_run [] [3] (WW' := [w_Rd G a0 y14]) (lv' := [some (.ref (a0 0)), some (.int (x1 + (1 : Int32))), some (.int x2), none]) (pc' := 104) (st' := []) (by decide +kernel) rfl rfl trivial ?_
        exact t_X7_readRun_b104 l G a0 W0 r y14 k14 hk14 (x1 + (1 : Int32)) x2 hf
  · have hf := ziff hf hc
    exact t_X7_readRun_b117 l G a0 W0 r s0 x1 x2 hf
theorem t_X7_readRun_L14 (l : Launch) (G : zj_G) (a0 : Nat → Nat) (W0 : List va_W) (r : RdT)    : ∀ (n : Nat) (s0 : RdT) (x1 : Int32) (x2 : Int32), f_X7_readRun_L14 n s0 x1 x2 = some r → zj_J l G M_X7_readRun W0 (zj_ret G M_X7_readRun W0 (none) (fun _ => [w_Rd G a0 r])) 0 0 [w_Rd G a0 s0] [some (.ref (a0 0)), some (.int x1), some (.int x2), none] 14 [] := by
  intro n
  induction n with
  | zero => intro s0 x1 x2 hf; exact nomatch (show none = some r from hf)
  | succ n ih => intro s0 x1 x2 hf; exact t_X7_readRun_H14 l G a0 W0 r s0  (f_X7_readRun_L14 n)  ih x1 x2  hf
set_option maxRecDepth 100000 in
set_option maxHeartbeats 4000000 in
theorem c_X7_readRun (l : Launch) (G : zj_G) (a0 : Nat → Nat) (s0 : RdT)  (r : RdT) (hf : f_X7_readRun s0 = some r) : zj_C l G M_X7_readRun yX7_readRun [w_Rd G a0 s0] [.ref (a0 0)] (none) (fun _ => [w_Rd G a0 r]) := by
  have key : ∀ W0 : List va_W, zj_J l G M_X7_readRun W0 (zj_ret G M_X7_readRun W0 (none) (fun _ => [w_Rd G a0 r])) 0 0 [w_Rd G a0 s0] [some (.ref (a0 0)), none, none, none] 0 [] := by
    intro W0
    unfold f_X7_readRun at hf
    obtain ⟨y1, e1, hf⟩ := zlet_of hf
    refine zr_run [(.iconst 0, 0, 0, 0, .int (0 : Int32)), (.istore_n 1, 0, 0, 0, .null), (.iconst 0, 0, 0, 0, .int (0 : Int32)), (.istore_n 2, 0, 0, 0, .null), (.aload_n 0, 0, 0, 0, .null), (.lconst 0, 0, 0, 0, .long (0 : Int64)), (.putfield 45, 0, 0, 10, .null)] [] (WW' := [w_Rd G a0 (Rd_s_name s0 (0 : Int64))]) (lv' := [some (.ref (a0 0)), some (.int (0 : Int32)), some (.int (0 : Int32)), none]) (pc' := 9) (st' := []) (by decide +kernel) rfl rfl ⟨trivial, trivial, trivial, trivial, trivial, trivial, ⟨rfl, rfl, rfl, trivial, rfl, rfl, zw_1_108⟩, trivial⟩ ?_
    refine zr_eq (WW2 := [w_Rd G a0 y1]) (lv2 := [some (.ref (a0 0)), some (.int (0 : Int32)), some (.int (0 : Int32)), none]) (st2 := []) (by rw [e1]) rfl rfl ?_
    obtain ⟨y2, e2, hf⟩ := zlet_of hf
    refine zr_run [(.aload_n 0, 0, 0, 0, .null), (.iconst 0, 0, 0, 0, .int (0 : Int32)), (.putfield 42, 0, 0, 9, .null)] [] (WW' := [w_Rd G a0 (Rd_s_value y1 (0 : Int32))]) (lv' := [some (.ref (a0 0)), some (.int (0 : Int32)), some (.int (0 : Int32)), none]) (pc' := 14) (st' := []) (by decide +kernel) rfl rfl ⟨trivial, trivial, ⟨rfl, rfl, rfl, trivial, rfl, rfl, zw_1_107⟩, trivial⟩ ?_
    refine zr_eq (WW2 := [w_Rd G a0 y2]) (lv2 := [some (.ref (a0 0)), some (.int (0 : Int32)), some (.int (0 : Int32)), none]) (st2 := []) (by rw [e2]) rfl rfl ?_
    exact t_X7_readRun_L14 l G a0 W0 r zFU y2 (0 : Int32) (0 : Int32) hf
  exact zj_entry [some (.ref (a0 0)), none, none, none] (by decide +kernel) rfl (by decide) (Nat.le_of_ble_eq_true rfl) rfl rfl (key _)
def M_X7_advance : zj_M := (RX7, cX7_advance, 2, none, { frames := 1, cells := 0, slots := 0, locals := 23 }, false)
theorem nm_X7_advance : zj_nm yX7_advance 0 := ⟨by decide +kernel, by decide +kernel, by decide +kernel⟩
def f_X7_advance_b39  (s0 : RdT) (k0 : RdT → Option (RdT))  : Option (RdT) := (zlet (Rd_s_at s0 ((Rd_at s0) + (1 : Int32))) fun y2 => k0 y2)
def f_X7_advance_b136  (s0 : RdT)  (x1 : Int32) : Option (RdT) := (zlet (Rd_s_kind s0 x1) fun y7 => (zlet (Rd_s_at y7 ((Rd_at y7) + (1 : Int32))) fun y8 => some y8))
def f_X7_advance_b52  (s0 : RdT)   : Option (RdT) := (zlet (Rd_s_key s0 (-1 : Int32)) fun y4 => (if (Rd_at y4) < (Rd_limit y4) then (zlet (Rd_s_start y4 (Rd_at y4)) fun y5 => (if zb_in (Rd_at y5) 940 = true then (if ((Rd_tape y5) (Rd_at y5).toNatClampNeg) = (59 : Int32) then f_X7_advance_b136 y5 ((Rd_tape y5) (Rd_at y5).toNatClampNeg) else (if ((Rd_tape y5) (Rd_at y5).toNatClampNeg) = (60 : Int32) then f_X7_advance_b136 y5 ((Rd_tape y5) (Rd_at y5).toNatClampNeg) else (if ((Rd_tape y5) (Rd_at y5).toNatClampNeg) = (61 : Int32) then f_X7_advance_b136 y5 ((Rd_tape y5) (Rd_at y5).toNatClampNeg) else (if ((Rd_tape y5) (Rd_at y5).toNatClampNeg) = (62 : Int32) then f_X7_advance_b136 y5 ((Rd_tape y5) (Rd_at y5).toNatClampNeg) else (if ((Rd_tape y5) (Rd_at y5).toNatClampNeg) = (40 : Int32) then f_X7_advance_b136 y5 ((Rd_tape y5) (Rd_at y5).toNatClampNeg) else (if ((Rd_tape y5) (Rd_at y5).toNatClampNeg) = (41 : Int32) then f_X7_advance_b136 y5 ((Rd_tape y5) (Rd_at y5).toNatClampNeg) else ((f_X7_readRun y5).bind fun q9 => (if (Rd_at q9) = (Rd_start q9) then (zlet (Rd_s_kind q9 (1 : Int32)) fun y10 => (zlet (Rd_s_at y10 ((Rd_at y10) + (1 : Int32))) fun y11 => some y11)) else some q9)))))))) else none)) else (zlet (Rd_s_kind y4 (0 : Int32)) fun y12 => (zlet (Rd_s_start y12 (Rd_limit y12)) fun y13 => some y13))))
def f_X7_advance_H0  (s0 : RdT) (k0 : RdT → Option (RdT))  : Option (RdT) := (if (Rd_at s0) < (Rd_limit s0) then (if zb_in (Rd_at s0) 940 = true then (if ((Rd_tape s0) (Rd_at s0).toNatClampNeg) = (32 : Int32) then f_X7_advance_b39 s0 k0 else (if zb_in (Rd_at s0) 940 = true then (if ((Rd_tape s0) (Rd_at s0).toNatClampNeg) = (10 : Int32) then f_X7_advance_b39 s0 k0 else f_X7_advance_b52 s0) else none)) else none) else f_X7_advance_b52 s0)
def f_X7_advance_L0    : Nat → RdT → Option (RdT)
  | 0 => fun _ => none
  | n + 1 => fun s0 => f_X7_advance_H0 s0 (f_X7_advance_L0  n)
def f_X7_advance  (s0 : RdT)  : Option (RdT) := f_X7_advance_L0 zFU s0
set_option maxRecDepth 100000 in
set_option maxHeartbeats 4000000 in
theorem t_X7_advance_b39 (l : Launch) (G : zj_G) (a0 : Nat → Nat) (W0 : List va_W) (r : RdT) (s0 : RdT) (k0 : RdT → Option (RdT)) (hk0 : ∀ (s0 : RdT), k0 s0 = some r → zj_J l G M_X7_advance W0 (zj_ret G M_X7_advance W0 (none) (fun _ => [w_Rd G a0 r])) 0 0 [w_Rd G a0 s0] [some (.ref (a0 0)), none] 0 [])  (hf : f_X7_advance_b39 s0 k0 = some r) : zj_J l G M_X7_advance W0 (zj_ret G M_X7_advance W0 (none) (fun _ => [w_Rd G a0 r])) 0 0 [w_Rd G a0 s0] [some (.ref (a0 0)), none] 39 [] := by
  unfold f_X7_advance_b39 at hf
  obtain ⟨y2, e2, hf⟩ := zlet_of hf
  refine zr_run [(.aload_n 0, 0, 0, 0, .null), (.dup, 0, 0, 0, .null), (.getfield 30, 0, 0, 5, .null), (.iconst 1, 0, 0, 0, .int (1 : Int32)), (.iadd, 0, 0, 0, .null), (.putfield 30, 0, 0, 5, .null)] [] (WW' := [w_Rd G a0 (Rd_s_at s0 ((Rd_at s0) + (1 : Int32)))]) (lv' := [some (.ref (a0 0)), none]) (pc' := 49) (st' := []) (by decide +kernel) rfl rfl ⟨trivial, trivial, ⟨rfl, rfl, zw_1_98⟩, trivial, trivial, ⟨rfl, rfl, rfl, trivial, rfl, rfl, zw_1_98⟩, trivial⟩ ?_
  refine zr_eq (WW2 := [w_Rd G a0 y2]) (lv2 := [some (.ref (a0 0)), none]) (st2 := []) (by rw [e2]) rfl rfl ?_
  refine zr_goto (off := -49) (tgt := 0) (by decide +kernel) (by decide) ?_
  exact hk0 y2 hf
set_option maxRecDepth 100000 in
set_option maxHeartbeats 4000000 in
theorem t_X7_advance_b136 (l : Launch) (G : zj_G) (a0 : Nat → Nat) (W0 : List va_W) (r : RdT) (s0 : RdT)   (x1 : Int32) (hf : f_X7_advance_b136 s0 x1 = some r) : zj_J l G M_X7_advance W0 (zj_ret G M_X7_advance W0 (none) (fun _ => [w_Rd G a0 r])) 0 0 [w_Rd G a0 s0] [some (.ref (a0 0)), some (.int x1)] 136 [] := by
  unfold f_X7_advance_b136 at hf
  obtain ⟨y7, e7, hf⟩ := zlet_of hf
  refine zr_run [(.aload_n 0, 0, 0, 0, .null), (.iload_n 1, 0, 0, 0, .null), (.putfield 33, 0, 0, 6, .null)] [] (WW' := [w_Rd G a0 (Rd_s_kind s0 x1)]) (lv' := [some (.ref (a0 0)), some (.int x1)]) (pc' := 141) (st' := []) (by decide +kernel) rfl rfl ⟨trivial, trivial, ⟨rfl, rfl, rfl, trivial, rfl, rfl, zw_1_99⟩, trivial⟩ ?_
  refine zr_eq (WW2 := [w_Rd G a0 y7]) (lv2 := [some (.ref (a0 0)), some (.int x1)]) (st2 := []) (by rw [e7]) rfl rfl ?_
  obtain ⟨y8, e8, hf⟩ := zlet_of hf
  refine zr_run [(.aload_n 0, 0, 0, 0, .null), (.dup, 0, 0, 0, .null), (.getfield 30, 0, 0, 5, .null), (.iconst 1, 0, 0, 0, .int (1 : Int32)), (.iadd, 0, 0, 0, .null), (.putfield 30, 0, 0, 5, .null)] [] (WW' := [w_Rd G a0 (Rd_s_at y7 ((Rd_at y7) + (1 : Int32)))]) (lv' := [some (.ref (a0 0)), some (.int x1)]) (pc' := 151) (st' := []) (by decide +kernel) rfl rfl ⟨trivial, trivial, ⟨rfl, rfl, zw_1_98⟩, trivial, trivial, ⟨rfl, rfl, rfl, trivial, rfl, rfl, zw_1_98⟩, trivial⟩ ?_
  refine zr_eq (WW2 := [w_Rd G a0 y8]) (lv2 := [some (.ref (a0 0)), some (.int x1)]) (st2 := []) (by rw [e8]) rfl rfl ?_
  obtain rfl := Option.some.inj hf
  exact zr_vret (b0 := fun _ => 0) (by decide +kernel) rfl rfl rfl rfl rfl
set_option maxRecDepth 100000 in
set_option maxHeartbeats 4000000 in
theorem t_X7_advance_b52 (l : Launch) (G : zj_G) (a0 : Nat → Nat) (W0 : List va_W) (r : RdT) (s0 : RdT)    (hf : f_X7_advance_b52 s0 = some r) : zj_J l G M_X7_advance W0 (zj_ret G M_X7_advance W0 (none) (fun _ => [w_Rd G a0 r])) 0 0 [w_Rd G a0 s0] [some (.ref (a0 0)), none] 52 [] := by
  unfold f_X7_advance_b52 at hf
  obtain ⟨y4, e4, hf⟩ := zlet_of hf
  refine zr_run [(.aload_n 0, 0, 0, 0, .null), (.iconst (-1), 0, 0, 0, .int (-1 : Int32)), (.putfield 39, 0, 0, 8, .null)] [] (WW' := [w_Rd G a0 (Rd_s_key s0 (-1 : Int32))]) (lv' := [some (.ref (a0 0)), none]) (pc' := 57) (st' := []) (by decide +kernel) rfl rfl ⟨trivial, trivial, ⟨rfl, rfl, rfl, trivial, rfl, rfl, zw_1_103⟩, trivial⟩ ?_
  refine zr_eq (WW2 := [w_Rd G a0 y4]) (lv2 := [some (.ref (a0 0)), none]) (st2 := []) (by rw [e4]) rfl rfl ?_
  refine zr_run [(.aload_n 0, 0, 0, 0, .null), (.getfield 30, 0, 0, 5, .null), (.aload_n 0, 0, 0, 0, .null), (.getfield 23, 0, 0, 3, .null)] [] (WW' := [w_Rd G a0 y4]) (lv' := [some (.ref (a0 0)), none]) (pc' := 65) (st' := [.int (Rd_limit y4), .int (Rd_at y4)]) (by decide +kernel) rfl rfl ⟨trivial, ⟨rfl, rfl, zw_1_98⟩, trivial, ⟨rfl, rfl, zw_1_96⟩, trivial⟩ ?_
  refine zr_icmp_lt (off := 17) (tgt := 82) (by decide +kernel) (by decide) (fun hc => ?_) (fun hc => ?_)
  · have hf := zift hf hc
    obtain ⟨y5, e5, hf⟩ := zlet_of hf
    refine zr_run [(.aload_n 0, 0, 0, 0, .null), (.aload_n 0, 0, 0, 0, .null), (.getfield 30, 0, 0, 5, .null), (.putfield 36, 0, 0, 7, .null)] [] (WW' := [w_Rd G a0 (Rd_s_start y4 (Rd_at y4))]) (lv' := [some (.ref (a0 0)), none]) (pc' := 90) (st' := []) (by decide +kernel) rfl rfl ⟨trivial, trivial, ⟨rfl, rfl, zw_1_98⟩, ⟨rfl, rfl, rfl, trivial, rfl, rfl, zw_1_102⟩, trivial⟩ ?_
    refine zr_eq (WW2 := [w_Rd G a0 y5]) (lv2 := [some (.ref (a0 0)), none]) (st2 := []) (by rw [e5]) rfl rfl ?_
    obtain ⟨h6, hf⟩ := zck_of hf
    refine zr_run [(.aload_n 0, 0, 0, 0, .null), (.getfield 11, 0, 0, 0, .null), (.aload_n 0, 0, 0, 0, .null), (.getfield 30, 0, 0, 5, .null), (.baload, 0, 1, 0, .null), (.istore_n 1, 0, 0, 0, .null), (.iload_n 1, 0, 0, 0, .null), (.bipush 59, 0, 0, 0, .int (59 : Int32))] [] (WW' := [w_Rd G a0 y5]) (lv' := [some (.ref (a0 0)), some (.int ((Rd_tape y5) (Rd_at y5).toNatClampNeg))]) (pc' := 103) (st' := [.int (59 : Int32), .int ((Rd_tape y5) (Rd_at y5).toNatClampNeg)]) (by decide +kernel) rfl rfl ⟨trivial, ⟨rfl, rfl, zw_1_90⟩, trivial, ⟨rfl, rfl, zw_1_98⟩, ⟨rfl, rfl, h6⟩, trivial, trivial, trivial, trivial⟩ ?_
    refine zr_icmp_eq (off := 33) (tgt := 136) (by decide +kernel) (by decide) (fun hc => ?_) (fun hc => ?_)
    · have hf := zift hf hc
      exact t_X7_advance_b136 l G a0 W0 r y5 ((Rd_tape y5) (Rd_at y5).toNatClampNeg) hf
    · have hf := ziff hf hc
      refine zr_run [(.iload_n 1, 0, 0, 0, .null), (.bipush 60, 0, 0, 0, .int (60 : Int32))] [] (WW' := [w_Rd G a0 y5]) (lv' := [some (.ref (a0 0)), some (.int ((Rd_tape y5) (Rd_at y5).toNatClampNeg))]) (pc' := 109) (st' := [.int (60 : Int32), .int ((Rd_tape y5) (Rd_at y5).toNatClampNeg)]) (by decide +kernel) rfl rfl ⟨trivial, trivial, trivial⟩ ?_
      refine zr_icmp_eq (off := 27) (tgt := 136) (by decide +kernel) (by decide) (fun hc => ?_) (fun hc => ?_)
      · have hf := zift hf hc
        exact t_X7_advance_b136 l G a0 W0 r y5 ((Rd_tape y5) (Rd_at y5).toNatClampNeg) hf
      · have hf := ziff hf hc
        refine zr_run [(.iload_n 1, 0, 0, 0, .null), (.bipush 61, 0, 0, 0, .int (61 : Int32))] [] (WW' := [w_Rd G a0 y5]) (lv' := [some (.ref (a0 0)), some (.int ((Rd_tape y5) (Rd_at y5).toNatClampNeg))]) (pc' := 115) (st' := [.int (61 : Int32), .int ((Rd_tape y5) (Rd_at y5).toNatClampNeg)]) (by decide +kernel) rfl rfl ⟨trivial, trivial, trivial⟩ ?_
        refine zr_icmp_eq (off := 21) (tgt := 136) (by decide +kernel) (by decide) (fun hc => ?_) (fun hc => ?_)
        · have hf := zift hf hc
          exact t_X7_advance_b136 l G a0 W0 r y5 ((Rd_tape y5) (Rd_at y5).toNatClampNeg) hf
        · have hf := ziff hf hc
          refine zr_run [(.iload_n 1, 0, 0, 0, .null), (.bipush 62, 0, 0, 0, .int (62 : Int32))] [] (WW' := [w_Rd G a0 y5]) (lv' := [some (.ref (a0 0)), some (.int ((Rd_tape y5) (Rd_at y5).toNatClampNeg))]) (pc' := 121) (st' := [.int (62 : Int32), .int ((Rd_tape y5) (Rd_at y5).toNatClampNeg)]) (by decide +kernel) rfl rfl ⟨trivial, trivial, trivial⟩ ?_
          refine zr_icmp_eq (off := 15) (tgt := 136) (by decide +kernel) (by decide) (fun hc => ?_) (fun hc => ?_)
          · have hf := zift hf hc
            exact t_X7_advance_b136 l G a0 W0 r y5 ((Rd_tape y5) (Rd_at y5).toNatClampNeg) hf
          · have hf := ziff hf hc
            refine zr_run [(.iload_n 1, 0, 0, 0, .null), (.bipush 40, 0, 0, 0, .int (40 : Int32))] [] (WW' := [w_Rd G a0 y5]) (lv' := [some (.ref (a0 0)), some (.int ((Rd_tape y5) (Rd_at y5).toNatClampNeg))]) (pc' := 127) (st' := [.int (40 : Int32), .int ((Rd_tape y5) (Rd_at y5).toNatClampNeg)]) (by decide +kernel) rfl rfl ⟨trivial, trivial, trivial⟩ ?_
            refine zr_icmp_eq (off := 9) (tgt := 136) (by decide +kernel) (by decide) (fun hc => ?_) (fun hc => ?_)
            · have hf := zift hf hc
              exact t_X7_advance_b136 l G a0 W0 r y5 ((Rd_tape y5) (Rd_at y5).toNatClampNeg) hf
            · have hf := ziff hf hc
              refine zr_run [(.iload_n 1, 0, 0, 0, .null), (.bipush 41, 0, 0, 0, .int (41 : Int32))] [] (WW' := [w_Rd G a0 y5]) (lv' := [some (.ref (a0 0)), some (.int ((Rd_tape y5) (Rd_at y5).toNatClampNeg))]) (pc' := 133) (st' := [.int (41 : Int32), .int ((Rd_tape y5) (Rd_at y5).toNatClampNeg)]) (by decide +kernel) rfl rfl ⟨trivial, trivial, trivial⟩ ?_
              refine zr_icmp_ne (off := 19) (tgt := 152) (by decide +kernel) (by decide) (fun hc => ?_) (fun hc => ?_)
              · have hf := zift hf hc
                exact t_X7_advance_b136 l G a0 W0 r y5 ((Rd_tape y5) (Rd_at y5).toNatClampNeg) hf
              · have hf := ziff hf hc
                obtain ⟨q9, e9, hf⟩ := zbi_of hf
                refine zr_run [(.aload_n 0, 0, 0, 0, .null)] [] (WW' := [w_Rd G a0 y5]) (lv' := [some (.ref (a0 0)), some (.int ((Rd_tape y5) (Rd_at y5).toNatClampNeg))]) (pc' := 153) (st' := [.ref (a0 0)]) (by decide +kernel) rfl rfl ⟨trivial, trivial⟩ ?_
                refine zr_callV (c_X7_readRun l G a0 y5 q9 e9) (WW' := fun _ => [w_Rd G a0 q9]) (st := []) (st' := []) [0] rfl rfl (fun _ => Nat.le_of_ble_eq_true rfl) (fun _ => rfl) rfl rfl nm_X7_readRun zw_3_0 zw_3_2 zw_0_0 zw_1_2 zw_3_3 rfl rfl rfl (Nat.le_of_ble_eq_true rfl) ⟨Nat.le_of_ble_eq_true rfl, Nat.le_of_ble_eq_true rfl⟩ (by decide +kernel) (fun _ => ?_)
                refine zr_run [(.aload_n 0, 0, 0, 0, .null), (.getfield 30, 0, 0, 5, .null), (.aload_n 0, 0, 0, 0, .null), (.getfield 36, 0, 0, 7, .null)] [] (WW' := [w_Rd G a0 q9]) (lv' := [some (.ref (a0 0)), some (.int ((Rd_tape y5) (Rd_at y5).toNatClampNeg))]) (pc' := 164) (st' := [.int (Rd_start q9), .int (Rd_at q9)]) (by decide +kernel) rfl rfl ⟨trivial, ⟨rfl, rfl, zw_1_98⟩, trivial, ⟨rfl, rfl, zw_1_102⟩, trivial⟩ ?_
                refine zr_icmp_ne (off := 18) (tgt := 182) (by decide +kernel) (by decide) (fun hc => ?_) (fun hc => ?_)
                · have hf := zift hf hc
                  obtain ⟨y10, e10, hf⟩ := zlet_of hf
                  refine zr_run [(.aload_n 0, 0, 0, 0, .null), (.iconst 1, 0, 0, 0, .int (1 : Int32)), (.putfield 33, 0, 0, 6, .null)] [] (WW' := [w_Rd G a0 (Rd_s_kind q9 (1 : Int32))]) (lv' := [some (.ref (a0 0)), some (.int ((Rd_tape y5) (Rd_at y5).toNatClampNeg))]) (pc' := 172) (st' := []) (by decide +kernel) rfl rfl ⟨trivial, trivial, ⟨rfl, rfl, rfl, trivial, rfl, rfl, zw_1_99⟩, trivial⟩ ?_
                  refine zr_eq (WW2 := [w_Rd G a0 y10]) (lv2 := [some (.ref (a0 0)), some (.int ((Rd_tape y5) (Rd_at y5).toNatClampNeg))]) (st2 := []) (by rw [e10]) rfl rfl ?_
                  obtain ⟨y11, e11, hf⟩ := zlet_of hf
                  refine zr_run [(.aload_n 0, 0, 0, 0, .null), (.dup, 0, 0, 0, .null), (.getfield 30, 0, 0, 5, .null), (.iconst 1, 0, 0, 0, .int (1 : Int32)), (.iadd, 0, 0, 0, .null), (.putfield 30, 0, 0, 5, .null)] [] (WW' := [w_Rd G a0 (Rd_s_at y10 ((Rd_at y10) + (1 : Int32)))]) (lv' := [some (.ref (a0 0)), some (.int ((Rd_tape y5) (Rd_at y5).toNatClampNeg))]) (pc' := 182) (st' := []) (by decide +kernel) rfl rfl ⟨trivial, trivial, ⟨rfl, rfl, zw_1_98⟩, trivial, trivial, ⟨rfl, rfl, rfl, trivial, rfl, rfl, zw_1_98⟩, trivial⟩ ?_
                  refine zr_eq (WW2 := [w_Rd G a0 y11]) (lv2 := [some (.ref (a0 0)), some (.int ((Rd_tape y5) (Rd_at y5).toNatClampNeg))]) (st2 := []) (by rw [e11]) rfl rfl ?_
                  obtain rfl := Option.some.inj hf
                  exact zr_vret (b0 := fun _ => 0) (by decide +kernel) rfl rfl rfl rfl rfl
                · have hf := ziff hf hc
                  obtain rfl := Option.some.inj hf
                  exact zr_vret (b0 := fun _ => 0) (by decide +kernel) rfl rfl rfl rfl rfl
  · have hf := ziff hf hc
    obtain ⟨y12, e12, hf⟩ := zlet_of hf
    refine zr_run [(.aload_n 0, 0, 0, 0, .null), (.iconst 0, 0, 0, 0, .int (0 : Int32)), (.putfield 33, 0, 0, 6, .null)] [] (WW' := [w_Rd G a0 (Rd_s_kind y4 (0 : Int32))]) (lv' := [some (.ref (a0 0)), none]) (pc' := 73) (st' := []) (by decide +kernel) rfl rfl ⟨trivial, trivial, ⟨rfl, rfl, rfl, trivial, rfl, rfl, zw_1_99⟩, trivial⟩ ?_
    refine zr_eq (WW2 := [w_Rd G a0 y12]) (lv2 := [some (.ref (a0 0)), none]) (st2 := []) (by rw [e12]) rfl rfl ?_
    obtain ⟨y13, e13, hf⟩ := zlet_of hf
    refine zr_run [(.aload_n 0, 0, 0, 0, .null), (.aload_n 0, 0, 0, 0, .null), (.getfield 23, 0, 0, 3, .null), (.putfield 36, 0, 0, 7, .null)] [] (WW' := [w_Rd G a0 (Rd_s_start y12 (Rd_limit y12))]) (lv' := [some (.ref (a0 0)), none]) (pc' := 81) (st' := []) (by decide +kernel) rfl rfl ⟨trivial, trivial, ⟨rfl, rfl, zw_1_96⟩, ⟨rfl, rfl, rfl, trivial, rfl, rfl, zw_1_102⟩, trivial⟩ ?_
    refine zr_eq (WW2 := [w_Rd G a0 y13]) (lv2 := [some (.ref (a0 0)), none]) (st2 := []) (by rw [e13]) rfl rfl ?_
    obtain rfl := Option.some.inj hf
    exact zr_vret (b0 := fun _ => 0) (by decide +kernel) rfl rfl rfl rfl rfl
set_option maxRecDepth 100000 in
set_option maxHeartbeats 4000000 in
theorem t_X7_advance_H0 (l : Launch) (G : zj_G) (a0 : Nat → Nat) (W0 : List va_W) (r : RdT) (s0 : RdT) (k0 : RdT → Option (RdT)) (hk0 : ∀ (s0 : RdT), k0 s0 = some r → zj_J l G M_X7_advance W0 (zj_ret G M_X7_advance W0 (none) (fun _ => [w_Rd G a0 r])) 0 0 [w_Rd G a0 s0] [some (.ref (a0 0)), none] 0 [])  (hf : f_X7_advance_H0 s0 k0 = some r) : zj_J l G M_X7_advance W0 (zj_ret G M_X7_advance W0 (none) (fun _ => [w_Rd G a0 r])) 0 0 [w_Rd G a0 s0] [some (.ref (a0 0)), none] 0 [] := by
  unfold f_X7_advance_H0 at hf
  refine zr_run [(.aload_n 0, 0, 0, 0, .null), (.getfield 30, 0, 0, 5, .null), (.aload_n 0, 0, 0, 0, .null), (.getfield 23, 0, 0, 3, .null)] [] (WW' := [w_Rd G a0 s0]) (lv' := [some (.ref (a0 0)), none]) (pc' := 8) (st' := [.int (Rd_limit s0), .int (Rd_at s0)]) (by decide +kernel) rfl rfl ⟨trivial, ⟨rfl, rfl, zw_1_98⟩, trivial, ⟨rfl, rfl, zw_1_96⟩, trivial⟩ ?_
  refine zr_icmp_ge (off := 44) (tgt := 52) (by decide +kernel) (by decide) (fun hc => ?_) (fun hc => ?_)
  · have hf := zift hf hc
    obtain ⟨h1, hf⟩ := zck_of hf
    refine zr_run [(.aload_n 0, 0, 0, 0, .null), (.getfield 11, 0, 0, 0, .null), (.aload_n 0, 0, 0, 0, .null), (.getfield 30, 0, 0, 5, .null), (.baload, 0, 1, 0, .null), (.bipush 32, 0, 0, 0, .int (32 : Int32))] [] (WW' := [w_Rd G a0 s0]) (lv' := [some (.ref (a0 0)), none]) (pc' := 22) (st' := [.int (32 : Int32), .int ((Rd_tape s0) (Rd_at s0).toNatClampNeg)]) (by decide +kernel) rfl rfl ⟨trivial, ⟨rfl, rfl, zw_1_90⟩, trivial, ⟨rfl, rfl, zw_1_98⟩, ⟨rfl, rfl, h1⟩, trivial, trivial⟩ ?_
    refine zr_icmp_eq (off := 17) (tgt := 39) (by decide +kernel) (by decide) (fun hc => ?_) (fun hc => ?_)
    · have hf := zift hf hc
      exact t_X7_advance_b39 l G a0 W0 r s0 k0 hk0 hf
    · have hf := ziff hf hc
      obtain ⟨h3, hf⟩ := zck_of hf
      refine zr_run [(.aload_n 0, 0, 0, 0, .null), (.getfield 11, 0, 0, 0, .null), (.aload_n 0, 0, 0, 0, .null), (.getfield 30, 0, 0, 5, .null), (.baload, 0, 1, 0, .null), (.bipush 10, 0, 0, 0, .int (10 : Int32))] [] (WW' := [w_Rd G a0 s0]) (lv' := [some (.ref (a0 0)), none]) (pc' := 36) (st' := [.int (10 : Int32), .int ((Rd_tape s0) (Rd_at s0).toNatClampNeg)]) (by decide +kernel) rfl rfl ⟨trivial, ⟨rfl, rfl, zw_1_90⟩, trivial, ⟨rfl, rfl, zw_1_98⟩, ⟨rfl, rfl, h3⟩, trivial, trivial⟩ ?_
      refine zr_icmp_ne (off := 16) (tgt := 52) (by decide +kernel) (by decide) (fun hc => ?_) (fun hc => ?_)
      · have hf := zift hf hc
        exact t_X7_advance_b39 l G a0 W0 r s0 k0 hk0 hf
      · have hf := ziff hf hc
        exact t_X7_advance_b52 l G a0 W0 r s0 hf
  · have hf := ziff hf hc
    exact t_X7_advance_b52 l G a0 W0 r s0 hf
theorem t_X7_advance_L0 (l : Launch) (G : zj_G) (a0 : Nat → Nat) (W0 : List va_W) (r : RdT)    : ∀ (n : Nat) (s0 : RdT), f_X7_advance_L0 n s0 = some r → zj_J l G M_X7_advance W0 (zj_ret G M_X7_advance W0 (none) (fun _ => [w_Rd G a0 r])) 0 0 [w_Rd G a0 s0] [some (.ref (a0 0)), none] 0 [] := by
  intro n
  induction n with
  | zero => intro s0 hf; exact nomatch (show none = some r from hf)
  | succ n ih => intro s0 hf; exact t_X7_advance_H0 l G a0 W0 r s0  (f_X7_advance_L0 n)  ih   hf
set_option maxRecDepth 100000 in
set_option maxHeartbeats 4000000 in
theorem c_X7_advance (l : Launch) (G : zj_G) (a0 : Nat → Nat) (s0 : RdT)  (r : RdT) (hf : f_X7_advance s0 = some r) : zj_C l G M_X7_advance yX7_advance [w_Rd G a0 s0] [.ref (a0 0)] (none) (fun _ => [w_Rd G a0 r]) := by
  have key : ∀ W0 : List va_W, zj_J l G M_X7_advance W0 (zj_ret G M_X7_advance W0 (none) (fun _ => [w_Rd G a0 r])) 0 0 [w_Rd G a0 s0] [some (.ref (a0 0)), none] 0 [] := by
    intro W0
    unfold f_X7_advance at hf
    exact t_X7_advance_L0 l G a0 W0 r zFU s0 hf
  exact zj_entry [some (.ref (a0 0)), none] (by decide +kernel) rfl (by decide) (Nat.le_of_ble_eq_true rfl) rfl rfl (key _)
def M_X7_begin : zj_M := (RX7, cX7_begin, 2, none, { frames := 2, cells := 0, slots := 0, locals := 44 }, false)
theorem nm_X7_begin : zj_nm yX7_begin 1 := ⟨by decide +kernel, by decide +kernel, by decide +kernel⟩
def f_X7_begin_b43  (s0 : RdT)  (z0 : Int32) : Option (RdT) := (zlet (Rd_s_limit s0 z0) fun y5 => (zlet (Rd_s_at y5 (0 : Int32)) fun y6 => ((f_X7_advance y6).bind fun q7 => some q7)))
def f_X7_begin_b24  (s0 : RdT)  (x1 : Int32) (z0 : Int32) : Option (RdT) := (if zb_bo z0 = true then (zlet (Rd_s_tooLong s0 z0) fun y4 => (if (Rd_tooLong y4) = 0 then f_X7_begin_b43 y4 (Rd_length y4) else f_X7_begin_b43 y4 x1)) else none)
def f_X7_begin  (s0 : RdT) (x1 : Int32) : Option (RdT) := (zlet (Rd_s_fault s0 (0 : Int32)) fun y1 => (zlet (Rd_s_faultAt y1 (0 : Int32)) fun y2 => (if x1 < (Rd_length y2) then f_X7_begin_b24 y2 x1 (1 : Int32) else f_X7_begin_b24 y2 x1 (0 : Int32))))
set_option maxRecDepth 100000 in
set_option maxHeartbeats 4000000 in
theorem t_X7_begin_b43 (l : Launch) (G : zj_G) (a0 : Nat → Nat) (W0 : List va_W) (r : RdT) (s0 : RdT)   (z0 : Int32) (hf : f_X7_begin_b43 s0 z0 = some r) : zj_J l G M_X7_begin W0 (zj_ret G M_X7_begin W0 (none) (fun _ => [w_Rd G a0 r])) 0 0 [w_Rd G a0 s0] [some (.ref (a0 0)), none] 43 [.int z0, .ref (a0 0)] := by
  unfold f_X7_begin_b43 at hf
  obtain ⟨y5, e5, hf⟩ := zlet_of hf
  refine zr_run [(.putfield 23, 0, 0, 3, .null)] [] (WW' := [w_Rd G a0 (Rd_s_limit s0 z0)]) (lv' := [some (.ref (a0 0)), none]) (pc' := 46) (st' := []) (by decide +kernel) rfl rfl ⟨⟨rfl, rfl, rfl, trivial, rfl, rfl, zw_1_96⟩, trivial⟩ ?_
  refine zr_eq (WW2 := [w_Rd G a0 y5]) (lv2 := [some (.ref (a0 0)), none]) (st2 := []) (by rw [e5]) rfl rfl ?_
  obtain ⟨y6, e6, hf⟩ := zlet_of hf
  refine zr_run [(.aload_n 0, 0, 0, 0, .null), (.iconst 0, 0, 0, 0, .int (0 : Int32)), (.putfield 30, 0, 0, 5, .null)] [] (WW' := [w_Rd G a0 (Rd_s_at y5 (0 : Int32))]) (lv' := [some (.ref (a0 0)), none]) (pc' := 51) (st' := []) (by decide +kernel) rfl rfl ⟨trivial, trivial, ⟨rfl, rfl, rfl, trivial, rfl, rfl, zw_1_98⟩, trivial⟩ ?_
  refine zr_eq (WW2 := [w_Rd G a0 y6]) (lv2 := [some (.ref (a0 0)), none]) (st2 := []) (by rw [e6]) rfl rfl ?_
  obtain ⟨q7, e7, hf⟩ := zbi_of hf
  refine zr_run [(.aload_n 0, 0, 0, 0, .null)] [] (WW' := [w_Rd G a0 y6]) (lv' := [some (.ref (a0 0)), none]) (pc' := 52) (st' := [.ref (a0 0)]) (by decide +kernel) rfl rfl ⟨trivial, trivial⟩ ?_
  refine zr_callV (c_X7_advance l G a0 y6 q7 e7) (WW' := fun _ => [w_Rd G a0 q7]) (st := []) (st' := []) [0] rfl rfl (fun _ => Nat.le_of_ble_eq_true rfl) (fun _ => rfl) rfl rfl nm_X7_advance zw_2_236 zw_2_237 zw_2_238 zw_1_2 zw_2_239 rfl rfl rfl (Nat.le_of_ble_eq_true rfl) ⟨Nat.le_of_ble_eq_true rfl, Nat.le_of_ble_eq_true rfl⟩ (by decide +kernel) (fun _ => ?_)
  obtain rfl := Option.some.inj hf
  exact zr_vret (b0 := fun _ => 0) (by decide +kernel) rfl rfl rfl rfl rfl
set_option maxRecDepth 100000 in
set_option maxHeartbeats 4000000 in
theorem t_X7_begin_b24 (l : Launch) (G : zj_G) (a0 : Nat → Nat) (W0 : List va_W) (r : RdT) (s0 : RdT)   (x1 : Int32) (z0 : Int32) (hf : f_X7_begin_b24 s0 x1 z0 = some r) : zj_J l G M_X7_begin W0 (zj_ret G M_X7_begin W0 (none) (fun _ => [w_Rd G a0 r])) 0 0 [w_Rd G a0 s0] [some (.ref (a0 0)), some (.int x1)] 24 [.int z0, .ref (a0 0)] := by
  unfold f_X7_begin_b24 at hf
  obtain ⟨h3, hf⟩ := zck_of hf
  obtain ⟨y4, e4, hf⟩ := zlet_of hf
  refine zr_run [(.putfield 26, 0, 0, 4, .null)] [] (WW' := [w_Rd G a0 (Rd_s_tooLong s0 z0)]) (lv' := [some (.ref (a0 0)), some (.int x1)]) (pc' := 27) (st' := []) (by decide +kernel) rfl rfl ⟨⟨rfl, rfl, rfl, trivial, zb_bo_nar h3, zb_bo_fit h3, zw_1_97⟩, trivial⟩ ?_
  refine zr_eq (WW2 := [w_Rd G a0 y4]) (lv2 := [some (.ref (a0 0)), some (.int x1)]) (st2 := []) (by rw [e4]) rfl rfl ?_
  refine zr_run [(.aload_n 0, 0, 0, 0, .null), (.aload_n 0, 0, 0, 0, .null), (.getfield 26, 0, 0, 4, .null)] [] (WW' := [w_Rd G a0 y4]) (lv' := [some (.ref (a0 0)), some (.int x1)]) (pc' := 32) (st' := [.int (Rd_tooLong y4), .ref (a0 0)]) (by decide +kernel) rfl rfl ⟨trivial, trivial, ⟨rfl, rfl, zw_1_97⟩, trivial⟩ ?_
  refine zr_if_eq (off := 7) (tgt := 39) (by decide +kernel) (by decide) (fun hc => ?_) (fun hc => ?_)
  · have hf := zift hf hc
    refine zr_run [(.aload_n 0, 0, 0, 0, .null), (.getfield 15, 0, 0, 1, .null)] [1] (WW' := [w_Rd G a0 y4]) (lv' := [some (.ref (a0 0)), none]) (pc' := 43) (st' := [.int (Rd_length y4), .ref (a0 0)]) (by decide +kernel) rfl rfl ⟨trivial, ⟨rfl, rfl, zw_1_92⟩, trivial⟩ ?_
    exact t_X7_begin_b43 l G a0 W0 r y4 (Rd_length y4) hf
  · have hf := ziff hf hc
    refine zr_run [(.iload_n 1, 0, 0, 0, .null)] [] (WW' := [w_Rd G a0 y4]) (lv' := [some (.ref (a0 0)), some (.int x1)]) (pc' := 36) (st' := [.int x1, .ref (a0 0)]) (by decide +kernel) rfl rfl ⟨trivial, trivial⟩ ?_
    refine zr_goto (off := 7) (tgt := 43) (by decide +kernel) (by decide) ?_
    refine zr_run [] [1] (WW' := [w_Rd G a0 y4]) (lv' := [some (.ref (a0 0)), none]) (pc' := 43) (st' := [.int x1, .ref (a0 0)]) (by decide +kernel) rfl rfl trivial ?_
    exact t_X7_begin_b43 l G a0 W0 r y4 x1 hf
set_option maxRecDepth 100000 in
set_option maxHeartbeats 4000000 in
theorem c_X7_begin (l : Launch) (G : zj_G) (a0 : Nat → Nat) (s0 : RdT) (x1 : Int32) (r : RdT) (hf : f_X7_begin s0 x1 = some r) : zj_C l G M_X7_begin yX7_begin [w_Rd G a0 s0] [.ref (a0 0), .int x1] (none) (fun _ => [w_Rd G a0 r]) := by
  have key : ∀ W0 : List va_W, zj_J l G M_X7_begin W0 (zj_ret G M_X7_begin W0 (none) (fun _ => [w_Rd G a0 r])) 0 0 [w_Rd G a0 s0] [some (.ref (a0 0)), some (.int x1)] 0 [] := by
    intro W0
    unfold f_X7_begin at hf
    obtain ⟨y1, e1, hf⟩ := zlet_of hf
    refine zr_run [(.aload_n 0, 0, 0, 0, .null), (.iconst 0, 0, 0, 0, .int (0 : Int32)), (.putfield 49, 0, 0, 11, .null)] [] (WW' := [w_Rd G a0 (Rd_s_fault s0 (0 : Int32))]) (lv' := [some (.ref (a0 0)), some (.int x1)]) (pc' := 5) (st' := []) (by decide +kernel) rfl rfl ⟨trivial, trivial, ⟨rfl, rfl, rfl, trivial, rfl, rfl, zw_1_110⟩, trivial⟩ ?_
    refine zr_eq (WW2 := [w_Rd G a0 y1]) (lv2 := [some (.ref (a0 0)), some (.int x1)]) (st2 := []) (by rw [e1]) rfl rfl ?_
    obtain ⟨y2, e2, hf⟩ := zlet_of hf
    refine zr_run [(.aload_n 0, 0, 0, 0, .null), (.iconst 0, 0, 0, 0, .int (0 : Int32)), (.putfield 52, 0, 0, 12, .null)] [] (WW' := [w_Rd G a0 (Rd_s_faultAt y1 (0 : Int32))]) (lv' := [some (.ref (a0 0)), some (.int x1)]) (pc' := 10) (st' := []) (by decide +kernel) rfl rfl ⟨trivial, trivial, ⟨rfl, rfl, rfl, trivial, rfl, rfl, zw_1_115⟩, trivial⟩ ?_
    refine zr_eq (WW2 := [w_Rd G a0 y2]) (lv2 := [some (.ref (a0 0)), some (.int x1)]) (st2 := []) (by rw [e2]) rfl rfl ?_
    refine zr_run [(.aload_n 0, 0, 0, 0, .null), (.aload_n 0, 0, 0, 0, .null), (.getfield 15, 0, 0, 1, .null), (.iload_n 1, 0, 0, 0, .null)] [] (WW' := [w_Rd G a0 y2]) (lv' := [some (.ref (a0 0)), some (.int x1)]) (pc' := 16) (st' := [.int x1, .int (Rd_length y2), .ref (a0 0)]) (by decide +kernel) rfl rfl ⟨trivial, trivial, ⟨rfl, rfl, zw_1_92⟩, trivial, trivial⟩ ?_
    refine zr_icmp_le (off := 7) (tgt := 23) (by decide +kernel) (by decide) (fun hc => ?_) (fun hc => ?_)
    · have hf := zift hf hc
      refine zr_run [(.iconst 1, 0, 0, 0, .int (1 : Int32))] [] (WW' := [w_Rd G a0 y2]) (lv' := [some (.ref (a0 0)), some (.int x1)]) (pc' := 20) (st' := [.int (1 : Int32), .ref (a0 0)]) (by decide +kernel) rfl rfl ⟨trivial, trivial⟩ ?_
      refine zr_goto (off := 4) (tgt := 24) (by decide +kernel) (by decide) ?_
      exact t_X7_begin_b24 l G a0 W0 r y2 x1 (1 : Int32) hf
    · have hf := ziff hf hc
      refine zr_run [(.iconst 0, 0, 0, 0, .int (0 : Int32))] [] (WW' := [w_Rd G a0 y2]) (lv' := [some (.ref (a0 0)), some (.int x1)]) (pc' := 24) (st' := [.int (0 : Int32), .ref (a0 0)]) (by decide +kernel) rfl rfl ⟨trivial, trivial⟩ ?_
      exact t_X7_begin_b24 l G a0 W0 r y2 x1 (0 : Int32) hf
  exact zj_entry [some (.ref (a0 0)), some (.int x1)] (by decide +kernel) rfl (by decide) (Nat.le_of_ble_eq_true rfl) rfl rfl (key _)
def M_X7_fail : zj_M := (RX7, cX7_fail, 2, none, { frames := 0, cells := 0, slots := 0, locals := 0 }, false)
theorem nm_X7_fail : zj_nm yX7_fail 1 := ⟨by decide +kernel, by decide +kernel, by decide +kernel⟩
def f_X7_fail  (s0 : RdT) (x1 : Int32) : Option (RdT) := (if (Rd_fault s0) = 0 then (zlet (Rd_s_fault s0 x1) fun y1 => (zlet (Rd_s_faultAt y1 (Rd_start y1)) fun y2 => some y2)) else some s0)
set_option maxRecDepth 100000 in
set_option maxHeartbeats 4000000 in
theorem c_X7_fail (l : Launch) (G : zj_G) (a0 : Nat → Nat) (s0 : RdT) (x1 : Int32) (r : RdT) (hf : f_X7_fail s0 x1 = some r) : zj_C l G M_X7_fail yX7_fail [w_Rd G a0 s0] [.ref (a0 0), .int x1] (none) (fun _ => [w_Rd G a0 r]) := by
  have key : ∀ W0 : List va_W, zj_J l G M_X7_fail W0 (zj_ret G M_X7_fail W0 (none) (fun _ => [w_Rd G a0 r])) 0 0 [w_Rd G a0 s0] [some (.ref (a0 0)), some (.int x1)] 0 [] := by
    intro W0
    unfold f_X7_fail at hf
    refine zr_run [(.aload_n 0, 0, 0, 0, .null), (.getfield 49, 0, 0, 11, .null)] [] (WW' := [w_Rd G a0 s0]) (lv' := [some (.ref (a0 0)), some (.int x1)]) (pc' := 4) (st' := [.int (Rd_fault s0)]) (by decide +kernel) rfl rfl ⟨trivial, ⟨rfl, rfl, zw_1_110⟩, trivial⟩ ?_
    refine zr_if_ne (off := 16) (tgt := 20) (by decide +kernel) (by decide) (fun hc => ?_) (fun hc => ?_)
    · have hf := zift hf hc
      obtain ⟨y1, e1, hf⟩ := zlet_of hf
      refine zr_run [(.aload_n 0, 0, 0, 0, .null), (.iload_n 1, 0, 0, 0, .null), (.putfield 49, 0, 0, 11, .null)] [] (WW' := [w_Rd G a0 (Rd_s_fault s0 x1)]) (lv' := [some (.ref (a0 0)), some (.int x1)]) (pc' := 12) (st' := []) (by decide +kernel) rfl rfl ⟨trivial, trivial, ⟨rfl, rfl, rfl, trivial, rfl, rfl, zw_1_110⟩, trivial⟩ ?_
      refine zr_eq (WW2 := [w_Rd G a0 y1]) (lv2 := [some (.ref (a0 0)), some (.int x1)]) (st2 := []) (by rw [e1]) rfl rfl ?_
      obtain ⟨y2, e2, hf⟩ := zlet_of hf
      refine zr_run [(.aload_n 0, 0, 0, 0, .null), (.aload_n 0, 0, 0, 0, .null), (.getfield 36, 0, 0, 7, .null), (.putfield 52, 0, 0, 12, .null)] [] (WW' := [w_Rd G a0 (Rd_s_faultAt y1 (Rd_start y1))]) (lv' := [some (.ref (a0 0)), some (.int x1)]) (pc' := 20) (st' := []) (by decide +kernel) rfl rfl ⟨trivial, trivial, ⟨rfl, rfl, zw_1_102⟩, ⟨rfl, rfl, rfl, trivial, rfl, rfl, zw_1_115⟩, trivial⟩ ?_
      refine zr_eq (WW2 := [w_Rd G a0 y2]) (lv2 := [some (.ref (a0 0)), some (.int x1)]) (st2 := []) (by rw [e2]) rfl rfl ?_
      obtain rfl := Option.some.inj hf
      exact zr_vret (b0 := fun _ => 0) (by decide +kernel) rfl rfl rfl rfl rfl
    · have hf := ziff hf hc
      obtain rfl := Option.some.inj hf
      exact zr_vret (b0 := fun _ => 0) (by decide +kernel) rfl rfl rfl rfl rfl
  exact zj_entry [some (.ref (a0 0)), some (.int x1)] (by decide +kernel) rfl (by decide) (Nat.le_of_ble_eq_true rfl) rfl rfl (key _)
def M_X7_more : zj_M := (RX7, cX7_more, 1, (some .boolean), { frames := 1, cells := 0, slots := 0, locals := 21 }, false)
theorem nm_X7_more : zj_nm yX7_more 0 := ⟨by decide +kernel, by decide +kernel, by decide +kernel⟩
def f_X7_more_b37  (s0 : RdT)   : Option (Int32 × RdT) := some ((0 : Int32), s0)
def f_X7_more_b19  (s0 : RdT)   : Option (Int32 × RdT) := (if (Rd_fault s0) = 0 then (if (Rd_kind s0) = 0 then f_X7_more_b37 s0 else some ((1 : Int32), s0)) else f_X7_more_b37 s0)
def f_X7_more  (s0 : RdT)  : Option (Int32 × RdT) := (if (Rd_kind s0) = 0 then (if (Rd_tooLong s0) = 0 then f_X7_more_b19 s0 else ((f_X7_fail s0 (1 : Int32)).bind fun q1 => f_X7_more_b19 q1)) else f_X7_more_b19 s0)
set_option maxRecDepth 100000 in
set_option maxHeartbeats 4000000 in
theorem t_X7_more_b37 (l : Launch) (G : zj_G) (a0 : Nat → Nat) (W0 : List va_W) (r : Int32 × RdT) (s0 : RdT)    (hf : f_X7_more_b37 s0 = some r) : zj_J l G M_X7_more W0 (zj_ret G M_X7_more W0 (some (.int r.1)) (fun _ => [w_Rd G a0 r.2])) 0 0 [w_Rd G a0 s0] [none] 37 [] := by
  unfold f_X7_more_b37 at hf
  refine zr_run [(.iconst 0, 0, 0, 0, .int (0 : Int32))] [] (WW' := [w_Rd G a0 s0]) (lv' := [none]) (pc' := 38) (st' := [.int (0 : Int32)]) (by decide +kernel) rfl rfl ⟨trivial, trivial⟩ ?_
  obtain rfl := Option.some.inj hf
  exact zr_zret (by decide) (b0 := fun _ => 0) (by decide +kernel) rfl rfl rfl rfl rfl
set_option maxRecDepth 100000 in
set_option maxHeartbeats 4000000 in
theorem t_X7_more_b19 (l : Launch) (G : zj_G) (a0 : Nat → Nat) (W0 : List va_W) (r : Int32 × RdT) (s0 : RdT)    (hf : f_X7_more_b19 s0 = some r) : zj_J l G M_X7_more W0 (zj_ret G M_X7_more W0 (some (.int r.1)) (fun _ => [w_Rd G a0 r.2])) 0 0 [w_Rd G a0 s0] [some (.ref (a0 0))] 19 [] := by
  unfold f_X7_more_b19 at hf
  refine zr_run [(.aload_n 0, 0, 0, 0, .null), (.getfield 49, 0, 0, 11, .null)] [] (WW' := [w_Rd G a0 s0]) (lv' := [some (.ref (a0 0))]) (pc' := 23) (st' := [.int (Rd_fault s0)]) (by decide +kernel) rfl rfl ⟨trivial, ⟨rfl, rfl, zw_1_110⟩, trivial⟩ ?_
  refine zr_if_ne (off := 14) (tgt := 37) (by decide +kernel) (by decide) (fun hc => ?_) (fun hc => ?_)
  · have hf := zift hf hc
    refine zr_run [(.aload_n 0, 0, 0, 0, .null), (.getfield 33, 0, 0, 6, .null)] [] (WW' := [w_Rd G a0 s0]) (lv' := [some (.ref (a0 0))]) (pc' := 30) (st' := [.int (Rd_kind s0)]) (by decide +kernel) rfl rfl ⟨trivial, ⟨rfl, rfl, zw_1_99⟩, trivial⟩ ?_
    refine zr_if_eq (off := 7) (tgt := 37) (by decide +kernel) (by decide) (fun hc => ?_) (fun hc => ?_)
    · have hf := zift hf hc
      refine zr_run [] [0] (WW' := [w_Rd G a0 s0]) (lv' := [none]) (pc' := 37) (st' := []) (by decide +kernel) rfl rfl trivial ?_
      exact t_X7_more_b37 l G a0 W0 r s0 hf
    · have hf := ziff hf hc
      refine zr_run [(.iconst 1, 0, 0, 0, .int (1 : Int32))] [] (WW' := [w_Rd G a0 s0]) (lv' := [some (.ref (a0 0))]) (pc' := 34) (st' := [.int (1 : Int32)]) (by decide +kernel) rfl rfl ⟨trivial, trivial⟩ ?_
      refine zr_goto (off := 4) (tgt := 38) (by decide +kernel) (by decide) ?_
      obtain rfl := Option.some.inj hf
      exact zr_zret (by decide) (b0 := fun _ => 0) (by decide +kernel) rfl rfl rfl rfl rfl
  · have hf := ziff hf hc
    refine zr_run [] [0] (WW' := [w_Rd G a0 s0]) (lv' := [none]) (pc' := 37) (st' := []) (by decide +kernel) rfl rfl trivial ?_
    exact t_X7_more_b37 l G a0 W0 r s0 hf
set_option maxRecDepth 100000 in
set_option maxHeartbeats 4000000 in
theorem c_X7_more (l : Launch) (G : zj_G) (a0 : Nat → Nat) (s0 : RdT)  (r : Int32 × RdT) (hf : f_X7_more s0 = some r) : zj_C l G M_X7_more yX7_more [w_Rd G a0 s0] [.ref (a0 0)] (some (.int r.1)) (fun _ => [w_Rd G a0 r.2]) := by
  have key : ∀ W0 : List va_W, zj_J l G M_X7_more W0 (zj_ret G M_X7_more W0 (some (.int r.1)) (fun _ => [w_Rd G a0 r.2])) 0 0 [w_Rd G a0 s0] [some (.ref (a0 0))] 0 [] := by
    intro W0
    unfold f_X7_more at hf
    refine zr_run [(.aload_n 0, 0, 0, 0, .null), (.getfield 33, 0, 0, 6, .null)] [] (WW' := [w_Rd G a0 s0]) (lv' := [some (.ref (a0 0))]) (pc' := 4) (st' := [.int (Rd_kind s0)]) (by decide +kernel) rfl rfl ⟨trivial, ⟨rfl, rfl, zw_1_99⟩, trivial⟩ ?_
    refine zr_if_ne (off := 15) (tgt := 19) (by decide +kernel) (by decide) (fun hc => ?_) (fun hc => ?_)
    · have hf := zift hf hc
      refine zr_run [(.aload_n 0, 0, 0, 0, .null), (.getfield 26, 0, 0, 4, .null)] [] (WW' := [w_Rd G a0 s0]) (lv' := [some (.ref (a0 0))]) (pc' := 11) (st' := [.int (Rd_tooLong s0)]) (by decide +kernel) rfl rfl ⟨trivial, ⟨rfl, rfl, zw_1_97⟩, trivial⟩ ?_
      refine zr_if_eq (off := 8) (tgt := 19) (by decide +kernel) (by decide) (fun hc => ?_) (fun hc => ?_)
      · have hf := zift hf hc
        exact t_X7_more_b19 l G a0 W0 r s0 hf
      · have hf := ziff hf hc
        obtain ⟨q1, e1, hf⟩ := zbi_of hf
        refine zr_run [(.aload_n 0, 0, 0, 0, .null), (.iconst 1, 0, 0, 0, .int (1 : Int32))] [] (WW' := [w_Rd G a0 s0]) (lv' := [some (.ref (a0 0))]) (pc' := 16) (st' := [.int (1 : Int32), .ref (a0 0)]) (by decide +kernel) rfl rfl ⟨trivial, trivial, trivial⟩ ?_
        refine zr_callV (c_X7_fail l G a0 s0 (1 : Int32) q1 e1) (WW' := fun _ => [w_Rd G a0 q1]) (st := []) (st' := []) [0] rfl rfl (fun _ => Nat.le_of_ble_eq_true rfl) (fun _ => rfl) rfl rfl nm_X7_fail zw_3_8 zw_3_9 zw_3_10 zw_1_2 zw_3_11 rfl rfl rfl (Nat.le_of_ble_eq_true rfl) ⟨Nat.le_of_ble_eq_true rfl, Nat.le_of_ble_eq_true rfl⟩ (by decide +kernel) (fun _ => ?_)
        exact t_X7_more_b19 l G a0 W0 r q1 hf
    · have hf := ziff hf hc
      exact t_X7_more_b19 l G a0 W0 r s0 hf
  exact zj_entry [some (.ref (a0 0))] (by decide +kernel) rfl (by decide) (Nat.le_of_ble_eq_true rfl) rfl rfl (key _)
def M_X7_expect : zj_M := (RX7, cX7_expect, 2, none, { frames := 2, cells := 0, slots := 0, locals := 44 }, false)
theorem nm_X7_expect : zj_nm yX7_expect 1 := ⟨by decide +kernel, by decide +kernel, by decide +kernel⟩
def f_X7_expect  (s0 : RdT) (x1 : Int32) : Option (RdT) := (if (Rd_fault s0) = 0 then (if (Rd_kind s0) = x1 then ((f_X7_advance s0).bind fun q1 => some q1) else ((f_X7_fail s0 (1 : Int32)).bind fun q2 => some q2)) else some s0)
set_option maxRecDepth 100000 in
set_option maxHeartbeats 4000000 in
theorem c_X7_expect (l : Launch) (G : zj_G) (a0 : Nat → Nat) (s0 : RdT) (x1 : Int32) (r : RdT) (hf : f_X7_expect s0 x1 = some r) : zj_C l G M_X7_expect yX7_expect [w_Rd G a0 s0] [.ref (a0 0), .int x1] (none) (fun _ => [w_Rd G a0 r]) := by
  have key : ∀ W0 : List va_W, zj_J l G M_X7_expect W0 (zj_ret G M_X7_expect W0 (none) (fun _ => [w_Rd G a0 r])) 0 0 [w_Rd G a0 s0] [some (.ref (a0 0)), some (.int x1)] 0 [] := by
    intro W0
    unfold f_X7_expect at hf
    refine zr_run [(.aload_n 0, 0, 0, 0, .null), (.getfield 49, 0, 0, 11, .null)] [] (WW' := [w_Rd G a0 s0]) (lv' := [some (.ref (a0 0)), some (.int x1)]) (pc' := 4) (st' := [.int (Rd_fault s0)]) (by decide +kernel) rfl rfl ⟨trivial, ⟨rfl, rfl, zw_1_110⟩, trivial⟩ ?_
    refine zr_if_eq (off := 4) (tgt := 8) (by decide +kernel) (by decide) (fun hc => ?_) (fun hc => ?_)
    · have hf := zift hf hc
      refine zr_run [(.aload_n 0, 0, 0, 0, .null), (.getfield 33, 0, 0, 6, .null), (.iload_n 1, 0, 0, 0, .null)] [] (WW' := [w_Rd G a0 s0]) (lv' := [some (.ref (a0 0)), some (.int x1)]) (pc' := 13) (st' := [.int x1, .int (Rd_kind s0)]) (by decide +kernel) rfl rfl ⟨trivial, ⟨rfl, rfl, zw_1_99⟩, trivial, trivial⟩ ?_
      refine zr_icmp_ne (off := 10) (tgt := 23) (by decide +kernel) (by decide) (fun hc => ?_) (fun hc => ?_)
      · have hf := zift hf hc
        obtain ⟨q1, e1, hf⟩ := zbi_of hf
        refine zr_run [(.aload_n 0, 0, 0, 0, .null)] [] (WW' := [w_Rd G a0 s0]) (lv' := [some (.ref (a0 0)), some (.int x1)]) (pc' := 17) (st' := [.ref (a0 0)]) (by decide +kernel) rfl rfl ⟨trivial, trivial⟩ ?_
        refine zr_callV (c_X7_advance l G a0 s0 q1 e1) (WW' := fun _ => [w_Rd G a0 q1]) (st := []) (st' := []) [0] rfl rfl (fun _ => Nat.le_of_ble_eq_true rfl) (fun _ => rfl) rfl rfl nm_X7_advance zw_2_236 zw_2_237 zw_2_238 zw_1_2 zw_2_239 rfl rfl rfl (Nat.le_of_ble_eq_true rfl) ⟨Nat.le_of_ble_eq_true rfl, Nat.le_of_ble_eq_true rfl⟩ (by decide +kernel) (fun _ => ?_)
        refine zr_goto (off := 8) (tgt := 28) (by decide +kernel) (by decide) ?_
        obtain rfl := Option.some.inj hf
        exact zr_vret (b0 := fun _ => 0) (by decide +kernel) rfl rfl rfl rfl rfl
      · have hf := ziff hf hc
        obtain ⟨q2, e2, hf⟩ := zbi_of hf
        refine zr_run [(.aload_n 0, 0, 0, 0, .null), (.iconst 1, 0, 0, 0, .int (1 : Int32))] [] (WW' := [w_Rd G a0 s0]) (lv' := [some (.ref (a0 0)), some (.int x1)]) (pc' := 25) (st' := [.int (1 : Int32), .ref (a0 0)]) (by decide +kernel) rfl rfl ⟨trivial, trivial, trivial⟩ ?_
        refine zr_callV (c_X7_fail l G a0 s0 (1 : Int32) q2 e2) (WW' := fun _ => [w_Rd G a0 q2]) (st := []) (st' := []) [0] rfl rfl (fun _ => Nat.le_of_ble_eq_true rfl) (fun _ => rfl) rfl rfl nm_X7_fail zw_3_8 zw_3_9 zw_3_10 zw_1_2 zw_3_11 rfl rfl rfl (Nat.le_of_ble_eq_true rfl) ⟨Nat.le_of_ble_eq_true rfl, Nat.le_of_ble_eq_true rfl⟩ (by decide +kernel) (fun _ => ?_)
        obtain rfl := Option.some.inj hf
        exact zr_vret (b0 := fun _ => 0) (by decide +kernel) rfl rfl rfl rfl rfl
    · have hf := ziff hf hc
      obtain rfl := Option.some.inj hf
      exact zr_vret (b0 := fun _ => 0) (by decide +kernel) rfl rfl rfl rfl rfl
  exact zj_entry [some (.ref (a0 0)), some (.int x1)] (by decide +kernel) rfl (by decide) (Nat.le_of_ble_eq_true rfl) rfl rfl (key _)
def M_X7_number : zj_M := (RX7, cX7_number, 4, (some .int), { frames := 2, cells := 0, slots := 0, locals := 44 }, false)
theorem nm_X7_number : zj_nm yX7_number 2 := ⟨by decide +kernel, by decide +kernel, by decide +kernel⟩
def f_X7_number_b40  (s0 : RdT)  (x1 : Int32) : Option (Int32 × RdT) := ((f_X7_fail s0 (2 : Int32)).bind fun q1 => some (x1, q1))
def f_X7_number  (s0 : RdT) (x1 : Int32) (x2 : Int32) : Option (Int32 × RdT) := (if (Rd_fault s0) = 0 then (if (Rd_kind s0) = (4 : Int32) then (if (Rd_value s0) < x1 then f_X7_number_b40 s0 x1 else (if x2 < (Rd_value s0) then f_X7_number_b40 s0 x1 else ((f_X7_advance s0).bind fun q2 => some ((Rd_value s0), q2)))) else ((f_X7_fail s0 (1 : Int32)).bind fun q3 => some (x1, q3))) else some (x1, s0))
set_option maxRecDepth 100000 in
set_option maxHeartbeats 4000000 in
theorem t_X7_number_b40 (l : Launch) (G : zj_G) (a0 : Nat → Nat) (W0 : List va_W) (r : Int32 × RdT) (s0 : RdT)   (x1 : Int32) (hf : f_X7_number_b40 s0 x1 = some r) : zj_J l G M_X7_number W0 (zj_ret G M_X7_number W0 (some (.int r.1)) (fun _ => [w_Rd G a0 r.2])) 0 0 [w_Rd G a0 s0] [some (.ref (a0 0)), some (.int x1), none, none] 40 [] := by
  unfold f_X7_number_b40 at hf
  obtain ⟨q1, e1, hf⟩ := zbi_of hf
  refine zr_run [(.aload_n 0, 0, 0, 0, .null), (.iconst 2, 0, 0, 0, .int (2 : Int32))] [] (WW' := [w_Rd G a0 s0]) (lv' := [some (.ref (a0 0)), some (.int x1), none, none]) (pc' := 42) (st' := [.int (2 : Int32), .ref (a0 0)]) (by decide +kernel) rfl rfl ⟨trivial, trivial, trivial⟩ ?_
  refine zr_callV (c_X7_fail l G a0 s0 (2 : Int32) q1 e1) (WW' := fun _ => [w_Rd G a0 q1]) (st := []) (st' := []) [0] rfl rfl (fun _ => Nat.le_of_ble_eq_true rfl) (fun _ => rfl) rfl rfl nm_X7_fail zw_3_8 zw_3_9 zw_3_10 zw_1_2 zw_3_11 rfl rfl rfl (Nat.le_of_ble_eq_true rfl) ⟨Nat.le_of_ble_eq_true rfl, Nat.le_of_ble_eq_true rfl⟩ (by decide +kernel) (fun _ => ?_)
  refine zr_run [(.iload_n 1, 0, 0, 0, .null)] [] (WW' := [w_Rd G a0 q1]) (lv' := [some (.ref (a0 0)), some (.int x1), none, none]) (pc' := 46) (st' := [.int x1]) (by decide +kernel) rfl rfl ⟨trivial, trivial⟩ ?_
  obtain rfl := Option.some.inj hf
  exact zr_iret (b0 := fun _ => 0) (by decide +kernel) rfl rfl rfl rfl rfl
set_option maxRecDepth 100000 in
set_option maxHeartbeats 4000000 in
theorem c_X7_number (l : Launch) (G : zj_G) (a0 : Nat → Nat) (s0 : RdT) (x1 : Int32) (x2 : Int32) (r : Int32 × RdT) (hf : f_X7_number s0 x1 x2 = some r) : zj_C l G M_X7_number yX7_number [w_Rd G a0 s0] [.ref (a0 0), .int x1, .int x2] (some (.int r.1)) (fun _ => [w_Rd G a0 r.2]) := by
  have key : ∀ W0 : List va_W, zj_J l G M_X7_number W0 (zj_ret G M_X7_number W0 (some (.int r.1)) (fun _ => [w_Rd G a0 r.2])) 0 0 [w_Rd G a0 s0] [some (.ref (a0 0)), some (.int x1), some (.int x2), none] 0 [] := by
    intro W0
    unfold f_X7_number at hf
    refine zr_run [(.aload_n 0, 0, 0, 0, .null), (.getfield 49, 0, 0, 11, .null)] [] (WW' := [w_Rd G a0 s0]) (lv' := [some (.ref (a0 0)), some (.int x1), some (.int x2), none]) (pc' := 4) (st' := [.int (Rd_fault s0)]) (by decide +kernel) rfl rfl ⟨trivial, ⟨rfl, rfl, zw_1_110⟩, trivial⟩ ?_
    refine zr_if_eq (off := 5) (tgt := 9) (by decide +kernel) (by decide) (fun hc => ?_) (fun hc => ?_)
    · have hf := zift hf hc
      refine zr_run [(.aload_n 0, 0, 0, 0, .null), (.getfield 33, 0, 0, 6, .null), (.iconst 4, 0, 0, 0, .int (4 : Int32))] [] (WW' := [w_Rd G a0 s0]) (lv' := [some (.ref (a0 0)), some (.int x1), some (.int x2), none]) (pc' := 14) (st' := [.int (4 : Int32), .int (Rd_kind s0)]) (by decide +kernel) rfl rfl ⟨trivial, ⟨rfl, rfl, zw_1_99⟩, trivial, trivial⟩ ?_
      refine zr_icmp_eq (off := 10) (tgt := 24) (by decide +kernel) (by decide) (fun hc => ?_) (fun hc => ?_)
      · have hf := zift hf hc
        refine zr_run [(.aload_n 0, 0, 0, 0, .null), (.getfield 42, 0, 0, 9, .null), (.iload_n 1, 0, 0, 0, .null)] [] (WW' := [w_Rd G a0 s0]) (lv' := [some (.ref (a0 0)), some (.int x1), some (.int x2), none]) (pc' := 29) (st' := [.int x1, .int (Rd_value s0)]) (by decide +kernel) rfl rfl ⟨trivial, ⟨rfl, rfl, zw_1_107⟩, trivial, trivial⟩ ?_
        refine zr_icmp_lt (off := 11) (tgt := 40) (by decide +kernel) (by decide) (fun hc => ?_) (fun hc => ?_)
        · have hf := zift hf hc
          refine zr_run [] [2] (WW' := [w_Rd G a0 s0]) (lv' := [some (.ref (a0 0)), some (.int x1), none, none]) (pc' := 40) (st' := []) (by decide +kernel) rfl rfl trivial ?_
          exact t_X7_number_b40 l G a0 W0 r s0 x1 hf
        · have hf := ziff hf hc
          refine zr_run [(.aload_n 0, 0, 0, 0, .null), (.getfield 42, 0, 0, 9, .null), (.iload_n 2, 0, 0, 0, .null)] [] (WW' := [w_Rd G a0 s0]) (lv' := [some (.ref (a0 0)), some (.int x1), some (.int x2), none]) (pc' := 37) (st' := [.int x2, .int (Rd_value s0)]) (by decide +kernel) rfl rfl ⟨trivial, ⟨rfl, rfl, zw_1_107⟩, trivial, trivial⟩ ?_
          refine zr_icmp_le (off := 10) (tgt := 47) (by decide +kernel) (by decide) (fun hc => ?_) (fun hc => ?_)
          · have hf := zift hf hc
            refine zr_run [] [2] (WW' := [w_Rd G a0 s0]) (lv' := [some (.ref (a0 0)), some (.int x1), none, none]) (pc' := 40) (st' := []) (by decide +kernel) rfl rfl trivial ?_
            exact t_X7_number_b40 l G a0 W0 r s0 x1 hf
          · have hf := ziff hf hc
            obtain ⟨q2, e2, hf⟩ := zbi_of hf
            refine zr_run [(.aload_n 0, 0, 0, 0, .null), (.getfield 42, 0, 0, 9, .null), (.istore_n 3, 0, 0, 0, .null), (.aload_n 0, 0, 0, 0, .null)] [] (WW' := [w_Rd G a0 s0]) (lv' := [some (.ref (a0 0)), some (.int x1), some (.int x2), some (.int (Rd_value s0))]) (pc' := 53) (st' := [.ref (a0 0)]) (by decide +kernel) rfl rfl ⟨trivial, ⟨rfl, rfl, zw_1_107⟩, trivial, trivial, trivial⟩ ?_
            refine zr_callV (c_X7_advance l G a0 s0 q2 e2) (WW' := fun _ => [w_Rd G a0 q2]) (st := []) (st' := []) [0] rfl rfl (fun _ => Nat.le_of_ble_eq_true rfl) (fun _ => rfl) rfl rfl nm_X7_advance zw_2_236 zw_2_237 zw_2_238 zw_1_2 zw_2_239 rfl rfl rfl (Nat.le_of_ble_eq_true rfl) ⟨Nat.le_of_ble_eq_true rfl, Nat.le_of_ble_eq_true rfl⟩ (by decide +kernel) (fun _ => ?_)
            refine zr_run [(.iload_n 3, 0, 0, 0, .null)] [] (WW' := [w_Rd G a0 q2]) (lv' := [some (.ref (a0 0)), some (.int x1), some (.int x2), some (.int (Rd_value s0))]) (pc' := 57) (st' := [.int (Rd_value s0)]) (by decide +kernel) rfl rfl ⟨trivial, trivial⟩ ?_
            obtain rfl := Option.some.inj hf
            exact zr_iret (b0 := fun _ => 0) (by decide +kernel) rfl rfl rfl rfl rfl
      · have hf := ziff hf hc
        obtain ⟨q3, e3, hf⟩ := zbi_of hf
        refine zr_run [(.aload_n 0, 0, 0, 0, .null), (.iconst 1, 0, 0, 0, .int (1 : Int32))] [] (WW' := [w_Rd G a0 s0]) (lv' := [some (.ref (a0 0)), some (.int x1), some (.int x2), none]) (pc' := 19) (st' := [.int (1 : Int32), .ref (a0 0)]) (by decide +kernel) rfl rfl ⟨trivial, trivial, trivial⟩ ?_
        refine zr_callV (c_X7_fail l G a0 s0 (1 : Int32) q3 e3) (WW' := fun _ => [w_Rd G a0 q3]) (st := []) (st' := []) [0] rfl rfl (fun _ => Nat.le_of_ble_eq_true rfl) (fun _ => rfl) rfl rfl nm_X7_fail zw_3_8 zw_3_9 zw_3_10 zw_1_2 zw_3_11 rfl rfl rfl (Nat.le_of_ble_eq_true rfl) ⟨Nat.le_of_ble_eq_true rfl, Nat.le_of_ble_eq_true rfl⟩ (by decide +kernel) (fun _ => ?_)
        refine zr_run [(.iload_n 1, 0, 0, 0, .null)] [] (WW' := [w_Rd G a0 q3]) (lv' := [some (.ref (a0 0)), some (.int x1), some (.int x2), none]) (pc' := 23) (st' := [.int x1]) (by decide +kernel) rfl rfl ⟨trivial, trivial⟩ ?_
        obtain rfl := Option.some.inj hf
        exact zr_iret (b0 := fun _ => 0) (by decide +kernel) rfl rfl rfl rfl rfl
    · have hf := ziff hf hc
      refine zr_run [(.iload_n 1, 0, 0, 0, .null)] [] (WW' := [w_Rd G a0 s0]) (lv' := [some (.ref (a0 0)), some (.int x1), some (.int x2), none]) (pc' := 8) (st' := [.int x1]) (by decide +kernel) rfl rfl ⟨trivial, trivial⟩ ?_
      obtain rfl := Option.some.inj hf
      exact zr_iret (b0 := fun _ => 0) (by decide +kernel) rfl rfl rfl rfl rfl
  exact zj_entry [some (.ref (a0 0)), some (.int x1), some (.int x2), none] (by decide +kernel) rfl (by decide) (Nat.le_of_ble_eq_true rfl) rfl rfl (key _)
