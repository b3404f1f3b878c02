def M_X12_wayAt : zj_M := (RX12, cX12_wayAt, 2, (some .int), { frames := 1, cells := 0, slots := 0, locals := 22 }, false)
theorem nm_X12_wayAt : zj_nm yX12_wayAt 1 := ⟨by decide +kernel, by decide +kernel, by decide +kernel⟩
def f_X12_wayAt  (s0 : MoT) (x1 : Int32) : Option (Int32 × MoT) := (zlet (Mo_s_thrown s0 (0 : Int32)) fun y1 => ((f_X12_isIn x1 (0 : Int32) ((Mo_goingMany y1) - (1 : Int32))).bind fun q2 => (if q2 = 0 then some ((-1 : Int32), y1) else (if zb_in x1 10 = true then some (((Mo_going y1) x1.toNatClampNeg), y1) else none))))
set_option maxRecDepth 100000 in
set_option maxHeartbeats 4000000 in
theorem c_X12_wayAt (l : Launch) (G : zj_G) (a0 : Nat → Nat) (s0 : MoT) (x1 : Int32) (r : Int32 × MoT) (hf : f_X12_wayAt s0 x1 = some r) : zj_C l G M_X12_wayAt yX12_wayAt [w_Mo G a0 s0] [.ref (a0 0), .int x1] (some (.int r.1)) (fun _ => [w_Mo G a0 r.2]) := by
  have key : ∀ W0 : List va_W, zj_J l G M_X12_wayAt W0 (zj_ret G M_X12_wayAt W0 (some (.int r.1)) (fun _ => [w_Mo G a0 r.2])) 0 0 [w_Mo G a0 s0] [some (.ref (a0 0)), some (.int x1)] 0 [] := by
    intro W0
    unfold f_X12_wayAt at hf
    obtain ⟨y1, e1, hf⟩ := zlet_of hf
    refine zr_run [(.aload_n 0, 0, 0, 0, .null), (.iconst 0, 0, 0, 0, .int (0 : Int32)), (.putfield 91, 0, 0, 0, .null)] [] (WW' := [w_Mo G a0 (Mo_s_thrown s0 (0 : Int32))]) (lv' := [some (.ref (a0 0)), some (.int x1)]) (pc' := 5) (st' := []) (by decide +kernel) rfl rfl ⟨trivial, trivial, ⟨rfl, rfl, rfl, trivial, rfl, rfl, zw_6_29⟩, trivial⟩ ?_
    refine zr_eq (WW2 := [w_Mo G a0 y1]) (lv2 := [some (.ref (a0 0)), some (.int x1)]) (st2 := []) (by rw [e1]) rfl rfl ?_
    obtain ⟨q2, e2, hf⟩ := zbi_of hf
    refine zr_run [(.iload_n 1, 0, 0, 0, .null), (.iconst 0, 0, 0, 0, .int (0 : Int32)), (.aload_n 0, 0, 0, 0, .null), (.getfield 336, 0, 0, 28, .null), (.iconst 1, 0, 0, 0, .int (1 : Int32)), (.isub, 0, 0, 0, .null)] [] (WW' := [w_Mo G a0 y1]) (lv' := [some (.ref (a0 0)), some (.int x1)]) (pc' := 13) (st' := [.int ((Mo_goingMany y1) - (1 : Int32)), .int (0 : Int32), .int x1]) (by decide +kernel) rfl rfl ⟨trivial, trivial, trivial, ⟨rfl, rfl, zw_6_57⟩, trivial, trivial, trivial⟩ ?_
    refine zr_callS (c_X12_isIn l G x1 (0 : Int32) ((Mo_goingMany y1) - (1 : Int32)) q2 e2) (WW' := fun _ => [w_Mo G a0 y1]) (st := []) (st' := [.int q2]) [] rfl rfl (fun _ => Nat.le_of_ble_eq_true rfl) (fun _ => rfl) rfl rfl nm_X12_isIn zw_7_38 zw_7_39 zw_1_18 zw_7_40 rfl (Nat.le_of_ble_eq_true rfl) ⟨Nat.le_of_ble_eq_true rfl, Nat.le_of_ble_eq_true rfl⟩ (by decide +kernel) (fun _ => ?_)
    refine zr_if_eq (off := 12) (tgt := 28) (by decide +kernel) (by decide) (fun hc => ?_) (fun hc => ?_)
    · have hf := zift hf hc
      refine zr_run [(.iconst (-1), 0, 0, 0, .int (-1 : Int32))] [] (WW' := [w_Mo G a0 y1]) (lv' := [some (.ref (a0 0)), some (.int x1)]) (pc' := 29) (st' := [.int (-1 : Int32)]) (by decide +kernel) rfl rfl ⟨trivial, trivial⟩ ?_
      obtain rfl := Option.some.inj hf
      exact zr_iret (b0 := fun _ => 0) (by decide +kernel) rfl rfl rfl rfl rfl
    · have hf := ziff hf hc
      obtain ⟨h3, hf⟩ := zck_of hf
      refine zr_run [(.aload_n 0, 0, 0, 0, .null), (.getfield 42, 0, 0, 27, .null), (.iload_n 1, 0, 0, 0, .null), (.iaload, 0, 11, 0, .null)] [] (WW' := [w_Mo G a0 y1]) (lv' := [some (.ref (a0 0)), some (.int x1)]) (pc' := 25) (st' := [.int ((Mo_going y1) x1.toNatClampNeg)]) (by decide +kernel) rfl rfl ⟨trivial, ⟨rfl, rfl, zw_6_56⟩, trivial, ⟨rfl, rfl, h3⟩, trivial⟩ ?_
      refine zr_goto (off := 4) (tgt := 29) (by decide +kernel) (by decide) ?_
      obtain rfl := Option.some.inj hf
      exact zr_iret (b0 := fun _ => 0) (by decide +kernel) rfl rfl rfl rfl rfl
  exact zj_entry [some (.ref (a0 0)), some (.int x1)] (by decide +kernel) rfl (by decide) (Nat.le_of_ble_eq_true rfl) rfl rfl (key _)
def M_X12_worst : zj_M := (RX12, cX12_worst, 6, (some .int), { frames := 2, cells := 0, slots := 0, locals := 43 }, false)
theorem nm_X12_worst : zj_nm yX12_worst 2 := ⟨by decide +kernel, by decide +kernel, by decide +kernel⟩
def f_X12_worst_b97  (s0 : MoT) (k44 : MoT → Int32 → Int32 → Int32 → Option (Int32 × MoT)) (x2 : Int32) (x3 : Int32) (x4 : Int32) : Option (Int32 × MoT) := ((f_X12_nextOf s0 x4 x2).bind fun q7 => k44 s0 x2 x3 q7)
def f_X12_worst_b94  (s0 : MoT) (k44 : MoT → Int32 → Int32 → Int32 → Option (Int32 × MoT)) (x2 : Int32) (x4 : Int32) (x5 : Int32) : Option (Int32 × MoT) := f_X12_worst_b97 s0 k44 x2 x5 x4
def f_X12_worst_H44  (s0 : MoT) (k44 : MoT → Int32 → Int32 → Int32 → Option (Int32 × MoT)) (x2 : Int32) (x3 : Int32) (x4 : Int32) : Option (Int32 × MoT) := (if x4 = x2 then some (x3, s0) else ((f_X12_nextOf s0 x4 x2).bind fun q5 => ((f_X12_roadOf s0 x4 q5).bind fun q6 => (if x3 = (-1 : Int32) then f_X12_worst_b94 s0 k44 x2 x4 q6 else (if zb_in ((160 : Int32) + q6) 758 = true then (if zb_in ((160 : Int32) + x3) 758 = true then (if ((Mo_now s0) ((160 : Int32) + x3).toNatClampNeg) < ((Mo_now s0) ((160 : Int32) + q6).toNatClampNeg) then f_X12_worst_b94 s0 k44 x2 x4 q6 else f_X12_worst_b97 s0 k44 x2 x3 x4) else none) else none)))))
def f_X12_worst_L44    : Nat → MoT → Int32 → Int32 → Int32 → Option (Int32 × MoT)
  | 0 => fun _ _ _ _ => none
  | n + 1 => fun s0 x2 x3 x4 => f_X12_worst_H44 s0 (f_X12_worst_L44  n) x2 x3 x4
def f_X12_worst  (s0 : MoT) (x1 : Int32) (x2 : Int32) : Option (Int32 × MoT) := (zlet (Mo_s_thrown s0 (0 : Int32)) fun y1 => ((f_X12_isPlace y1 x1).bind fun q2 => (if q2 = 0 then some ((-1 : Int32), y1) else ((f_X12_isPlace y1 x2).bind fun q3 => (if q3 = 0 then some ((-1 : Int32), y1) else (if x1 = x2 then some ((-1 : Int32), y1) else ((f_X12_farOf y1 x1 x2).bind fun q4 => (if q4 < (100000 : Int32) then f_X12_worst_L44 zFU y1 x2 (-1 : Int32) x1 else some ((-1 : Int32), y1)))))))))
set_option maxRecDepth 100000 in
set_option maxHeartbeats 4000000 in
theorem t_X12_worst_b97 (l : Launch) (G : zj_G) (a0 : Nat → Nat) (W0 : List va_W) (r : Int32 × MoT) (s0 : MoT) (k44 : MoT → Int32 → Int32 → Int32 → Option (Int32 × MoT)) (hk44 : ∀ (s0 : MoT) (x2 : Int32) (x3 : Int32) (x4 : Int32), k44 s0 x2 x3 x4 = some r → zj_J l G M_X12_worst W0 (zj_ret G M_X12_worst W0 (some (.int r.1)) (fun _ => [w_Mo G a0 r.2])) 0 0 [w_Mo G a0 s0] [some (.ref (a0 0)), none, some (.int x2), some (.int x3), some (.int x4), none] 44 []) (x2 : Int32) (x3 : Int32) (x4 : Int32) (hf : f_X12_worst_b97 s0 k44 x2 x3 x4 = some r) : zj_J l G M_X12_worst W0 (zj_ret G M_X12_worst W0 (some (.int r.1)) (fun _ => [w_Mo G a0 r.2])) 0 0 [w_Mo G a0 s0] [some (.ref (a0 0)), none, some (.int x2), some (.int x3), some (.int x4), none] 97 [] := by
  unfold f_X12_worst_b97 at hf
  obtain ⟨q7, e7, hf⟩ := zbi_of hf
  refine zr_run [(.aload_n 0, 0, 0, 0, .null), (.iload 4, 0, 0, 0, .null), (.iload_n 2, 0, 0, 0, .null)] [] (WW' := [w_Mo G a0 s0]) (lv' := [some (.ref (a0 0)), none, some (.int x2), some (.int x3), some (.int x4), none]) (pc' := 101) (st' := [.int x2, .int x4, .ref (a0 0)]) (by decide +kernel) rfl rfl ⟨trivial, trivial, trivial, trivial⟩ ?_
  refine zr_callV (c_X12_nextOf l G a0 s0 x4 x2 q7 e7) (WW' := fun _ => [w_Mo G a0 s0]) (st := []) (st' := [.int q7]) [0] rfl rfl (fun _ => Nat.le_of_ble_eq_true rfl) (fun _ => rfl) rfl rfl nm_X12_nextOf zw_7_112 zw_7_114 zw_0_74 zw_1_18 zw_7_115 rfl rfl rfl (Nat.le_of_ble_eq_true rfl) ⟨Nat.le_of_ble_eq_true rfl, Nat.le_of_ble_eq_true rfl⟩ (by decide +kernel) (fun _ => ?_)
  refine zr_run [(.istore 4, 0, 0, 0, .null)] [] (WW' := [w_Mo G a0 s0]) (lv' := [some (.ref (a0 0)), none, some (.int x2), some (.int x3), some (.int q7), none]) (pc' := 106) (st' := []) (by decide +kernel) rfl rfl ⟨trivial, trivial⟩ ?_
  refine zr_goto (off := -62) (tgt := 44) (by decide +kernel) (by decide) ?_
  exact hk44 s0 x2 x3 q7 hf
set_option maxRecDepth 100000 in
set_option maxHeartbeats 4000000 in
theorem t_X12_worst_b94 (l : Launch) (G : zj_G) (a0 : Nat → Nat) (W0 : List va_W) (r : Int32 × MoT) (s0 : MoT) (k44 : MoT → Int32 → Int32 → Int32 → Option (Int32 × MoT)) (hk44 : ∀ (s0 : MoT) (x2 : Int32) (x3 : Int32) (x4 : Int32), k44 s0 x2 x3 x4 = some r → zj_J l G M_X12_worst W0 (zj_ret G M_X12_worst W0 (some (.int r.1)) (fun _ => [w_Mo G a0 r.2])) 0 0 [w_Mo G a0 s0] [some (.ref (a0 0)), none, some (.int x2), some (.int x3), some (.int x4), none] 44 []) (x2 : Int32) (x4 : Int32) (x5 : Int32) (hf : f_X12_worst_b94 s0 k44 x2 x4 x5 = some r) : zj_J l G M_X12_worst W0 (zj_ret G M_X12_worst W0 (some (.int r.1)) (fun _ => [w_Mo G a0 r.2])) 0 0 [w_Mo G a0 s0] [some (.ref (a0 0)), none, some (.int x2), none, some (.int x4), some (.int x5)] 94 [] := by
  unfold f_X12_worst_b94 at hf
  refine zr_run [(.iload 5, 0, 0, 0, .null), (.istore_n 3, 0, 0, 0, .null)] [5] (WW' := [w_Mo G a0 s0]) (lv' := [some (.ref (a0 0)), none, some (.int x2), some (.int x5), some (.int x4), none]) (pc' := 97) (st' := []) (by decide +kernel) rfl rfl ⟨trivial, trivial, trivial⟩ ?_
  exact t_X12_worst_b97 l G a0 W0 r s0 k44 hk44 x2 x5 x4 hf
set_option maxRecDepth 100000 in
set_option maxHeartbeats 4000000 in
theorem t_X12_worst_H44 (l : Launch) (G : zj_G) (a0 : Nat → Nat) (W0 : List va_W) (r : Int32 × MoT) (s0 : MoT) (k44 : MoT → Int32 → Int32 → Int32 → Option (Int32 × MoT)) (hk44 : ∀ (s0 : MoT) (x2 : Int32) (x3 : Int32) (x4 : Int32), k44 s0 x2 x3 x4 = some r → zj_J l G M_X12_worst W0 (zj_ret G M_X12_worst W0 (some (.int r.1)) (fun _ => [w_Mo G a0 r.2])) 0 0 [w_Mo G a0 s0] [some (.ref (a0 0)), none, some (.int x2), some (.int x3), some (.int x4), none] 44 []) (x2 : Int32) (x3 : Int32) (x4 : Int32) (hf : f_X12_worst_H44 s0 k44 x2 x3 x4 = some r) : zj_J l G M_X12_worst W0 (zj_ret G M_X12_worst W0 (some (.int r.1)) (fun _ => [w_Mo G a0 r.2])) 0 0 [w_Mo G a0 s0] [some (.ref (a0 0)), none, some (.int x2), some (.int x3), some (.int x4), none] 44 [] := by
  unfold f_X12_worst_H44 at hf
  refine zr_run [(.iload 4, 0, 0, 0, .null), (.iload_n 2, 0, 0, 0, .null)] [] (WW' := [w_Mo G a0 s0]) (lv' := [some (.ref (a0 0)), none, some (.int x2), some (.int x3), some (.int x4), none]) (pc' := 47) (st' := [.int x2, .int x4]) (by decide +kernel) rfl rfl ⟨trivial, trivial, trivial⟩ ?_
  refine zr_icmp_eq (off := 62) (tgt := 109) (by decide +kernel) (by decide) (fun hc => ?_) (fun hc => ?_)
  · have hf := zift hf hc
    refine zr_run [(.iload_n 3, 0, 0, 0, .null)] [] (WW' := [w_Mo G a0 s0]) (lv' := [some (.ref (a0 0)), none, some (.int x2), some (.int x3), some (.int x4), none]) (pc' := 110) (st' := [.int x3]) (by decide +kernel) rfl rfl ⟨trivial, trivial⟩ ?_
    obtain rfl := Option.some.inj hf
    exact zr_iret (b0 := fun _ => 0) (by decide +kernel) rfl rfl rfl rfl rfl
  · have hf := ziff hf hc
    obtain ⟨q5, e5, hf⟩ := zbi_of hf
    refine zr_run [(.aload_n 0, 0, 0, 0, .null), (.iload 4, 0, 0, 0, .null), (.aload_n 0, 0, 0, 0, .null), (.iload 4, 0, 0, 0, .null), (.iload_n 2, 0, 0, 0, .null)] [] (WW' := [w_Mo G a0 s0]) (lv' := [some (.ref (a0 0)), none, some (.int x2), some (.int x3), some (.int x4), none]) (pc' := 57) (st' := [.int x2, .int x4, .ref (a0 0), .int x4, .ref (a0 0)]) (by decide +kernel) rfl rfl ⟨trivial, trivial, trivial, trivial, trivial, trivial⟩ ?_
    refine zr_callV (c_X12_nextOf l G a0 s0 x4 x2 q5 e5) (WW' := fun _ => [w_Mo G a0 s0]) (st := [.int x4, .ref (a0 0)]) (st' := [.int q5, .int x4, .ref (a0 0)]) [0] rfl rfl (fun _ => Nat.le_of_ble_eq_true rfl) (fun _ => rfl) rfl rfl nm_X12_nextOf zw_7_112 zw_7_114 zw_0_74 zw_1_18 zw_7_115 rfl rfl rfl (Nat.le_of_ble_eq_true rfl) ⟨Nat.le_of_ble_eq_true rfl, Nat.le_of_ble_eq_true rfl⟩ (by decide +kernel) (fun _ => ?_)
    obtain ⟨q6, e6, hf⟩ := zbi_of hf
    refine zr_callV (c_X12_roadOf l G a0 s0 x4 q5 q6 e6) (WW' := fun _ => [w_Mo G a0 s0]) (st := []) (st' := [.int q6]) [0] rfl rfl (fun _ => Nat.le_of_ble_eq_true rfl) (fun _ => rfl) rfl rfl nm_X12_roadOf zw_7_116 zw_7_118 zw_0_75 zw_1_18 zw_7_119 rfl rfl rfl (Nat.le_of_ble_eq_true rfl) ⟨Nat.le_of_ble_eq_true rfl, Nat.le_of_ble_eq_true rfl⟩ (by decide +kernel) (fun _ => ?_)
    refine zr_run [(.istore 5, 0, 0, 0, .null), (.iload_n 3, 0, 0, 0, .null), (.iconst (-1), 0, 0, 0, .int (-1 : Int32))] [] (WW' := [w_Mo G a0 s0]) (lv' := [some (.ref (a0 0)), none, some (.int x2), some (.int x3), some (.int x4), some (.int q6)]) (pc' := 67) (st' := [.int (-1 : Int32), .int x3]) (by decide +kernel) rfl rfl ⟨trivial, trivial, trivial, trivial⟩ ?_
    refine zr_icmp_eq (off := 27) (tgt := 94) (by decide +kernel) (by decide) (fun hc => ?_) (fun hc => ?_)
    · have hf := zift hf hc
      refine zr_run [] [3] (WW' := [w_Mo G a0 s0]) (lv' := [some (.ref (a0 0)), none, some (.int x2), none, some (.int x4), some (.int q6)]) (pc' := 94) (st' := []) (by decide +kernel) rfl rfl trivial ?_
      exact t_X12_worst_b94 l G a0 W0 r s0 k44 hk44 x2 x4 q6 hf
    · have hf := ziff hf hc
      obtain ⟨h8, hf⟩ := zck_of hf
      obtain ⟨h9, hf⟩ := zck_of hf
      refine zr_run [(.aload_n 0, 0, 0, 0, .null), (.getfield 13, 0, 0, 14, .null), (.sipush 160, 0, 0, 0, .int (160 : Int32)), (.iload 5, 0, 0, 0, .null), (.iadd, 0, 0, 0, .null), (.iaload, 0, 2, 0, .null), (.aload_n 0, 0, 0, 0, .null), (.getfield 13, 0, 0, 14, .null), (.sipush 160, 0, 0, 0, .int (160 : Int32)), (.iload_n 3, 0, 0, 0, .null), (.iadd, 0, 0, 0, .null), (.iaload, 0, 2, 0, .null)] [] (WW' := [w_Mo G a0 s0]) (lv' := [some (.ref (a0 0)), none, some (.int x2), some (.int x3), some (.int x4), some (.int q6)]) (pc' := 91) (st' := [.int ((Mo_now s0) ((160 : Int32) + x3).toNatClampNeg), .int ((Mo_now s0) ((160 : Int32) + q6).toNatClampNeg)]) (by decide +kernel) rfl rfl ⟨trivial, ⟨rfl, rfl, zw_6_43⟩, trivial, trivial, trivial, ⟨rfl, rfl, h8⟩, trivial, ⟨rfl, rfl, zw_6_43⟩, trivial, trivial, trivial, ⟨rfl, rfl, h9⟩, trivial⟩ ?_
      refine zr_icmp_le (off := 6) (tgt := 97) (by decide +kernel) (by decide) (fun hc => ?_) (fun hc => ?_)
      · have hf := zift hf hc
        refine zr_run [] [3] (WW' := [w_Mo G a0 s0]) (lv' := [some (.ref (a0 0)), none, some (.int x2), none, some (.int x4), some (.int q6)]) (pc' := 94) (st' := []) (by decide +kernel) rfl rfl trivial ?_
        exact t_X12_worst_b94 l G a0 W0 r s0 k44 hk44 x2 x4 q6 hf
      · have hf := ziff hf hc
        refine zr_run [] [5] (WW' := [w_Mo G a0 s0]) (lv' := [some (.ref (a0 0)), none, some (.int x2), some (.int x3), some (.int x4), none]) (pc' := 97) (st' := []) (by decide +kernel) rfl rfl trivial ?_
        exact t_X12_worst_b97 l G a0 W0 r s0 k44 hk44 x2 x3 x4 hf
theorem t_X12_worst_L44 (l : Launch) (G : zj_G) (a0 : Nat → Nat) (W0 : List va_W) (r : Int32 × MoT)    : ∀ (n : Nat) (s0 : MoT) (x2 : Int32) (x3 : Int32) (x4 : Int32), f_X12_worst_L44 n s0 x2 x3 x4 = some r → zj_J l G M_X12_worst W0 (zj_ret G M_X12_worst W0 (some (.int r.1)) (fun _ => [w_Mo G a0 r.2])) 0 0 [w_Mo G a0 s0] [some (.ref (a0 0)), none, some (.int x2), some (.int x3), some (.int x4), none] 44 [] := by
  intro n
  induction n with
  | zero => intro s0 x2 x3 x4 hf; exact nomatch (show none = some r from hf)
  | succ n ih => intro s0 x2 x3 x4 hf; exact t_X12_worst_H44 l G a0 W0 r s0  (f_X12_worst_L44 n)  ih x2 x3 x4  hf
set_option maxRecDepth 100000 in
set_option maxHeartbeats 4000000 in
theorem c_X12_worst (l : Launch) (G : zj_G) (a0 : Nat → Nat) (s0 : MoT) (x1 : Int32) (x2 : Int32) (r : Int32 × MoT) (hf : f_X12_worst s0 x1 x2 = some r) : zj_C l G M_X12_worst yX12_worst [w_Mo G a0 s0] [.ref (a0 0), .int x1, .int x2] (some (.int r.1)) (fun _ => [w_Mo G a0 r.2]) := by
  have key : ∀ W0 : List va_W, zj_J l G M_X12_worst W0 (zj_ret G M_X12_worst W0 (some (.int r.1)) (fun _ => [w_Mo G a0 r.2])) 0 0 [w_Mo G a0 s0] [some (.ref (a0 0)), some (.int x1), some (.int x2), none, none, none] 0 [] := by
    intro W0
    unfold f_X12_worst at hf
    obtain ⟨y1, e1, hf⟩ := zlet_of hf
    refine zr_run [(.aload_n 0, 0, 0, 0, .null), (.iconst 0, 0, 0, 0, .int (0 : Int32)), (.putfield 91, 0, 0, 0, .null)] [] (WW' := [w_Mo G a0 (Mo_s_thrown s0 (0 : Int32))]) (lv' := [some (.ref (a0 0)), some (.int x1), some (.int x2), none, none, none]) (pc' := 5) (st' := []) (by decide +kernel) rfl rfl ⟨trivial, trivial, ⟨rfl, rfl, rfl, trivial, rfl, rfl, zw_6_29⟩, trivial⟩ ?_
    refine zr_eq (WW2 := [w_Mo G a0 y1]) (lv2 := [some (.ref (a0 0)), some (.int x1), some (.int x2), none, none, none]) (st2 := []) (by rw [e1]) rfl rfl ?_
    obtain ⟨q2, e2, hf⟩ := zbi_of hf
    refine zr_run [(.aload_n 0, 0, 0, 0, .null), (.iload_n 1, 0, 0, 0, .null)] [] (WW' := [w_Mo G a0 y1]) (lv' := [some (.ref (a0 0)), some (.int x1), some (.int x2), none, none, none]) (pc' := 7) (st' := [.int x1, .ref (a0 0)]) (by decide +kernel) rfl rfl ⟨trivial, trivial, trivial⟩ ?_
    refine zr_callV (c_X12_isPlace l G a0 y1 x1 q2 e2) (WW' := fun _ => [w_Mo G a0 y1]) (st := []) (st' := [.int q2]) [0] rfl rfl (fun _ => Nat.le_of_ble_eq_true rfl) (fun _ => rfl) rfl rfl nm_X12_isPlace zw_7_96 zw_7_98 zw_0_70 zw_1_18 zw_7_99 rfl rfl rfl (Nat.le_of_ble_eq_true rfl) ⟨Nat.le_of_ble_eq_true rfl, Nat.le_of_ble_eq_true rfl⟩ (by decide +kernel) (fun _ => ?_)
    refine zr_if_eq (off := 27) (tgt := 37) (by decide +kernel) (by decide) (fun hc => ?_) (fun hc => ?_)
    · have hf := zift hf hc
      refine zr_run [(.iconst (-1), 0, 0, 0, .int (-1 : Int32))] [] (WW' := [w_Mo G a0 y1]) (lv' := [some (.ref (a0 0)), some (.int x1), some (.int x2), none, none, none]) (pc' := 38) (st' := [.int (-1 : Int32)]) (by decide +kernel) rfl rfl ⟨trivial, trivial⟩ ?_
      obtain rfl := Option.some.inj hf
      exact zr_iret (b0 := fun _ => 0) (by decide +kernel) rfl rfl rfl rfl rfl
    · have hf := ziff hf hc
      obtain ⟨q3, e3, hf⟩ := zbi_of hf
      refine zr_run [(.aload_n 0, 0, 0, 0, .null), (.iload_n 2, 0, 0, 0, .null)] [] (WW' := [w_Mo G a0 y1]) (lv' := [some (.ref (a0 0)), some (.int x1), some (.int x2), none, none, none]) (pc' := 15) (st' := [.int x2, .ref (a0 0)]) (by decide +kernel) rfl rfl ⟨trivial, trivial, trivial⟩ ?_
      refine zr_callV (c_X12_isPlace l G a0 y1 x2 q3 e3) (WW' := fun _ => [w_Mo G a0 y1]) (st := []) (st' := [.int q3]) [0] rfl rfl (fun _ => Nat.le_of_ble_eq_true rfl) (fun _ => rfl) rfl rfl nm_X12_isPlace zw_7_96 zw_7_98 zw_0_70 zw_1_18 zw_7_99 rfl rfl rfl (Nat.le_of_ble_eq_true rfl) ⟨Nat.le_of_ble_eq_true rfl, Nat.le_of_ble_eq_true rfl⟩ (by decide +kernel) (fun _ => ?_)
      refine zr_if_eq (off := 19) (tgt := 37) (by decide +kernel) (by decide) (fun hc => ?_) (fun hc => ?_)
      · have hf := zift hf hc
        refine zr_run [(.iconst (-1), 0, 0, 0, .int (-1 : Int32))] [] (WW' := [w_Mo G a0 y1]) (lv' := [some (.ref (a0 0)), some (.int x1), some (.int x2), none, none, none]) (pc' := 38) (st' := [.int (-1 : Int32)]) (by decide +kernel) rfl rfl ⟨trivial, trivial⟩ ?_
        obtain rfl := Option.some.inj hf
        exact zr_iret (b0 := fun _ => 0) (by decide +kernel) rfl rfl rfl rfl rfl
      · have hf := ziff hf hc
        refine zr_run [(.iload_n 1, 0, 0, 0, .null), (.iload_n 2, 0, 0, 0, .null)] [] (WW' := [w_Mo G a0 y1]) (lv' := [some (.ref (a0 0)), some (.int x1), some (.int x2), none, none, none]) (pc' := 23) (st' := [.int x2, .int x1]) (by decide +kernel) rfl rfl ⟨trivial, trivial, trivial⟩ ?_
        refine zr_icmp_eq (off := 14) (tgt := 37) (by decide +kernel) (by decide) (fun hc => ?_) (fun hc => ?_)
        · have hf := zift hf hc
          refine zr_run [(.iconst (-1), 0, 0, 0, .int (-1 : Int32))] [] (WW' := [w_Mo G a0 y1]) (lv' := [some (.ref (a0 0)), some (.int x1), some (.int x2), none, none, none]) (pc' := 38) (st' := [.int (-1 : Int32)]) (by decide +kernel) rfl rfl ⟨trivial, trivial⟩ ?_
          obtain rfl := Option.some.inj hf
          exact zr_iret (b0 := fun _ => 0) (by decide +kernel) rfl rfl rfl rfl rfl
        · have hf := ziff hf hc
          obtain ⟨q4, e4, hf⟩ := zbi_of hf
          refine zr_run [(.aload_n 0, 0, 0, 0, .null), (.iload_n 1, 0, 0, 0, .null), (.iload_n 2, 0, 0, 0, .null)] [] (WW' := [w_Mo G a0 y1]) (lv' := [some (.ref (a0 0)), some (.int x1), some (.int x2), none, none, none]) (pc' := 29) (st' := [.int x2, .int x1, .ref (a0 0)]) (by decide +kernel) rfl rfl ⟨trivial, trivial, trivial, trivial⟩ ?_
          refine zr_callV (c_X12_farOf l G a0 y1 x1 x2 q4 e4) (WW' := fun _ => [w_Mo G a0 y1]) (st := []) (st' := [.int q4]) [0] rfl rfl (fun _ => Nat.le_of_ble_eq_true rfl) (fun _ => rfl) rfl rfl nm_X12_farOf zw_7_164 zw_7_166 zw_0_83 zw_1_18 zw_7_167 rfl rfl rfl (Nat.le_of_ble_eq_true rfl) ⟨Nat.le_of_ble_eq_true rfl, Nat.le_of_ble_eq_true rfl⟩ (by decide +kernel) (fun _ => ?_)
          refine zr_run [(.ldc 218, 0, 0, 0, .int (100000 : Int32))] [] (WW' := [w_Mo G a0 y1]) (lv' := [some (.ref (a0 0)), some (.int x1), some (.int x2), none, none, none]) (pc' := 34) (st' := [.int (100000 : Int32), .int q4]) (by decide +kernel) rfl rfl ⟨zw_7_80, trivial⟩ ?_
          refine zr_icmp_lt (off := 5) (tgt := 39) (by decide +kernel) (by decide) (fun hc => ?_) (fun hc => ?_)
          · have hf := zift hf hc
            refine zr_run [(.iconst (-1), 0, 0, 0, .int (-1 : Int32)), (.istore_n 3, 0, 0, 0, .null), (.iload_n 1, 0, 0, 0, .null), (.istore 4, 0, 0, 0, .null)] [1] (WW' := [w_Mo G a0 y1]) (lv' := [some (.ref (a0 0)), none, some (.int x2), some (.int (-1 : Int32)), some (.int x1), none]) (pc' := 44) (st' := []) (by decide +kernel) rfl rfl ⟨trivial, trivial, trivial, trivial, trivial⟩ ?_
            exact t_X12_worst_L44 l G a0 W0 r zFU y1 x2 (-1 : Int32) x1 hf
          · have hf := ziff hf hc
            refine zr_run [(.iconst (-1), 0, 0, 0, .int (-1 : Int32))] [] (WW' := [w_Mo G a0 y1]) (lv' := [some (.ref (a0 0)), some (.int x1), some (.int x2), none, none, none]) (pc' := 38) (st' := [.int (-1 : Int32)]) (by decide +kernel) rfl rfl ⟨trivial, trivial⟩ ?_
            obtain rfl := Option.some.inj hf
            exact zr_iret (b0 := fun _ => 0) (by decide +kernel) rfl rfl rfl rfl rfl
  exact zj_entry [some (.ref (a0 0)), some (.int x1), some (.int x2), none, none, none] (by decide +kernel) rfl (by decide) (Nat.le_of_ble_eq_true rfl) rfl rfl (key _)
def M_X12_at : zj_M := (RX12, cX12_at, 4, (some .int), { frames := 0, cells := 0, slots := 0, locals := 0 }, false)
theorem nm_X12_at : zj_nm yX12_at 3 := ⟨by decide +kernel, by decide +kernel, by decide +kernel⟩
def f_X12_at  (s0 : MoT) (x1 : Int32) (x2 : Int32) (x3 : Int32) : Option (Int32) := some ((((542 : Int32) * x1) + ((2 : Int32) * x2)) + x3)
set_option maxRecDepth 100000 in
set_option maxHeartbeats 4000000 in
theorem c_X12_at (l : Launch) (G : zj_G) (a0 : Nat → Nat) (s0 : MoT) (x1 : Int32) (x2 : Int32) (x3 : Int32) (r : Int32) (hf : f_X12_at s0 x1 x2 x3 = some r) : zj_C l G M_X12_at yX12_at [w_Mo G a0 s0] [.ref (a0 0), .int x1, .int x2, .int x3] (some (.int r)) (fun _ => [w_Mo G a0 s0]) := by
  have key : ∀ W0 : List va_W, zj_J l G M_X12_at W0 (zj_ret G M_X12_at W0 (some (.int r)) (fun _ => [w_Mo G a0 s0])) 0 0 [w_Mo G a0 s0] [some (.ref (a0 0)), some (.int x1), some (.int x2), some (.int x3)] 0 [] := by
    intro W0
    unfold f_X12_at at hf
    refine zr_run [(.sipush 542, 0, 0, 0, .int (542 : Int32)), (.iload_n 1, 0, 0, 0, .null), (.imul, 0, 0, 0, .null), (.iconst 2, 0, 0, 0, .int (2 : Int32)), (.iload_n 2, 0, 0, 0, .null), (.imul, 0, 0, 0, .null), (.iadd, 0, 0, 0, .null), (.iload_n 3, 0, 0, 0, .null), (.iadd, 0, 0, 0, .null)] [] (WW' := [w_Mo G a0 s0]) (lv' := [some (.ref (a0 0)), some (.int x1), some (.int x2), some (.int x3)]) (pc' := 11) (st' := [.int ((((542 : Int32) * x1) + ((2 : Int32) * x2)) + x3)]) (by decide +kernel) rfl rfl ⟨trivial, trivial, trivial, trivial, trivial, trivial, trivial, trivial, trivial, trivial⟩ ?_
    obtain rfl := Option.some.inj hf
    exact zr_iret (b0 := fun _ => 0) (by decide +kernel) rfl rfl rfl rfl rfl
  exact zj_entry [some (.ref (a0 0)), some (.int x1), some (.int x2), some (.int x3)] (by decide +kernel) rfl (by decide) (Nat.le_of_ble_eq_true rfl) rfl rfl (key _)
def M_X12_goesTo : zj_M := (RX12, cX12_goesTo, 5, (some .long), { frames := 1, cells := 0, slots := 0, locals := 23 }, false)
theorem nm_X12_goesTo : zj_nm yX12_goesTo 4 := ⟨by decide +kernel, by decide +kernel, by decide +kernel⟩
def f_X12_goesTo  (s0 : MoT) (x1 : Int32) (x2 : Int32) (x3 : Int32) (x4 : Int32) : Option (Int64) := (if (x2 + x3) = x4 then (if zb_in x1 13 = true then some ((Mo_twelves s0) x1.toNatClampNeg) else none) else (if zb_in (x2 + x3) 271 = true then (if x3 = 0 then ((f_X12_at s0 (x1 - (1 : Int32)) (x2 + x3) (1 : Int32)).bind fun q3 => (if zb_in q3 7046 = true then some (((Mo_lives s0) (x2 + x3).toNatClampNeg).toInt64 * ((Mo_chance s0) q3.toNatClampNeg)) else none)) else ((f_X12_at s0 (x1 - (1 : Int32)) (x2 + x3) (0 : Int32)).bind fun q5 => (if zb_in q5 7046 = true then some (((Mo_lives s0) (x2 + x3).toNatClampNeg).toInt64 * ((Mo_chance s0) q5.toNatClampNeg)) else none))) else none))
set_option maxRecDepth 100000 in
set_option maxHeartbeats 4000000 in
theorem c_X12_goesTo (l : Launch) (G : zj_G) (a0 : Nat → Nat) (s0 : MoT) (x1 : Int32) (x2 : Int32) (x3 : Int32) (x4 : Int32) (r : Int64) (hf : f_X12_goesTo s0 x1 x2 x3 x4 = some r) : zj_C l G M_X12_goesTo yX12_goesTo [w_Mo G a0 s0] [.ref (a0 0), .int x1, .int x2, .int x3, .int x4] (some (.long r)) (fun _ => [w_Mo G a0 s0]) := by
  have key : ∀ W0 : List va_W, zj_J l G M_X12_goesTo W0 (zj_ret G M_X12_goesTo W0 (some (.long r)) (fun _ => [w_Mo G a0 s0])) 0 0 [w_Mo G a0 s0] [some (.ref (a0 0)), some (.int x1), some (.int x2), some (.int x3), some (.int x4)] 0 [] := by
    intro W0
    unfold f_X12_goesTo at hf
    refine zr_run [(.iload_n 2, 0, 0, 0, .null), (.iload_n 3, 0, 0, 0, .null), (.iadd, 0, 0, 0, .null), (.iload 4, 0, 0, 0, .null)] [] (WW' := [w_Mo G a0 s0]) (lv' := [some (.ref (a0 0)), some (.int x1), some (.int x2), some (.int x3), some (.int x4)]) (pc' := 5) (st' := [.int x4, .int (x2 + x3)]) (by decide +kernel) rfl rfl ⟨trivial, trivial, trivial, trivial, trivial⟩ ?_
    refine zr_icmp_ne (off := 10) (tgt := 15) (by decide +kernel) (by decide) (fun hc => ?_) (fun hc => ?_)
    · have hf := zift hf hc
      obtain ⟨h1, hf⟩ := zck_of hf
      refine zr_run [(.aload_n 0, 0, 0, 0, .null), (.getfield 48, 0, 0, 30, .null), (.iload_n 1, 0, 0, 0, .null), (.laload, 0, 13, 0, .null)] [] (WW' := [w_Mo G a0 s0]) (lv' := [some (.ref (a0 0)), some (.int x1), some (.int x2), some (.int x3), some (.int x4)]) (pc' := 14) (st' := [.long ((Mo_twelves s0) x1.toNatClampNeg)]) (by decide +kernel) rfl rfl ⟨trivial, ⟨rfl, rfl, zw_6_59⟩, trivial, ⟨rfl, rfl, h1⟩, trivial⟩ ?_
      obtain rfl := Option.some.inj hf
      exact zr_lret (b0 := fun _ => 0) (by decide +kernel) rfl rfl rfl rfl rfl
    · have hf := ziff hf hc
      obtain ⟨h2, hf⟩ := zck_of hf
      refine zr_run [(.aload_n 0, 0, 0, 0, .null), (.getfield 54, 0, 0, 32, .null), (.iload_n 2, 0, 0, 0, .null), (.iload_n 3, 0, 0, 0, .null), (.iadd, 0, 0, 0, .null), (.iaload, 0, 15, 0, .null), (.i2l, 0, 0, 0, .null), (.aload_n 0, 0, 0, 0, .null), (.getfield 45, 0, 0, 29, .null), (.aload_n 0, 0, 0, 0, .null), (.iload_n 1, 0, 0, 0, .null), (.iconst 1, 0, 0, 0, .int (1 : Int32)), (.isub, 0, 0, 0, .null), (.iload_n 2, 0, 0, 0, .null), (.iload_n 3, 0, 0, 0, .null), (.iadd, 0, 0, 0, .null), (.iload_n 3, 0, 0, 0, .null)] [] (WW' := [w_Mo G a0 s0]) (lv' := [some (.ref (a0 0)), some (.int x1), some (.int x2), some (.int x3), some (.int x4)]) (pc' := 36) (st' := [.int x3, .int (x2 + x3), .int (x1 - (1 : Int32)), .ref (a0 0), .ref (a0 12), .long (((Mo_lives s0) (x2 + x3).toNatClampNeg).toInt64)]) (by decide +kernel) rfl rfl ⟨trivial, ⟨rfl, rfl, zw_6_61⟩, trivial, trivial, trivial, ⟨rfl, rfl, h2⟩, trivial, trivial, ⟨rfl, rfl, zw_6_58⟩, trivial, trivial, trivial, trivial, trivial, trivial, trivial, trivial, trivial⟩ ?_
      refine zr_if_ne (off := 7) (tgt := 43) (by decide +kernel) (by decide) (fun hc => ?_) (fun hc => ?_)
      · have hf := zift hf hc
        refine zr_run [(.iconst 1, 0, 0, 0, .int (1 : Int32))] [] (WW' := [w_Mo G a0 s0]) (lv' := [some (.ref (a0 0)), some (.int x1), some (.int x2), some (.int x3), some (.int x4)]) (pc' := 40) (st' := [.int (1 : Int32), .int (x2 + x3), .int (x1 - (1 : Int32)), .ref (a0 0), .ref (a0 12), .long (((Mo_lives s0) (x2 + x3).toNatClampNeg).toInt64)]) (by decide +kernel) rfl rfl ⟨trivial, trivial⟩ ?_
        refine zr_goto (off := 4) (tgt := 44) (by decide +kernel) (by decide) ?_
        obtain ⟨q3, e3, hf⟩ := zbi_of hf
        refine zr_callV (c_X12_at l G a0 s0 (x1 - (1 : Int32)) (x2 + x3) (1 : Int32) q3 e3) (WW' := fun _ => [w_Mo G a0 s0]) (st := [.ref (a0 12), .long (((Mo_lives s0) (x2 + x3).toNatClampNeg).toInt64)]) (st' := [.int q3, .ref (a0 12), .long (((Mo_lives s0) (x2 + x3).toNatClampNeg).toInt64)]) [0] rfl rfl (fun _ => Nat.le_of_ble_eq_true rfl) (fun _ => rfl) rfl rfl nm_X12_at zw_8_26 zw_8_28 zw_0_97 zw_1_18 zw_8_29 rfl rfl rfl (Nat.le_of_ble_eq_true rfl) ⟨Nat.le_of_ble_eq_true rfl, Nat.le_of_ble_eq_true rfl⟩ (by decide +kernel) (fun _ => ?_)
        obtain ⟨h4, hf⟩ := zck_of hf
        refine zr_run [(.laload, 0, 12, 0, .null), (.lmul, 0, 0, 0, .null)] [] (WW' := [w_Mo G a0 s0]) (lv' := [some (.ref (a0 0)), some (.int x1), some (.int x2), some (.int x3), some (.int x4)]) (pc' := 49) (st' := [.long (((Mo_lives s0) (x2 + x3).toNatClampNeg).toInt64 * ((Mo_chance s0) q3.toNatClampNeg))]) (by decide +kernel) rfl rfl ⟨⟨rfl, rfl, h4⟩, trivial, trivial⟩ ?_
        obtain rfl := Option.some.inj hf
        exact zr_lret (b0 := fun _ => 0) (by decide +kernel) rfl rfl rfl rfl rfl
      · have hf := ziff hf hc
        obtain ⟨q5, e5, hf⟩ := zbi_of hf
        refine zr_run [(.iconst 0, 0, 0, 0, .int (0 : Int32))] [] (WW' := [w_Mo G a0 s0]) (lv' := [some (.ref (a0 0)), some (.int x1), some (.int x2), some (.int x3), some (.int x4)]) (pc' := 44) (st' := [.int (0 : Int32), .int (x2 + x3), .int (x1 - (1 : Int32)), .ref (a0 0), .ref (a0 12), .long (((Mo_lives s0) (x2 + x3).toNatClampNeg).toInt64)]) (by decide +kernel) rfl rfl ⟨trivial, trivial⟩ ?_
        refine zr_callV (c_X12_at l G a0 s0 (x1 - (1 : Int32)) (x2 + x3) (0 : Int32) q5 e5) (WW' := fun _ => [w_Mo G a0 s0]) (st := [.ref (a0 12), .long (((Mo_lives s0) (x2 + x3).toNatClampNeg).toInt64)]) (st' := [.int q5, .ref (a0 12), .long (((Mo_lives s0) (x2 + x3).toNatClampNeg).toInt64)]) [0] rfl rfl (fun _ => Nat.le_of_ble_eq_true rfl) (fun _ => rfl) rfl rfl nm_X12_at zw_8_26 zw_8_28 zw_0_97 zw_1_18 zw_8_29 rfl rfl rfl (Nat.le_of_ble_eq_true rfl) ⟨Nat.le_of_ble_eq_true rfl, Nat.le_of_ble_eq_true rfl⟩ (by decide +kernel) (fun _ => ?_)
        obtain ⟨h6, hf⟩ := zck_of hf
        refine zr_run [(.laload, 0, 12, 0, .null), (.lmul, 0, 0, 0, .null)] [] (WW' := [w_Mo G a0 s0]) (lv' := [some (.ref (a0 0)), some (.int x1), some (.int x2), some (.int x3), some (.int x4)]) (pc' := 49) (st' := [.long (((Mo_lives s0) (x2 + x3).toNatClampNeg).toInt64 * ((Mo_chance s0) q5.toNatClampNeg))]) (by decide +kernel) rfl rfl ⟨⟨rfl, rfl, h6⟩, trivial, trivial⟩ ?_
        obtain rfl := Option.some.inj hf
        exact zr_lret (b0 := fun _ => 0) (by decide +kernel) rfl rfl rfl rfl rfl
  exact zj_entry [some (.ref (a0 0)), some (.int x1), some (.int x2), some (.int x3), some (.int x4)] (by decide +kernel) rfl (by decide) (Nat.le_of_ble_eq_true rfl) rfl rfl (key _)
def M_X12_layPlan : zj_M := (RX12, cX12_layPlan, 10, none, { frames := 4, cells := 0, slots := 0, locals := 92 }, false)
theorem nm_X12_layPlan : zj_nm yX12_layPlan 2 := ⟨by decide +kernel, by decide +kernel, by decide +kernel⟩
def f_X12_layPlan_b94  (s0 : MoT) (k57 : MoT → Int32 → Int32 → Int32 → Int32 → Option (MoT)) (x1 : Int32) (x2 : Int32) (x3 : Int32) (x4 : Int32) (z0 : Int32) (z1 : Int32) : Option (MoT) := (if zb_in z1 271 = true then (zlet (Mo_s_lives s0 ((upd (Mo_lives s0) z1.toNatClampNeg z0))) fun y5 => k57 y5 x1 x2 x3 (x4 + (1 : Int32))) else none)
def f_X12_layPlan_H113  (s0 : MoT) (k104 : MoT → Int32 → Int32 → Int32 → Int32 → Option (MoT)) (k113 : MoT → Int32 → Int32 → Int32 → Int32 → Int32 → Option (MoT)) (x1 : Int32) (x2 : Int32) (x3 : Int32) (x4 : Int32) (x5 : Int32) : Option (MoT) := (if x5 < (2 : Int32) then ((f_X12_at s0 (0 : Int32) x4 x5).bind fun q6 => (if zb_in q6 7046 = true then (zlet (Mo_s_chance s0 ((vp_updL (Mo_chance s0) q6.toNatClampNeg (0 : Int64)))) fun y8 => k113 y8 x1 x2 x3 x4 (x5 + (1 : Int32))) else none)) else k104 s0 x1 x2 x3 (x4 + (1 : Int32)))
def f_X12_layPlan_L113   (k104 : MoT → Int32 → Int32 → Int32 → Int32 → Option (MoT)) : Nat → MoT → Int32 → Int32 → Int32 → Int32 → Int32 → Option (MoT)
  | 0 => fun _ _ _ _ _ _ => none
  | n + 1 => fun s0 x1 x2 x3 x4 x5 => f_X12_layPlan_H113 s0 k104 (f_X12_layPlan_L113 k104 n) x1 x2 x3 x4 x5
def f_X12_layPlan_b232  (s0 : MoT) (k149 : MoT → Int32 → Int32 → Int32 → Int32 → Option (MoT)) (k158 : MoT → Int32 → Int32 → Int32 → Int32 → Int32 → Option (MoT)) (k167 : MoT → Int32 → Int32 → Int32 → Int32 → Int32 → Int32 → Option (MoT)) (k180 : MoT → Int32 → Int32 → Int32 → Int32 → Int32 → Int32 → Int64 → Int32 → Option (MoT)) (x1 : Int32) (x2 : Int32) (x3 : Int32) (x4 : Int32) (x5 : Int32) (x6 : Int32) (x7 : Int64) (x9 : Int32) : Option (MoT) := k180 s0 x1 x2 x3 x4 x5 x6 x7 (x9 + (1 : Int32))
def f_X12_layPlan_H180  (s0 : MoT) (k149 : MoT → Int32 → Int32 → Int32 → Int32 → Option (MoT)) (k158 : MoT → Int32 → Int32 → Int32 → Int32 → Int32 → Option (MoT)) (k167 : MoT → Int32 → Int32 → Int32 → Int32 → Int32 → Int32 → Option (MoT)) (k180 : MoT → Int32 → Int32 → Int32 → Int32 → Int32 → Int32 → Int64 → Int32 → Option (MoT)) (x1 : Int32) (x2 : Int32) (x3 : Int32) (x4 : Int32) (x5 : Int32) (x6 : Int32) (x7 : Int64) (x9 : Int32) : Option (MoT) := (if zb_in ((230 : Int32) + x1) 758 = true then ((f_X12_least ((Mo_now s0) ((230 : Int32) + x1).toNatClampNeg) (x3 - x5)).bind fun q10 => (if q10 < x9 then ((f_X12_at s0 x4 x5 x6).bind fun q11 => (if zb_in q11 7046 = true then (zlet (Mo_s_chance s0 ((vp_updL (Mo_chance s0) q11.toNatClampNeg x7))) fun y13 => k167 y13 x1 x2 x3 x4 x5 (x6 + (1 : Int32))) else none)) else ((f_X12_goesTo s0 x4 x5 x9 x3).bind fun q14 => (if 0 < (lg_cmp q14 x7) then ((f_X12_goesTo s0 x4 x5 x9 x3).bind fun q15 => f_X12_layPlan_b232 s0 k149 k158 k167 k180 x1 x2 x3 x4 x5 x6 q15 x9) else f_X12_layPlan_b232 s0 k149 k158 k167 k180 x1 x2 x3 x4 x5 x6 x7 x9)))) else none)
def f_X12_layPlan_L180   (k149 : MoT → Int32 → Int32 → Int32 → Int32 → Option (MoT)) (k158 : MoT → Int32 → Int32 → Int32 → Int32 → Int32 → Option (MoT)) (k167 : MoT → Int32 → Int32 → Int32 → Int32 → Int32 → Int32 → Option (MoT)) : Nat → MoT → Int32 → Int32 → Int32 → Int32 → Int32 → Int32 → Int64 → Int32 → Option (MoT)
  | 0 => fun _ _ _ _ _ _ _ _ _ => none
  | n + 1 => fun s0 x1 x2 x3 x4 x5 x6 x7 x9 => f_X12_layPlan_H180 s0 k149 k158 k167 (f_X12_layPlan_L180 k149 k158 k167 n) x1 x2 x3 x4 x5 x6 x7 x9
def f_X12_layPlan_H167  (s0 : MoT) (k149 : MoT → Int32 → Int32 → Int32 → Int32 → Option (MoT)) (k158 : MoT → Int32 → Int32 → Int32 → Int32 → Int32 → Option (MoT)) (k167 : MoT → Int32 → Int32 → Int32 → Int32 → Int32 → Int32 → Option (MoT)) (x1 : Int32) (x2 : Int32) (x3 : Int32) (x4 : Int32) (x5 : Int32) (x6 : Int32) : Option (MoT) := (if x6 < (2 : Int32) then f_X12_layPlan_L180 k149 k158 k167 zFU s0 x1 x2 x3 x4 x5 x6 (0 : Int64) x6 else k158 s0 x1 x2 x3 x4 (x5 + (1 : Int32)))
def f_X12_layPlan_L167   (k149 : MoT → Int32 → Int32 → Int32 → Int32 → Option (MoT)) (k158 : MoT → Int32 → Int32 → Int32 → Int32 → Int32 → Option (MoT)) : Nat → MoT → Int32 → Int32 → Int32 → Int32 → Int32 → Int32 → Option (MoT)
  | 0 => fun _ _ _ _ _ _ _ => none
  | n + 1 => fun s0 x1 x2 x3 x4 x5 x6 => f_X12_layPlan_H167 s0 k149 k158 (f_X12_layPlan_L167 k149 k158 n) x1 x2 x3 x4 x5 x6
def f_X12_layPlan_H158  (s0 : MoT) (k149 : MoT → Int32 → Int32 → Int32 → Int32 → Option (MoT)) (k158 : MoT → Int32 → Int32 → Int32 → Int32 → Int32 → Option (MoT)) (x1 : Int32) (x2 : Int32) (x3 : Int32) (x4 : Int32) (x5 : Int32) : Option (MoT) := (if x5 < x3 then f_X12_layPlan_L167 k149 k158 zFU s0 x1 x2 x3 x4 x5 (0 : Int32) else k149 s0 x1 x2 x3 (x4 + (1 : Int32)))
def f_X12_layPlan_L158   (k149 : MoT → Int32 → Int32 → Int32 → Int32 → Option (MoT)) : Nat → MoT → Int32 → Int32 → Int32 → Int32 → Int32 → Option (MoT)
  | 0 => fun _ _ _ _ _ _ => none
  | n + 1 => fun s0 x1 x2 x3 x4 x5 => f_X12_layPlan_H158 s0 k149 (f_X12_layPlan_L158 k149 n) x1 x2 x3 x4 x5
def f_X12_layPlan_H149  (s0 : MoT) (k149 : MoT → Int32 → Int32 → Int32 → Int32 → Option (MoT)) (x1 : Int32) (x2 : Int32) (x3 : Int32) (x4 : Int32) : Option (MoT) := (if x2 < x4 then some s0 else f_X12_layPlan_L158 k149 zFU s0 x1 x2 x3 x4 (0 : Int32))
def f_X12_layPlan_L149    : Nat → MoT → Int32 → Int32 → Int32 → Int32 → Option (MoT)
  | 0 => fun _ _ _ _ _ => none
  | n + 1 => fun s0 x1 x2 x3 x4 => f_X12_layPlan_H149 s0 (f_X12_layPlan_L149  n) x1 x2 x3 x4
def f_X12_layPlan_H104  (s0 : MoT) (k104 : MoT → Int32 → Int32 → Int32 → Int32 → Option (MoT)) (x1 : Int32) (x2 : Int32) (x3 : Int32) (x4 : Int32) : Option (MoT) := (if x4 < x3 then f_X12_layPlan_L113 k104 zFU s0 x1 x2 x3 x4 (0 : Int32) else f_X12_layPlan_L149 zFU s0 x1 x2 x3 (1 : Int32))
def f_X12_layPlan_L104    : Nat → MoT → Int32 → Int32 → Int32 → Int32 → Option (MoT)
  | 0 => fun _ _ _ _ _ => none
  | n + 1 => fun s0 x1 x2 x3 x4 => f_X12_layPlan_H104 s0 (f_X12_layPlan_L104  n) x1 x2 x3 x4
def f_X12_layPlan_H57  (s0 : MoT) (k57 : MoT → Int32 → Int32 → Int32 → Int32 → Option (MoT)) (x1 : Int32) (x2 : Int32) (x3 : Int32) (x4 : Int32) : Option (MoT) := (if x4 < x3 then ((f_X12_dangerAt s0 x1 x4).bind fun q3 => (if q3.1 = (-1 : Int32) then f_X12_layPlan_b94 q3.2 k57 x1 x2 x3 x4 (12 : Int32) x4 else f_X12_layPlan_b94 q3.2 k57 x1 x2 x3 x4 ((12 : Int32) - q3.1) x4)) else f_X12_layPlan_L104 zFU s0 x1 x2 x3 (0 : Int32))
def f_X12_layPlan_L57    : Nat → MoT → Int32 → Int32 → Int32 → Int32 → Option (MoT)
  | 0 => fun _ _ _ _ _ => none
  | n + 1 => fun s0 x1 x2 x3 x4 => f_X12_layPlan_H57 s0 (f_X12_layPlan_L57  n) x1 x2 x3 x4
def f_X12_layPlan_H21  (s0 : MoT) (k21 : MoT → Int32 → Int32 → Int32 → Int32 → Option (MoT)) (x1 : Int32) (x2 : Int32) (x3 : Int32) (x4 : Int32) : Option (MoT) := (if (12 : Int32) < x4 then f_X12_layPlan_L57 zFU s0 x1 x2 x3 (0 : Int32) else (if zb_in (x4 - (1 : Int32)) 13 = true then (zlet ((12 : Int64) * ((Mo_twelves s0) (x4 - (1 : Int32)).toNatClampNeg)) fun y17 => (if zb_in x4 13 = true then (zlet (Mo_s_twelves s0 ((vp_updL (Mo_twelves s0) x4.toNatClampNeg y17))) fun y19 => k21 y19 x1 x2 x3 (x4 + (1 : Int32))) else none)) else none))
def f_X12_layPlan_L21    : Nat → MoT → Int32 → Int32 → Int32 → Int32 → Option (MoT)
  | 0 => fun _ _ _ _ _ => none
  | n + 1 => fun s0 x1 x2 x3 x4 => f_X12_layPlan_H21 s0 (f_X12_layPlan_L21  n) x1 x2 x3 x4
def f_X12_layPlan  (s0 : MoT) (x1 : Int32) (x2 : Int32) : Option (MoT) := (if zb_in ((480 : Int32) + x1) 758 = true then (zlet (Mo_s_twelves s0 ((vp_updL (Mo_twelves s0) (0 : Int32).toNatClampNeg (1 : Int64)))) fun y2 => f_X12_layPlan_L21 zFU y2 x1 x2 ((Mo_now s0) ((480 : Int32) + x1).toNatClampNeg) (1 : Int32)) else none)
set_option maxRecDepth 100000 in
set_option maxHeartbeats 4000000 in
theorem t_X12_layPlan_b94 (l : Launch) (G : zj_G) (a0 : Nat → Nat) (W0 : List va_W) (r : MoT) (s0 : MoT) (k57 : MoT → Int32 → Int32 → Int32 → Int32 → Option (MoT)) (hk57 : ∀ (s0 : MoT) (x1 : Int32) (x2 : Int32) (x3 : Int32) (x4 : Int32), k57 s0 x1 x2 x3 x4 = some r → zj_J l G M_X12_layPlan W0 (zj_ret G M_X12_layPlan W0 (none) (fun _ => [w_Mo G a0 r])) 0 0 [w_Mo G a0 s0] [some (.ref (a0 0)), some (.int x1), some (.int x2), some (.int x3), some (.int x4), none, none, none, none, none] 57 []) (x1 : Int32) (x2 : Int32) (x3 : Int32) (x4 : Int32) (z0 : Int32) (z1 : Int32) (hf : f_X12_layPlan_b94 s0 k57 x1 x2 x3 x4 z0 z1 = some r) : zj_J l G M_X12_layPlan W0 (zj_ret G M_X12_layPlan W0 (none) (fun _ => [w_Mo G a0 r])) 0 0 [w_Mo G a0 s0] [some (.ref (a0 0)), some (.int x1), some (.int x2), some (.int x3), some (.int x4), none, none, none, none, none] 94 [.int z0, .int z1, .ref (a0 15)] := by
  unfold f_X12_layPlan_b94 at hf
  obtain ⟨h4, hf⟩ := zck_of hf
  obtain ⟨y5, e5, hf⟩ := zlet_of hf
  refine zr_run [(.iastore, 0, 15, 0, .null)] [] (WW' := [w_Mo G a0 (Mo_s_lives s0 ((upd (Mo_lives s0) z1.toNatClampNeg z0)))]) (lv' := [some (.ref (a0 0)), some (.int x1), some (.int x2), some (.int x3), some (.int x4), none, none, none, none, none]) (pc' := 95) (st' := []) (by decide +kernel) rfl rfl ⟨⟨rfl, rfl, h4⟩, trivial⟩ ?_
  refine zr_eq (WW2 := [w_Mo G a0 y5]) (lv2 := [some (.ref (a0 0)), some (.int x1), some (.int x2), some (.int x3), some (.int x4), none, none, none, none, none]) (st2 := []) (by rw [e5]) rfl rfl ?_
  refine zr_run [(.iinc 4 1, 0, 0, 0, .int (1 : Int32))] [] (WW' := [w_Mo G a0 y5]) (lv' := [some (.ref (a0 0)), some (.int x1), some (.int x2), some (.int x3), some (.int (x4 + (1 : Int32))), none, none, none, none, none]) (pc' := 98) (st' := []) (by decide +kernel) rfl rfl ⟨trivial, trivial⟩ ?_
  refine zr_goto (off := -41) (tgt := 57) (by decide +kernel) (by decide) ?_
  exact hk57 y5 x1 x2 x3 (x4 + (1 : Int32)) hf
set_option maxRecDepth 100000 in
set_option maxHeartbeats 4000000 in
theorem t_X12_layPlan_H113 (l : Launch) (G : zj_G) (a0 : Nat → Nat) (W0 : List va_W) (r : MoT) (s0 : MoT) (k104 : MoT → Int32 → Int32 → Int32 → Int32 → Option (MoT)) (k113 : MoT → Int32 → Int32 → Int32 → Int32 → Int32 → Option (MoT)) (hk104 : ∀ (s0 : MoT) (x1 : Int32) (x2 : Int32) (x3 : Int32) (x4 : Int32), k104 s0 x1 x2 x3 x4 = some r → zj_J l G M_X12_layPlan W0 (zj_ret G M_X12_layPlan W0 (none) (fun _ => [w_Mo G a0 r])) 0 0 [w_Mo G a0 s0] [some (.ref (a0 0)), some (.int x1), some (.int x2), some (.int x3), some (.int x4), none, none, none, none, none] 104 []) (hk113 : ∀ (s0 : MoT) (x1 : Int32) (x2 : Int32) (x3 : Int32) (x4 : Int32) (x5 : Int32), k113 s0 x1 x2 x3 x4 x5 = some r → zj_J l G M_X12_layPlan W0 (zj_ret G M_X12_layPlan W0 (none) (fun _ => [w_Mo G a0 r])) 0 0 [w_Mo G a0 s0] [some (.ref (a0 0)), some (.int x1), some (.int x2), some (.int x3), some (.int x4), some (.int x5), none, none, none, none] 113 []) (x1 : Int32) (x2 : Int32) (x3 : Int32) (x4 : Int32) (x5 : Int32) (hf : f_X12_layPlan_H113 s0 k104 k113 x1 x2 x3 x4 x5 = some r) : zj_J l G M_X12_layPlan W0 (zj_ret G M_X12_layPlan W0 (none) (fun _ => [w_Mo G a0 r])) 0 0 [w_Mo G a0 s0] [some (.ref (a0 0)), some (.int x1), some (.int x2), some (.int x3), some (.int x4), some (.int x5), none, none, none, none] 113 [] := by
  unfold f_X12_layPlan_H113 at hf
  refine zr_run [(.iload 5, 0, 0, 0, .null), (.iconst 2, 0, 0, 0, .int (2 : Int32))] [] (WW' := [w_Mo G a0 s0]) (lv' := [some (.ref (a0 0)), some (.int x1), some (.int x2), some (.int x3), some (.int x4), some (.int x5), none, none, none, none]) (pc' := 116) (st' := [.int (2 : Int32), .int x5]) (by decide +kernel) rfl rfl ⟨trivial, trivial, trivial⟩ ?_
  refine zr_icmp_ge (off := 24) (tgt := 140) (by decide +kernel) (by decide) (fun hc => ?_) (fun hc => ?_)
  · have hf := zift hf hc
    obtain ⟨q6, e6, hf⟩ := zbi_of hf
    refine zr_run [(.aload_n 0, 0, 0, 0, .null), (.getfield 45, 0, 0, 29, .null), (.aload_n 0, 0, 0, 0, .null), (.iconst 0, 0, 0, 0, .int (0 : Int32)), (.iload 4, 0, 0, 0, .null), (.iload 5, 0, 0, 0, .null)] [] (WW' := [w_Mo G a0 s0]) (lv' := [some (.ref (a0 0)), some (.int x1), some (.int x2), some (.int x3), some (.int x4), some (.int x5), none, none, none, none]) (pc' := 129) (st' := [.int x5, .int x4, .int (0 : Int32), .ref (a0 0), .ref (a0 12)]) (by decide +kernel) rfl rfl ⟨trivial, ⟨rfl, rfl, zw_6_58⟩, trivial, trivial, trivial, trivial, trivial⟩ ?_
    refine zr_callV (c_X12_at l G a0 s0 (0 : Int32) x4 x5 q6 e6) (WW' := fun _ => [w_Mo G a0 s0]) (st := [.ref (a0 12)]) (st' := [.int q6, .ref (a0 12)]) [0] rfl rfl (fun _ => Nat.le_of_ble_eq_true rfl) (fun _ => rfl) rfl rfl nm_X12_at zw_8_26 zw_8_28 zw_0_97 zw_1_18 zw_8_29 rfl rfl rfl (Nat.le_of_ble_eq_true rfl) ⟨Nat.le_of_ble_eq_true rfl, Nat.le_of_ble_eq_true rfl⟩ (by decide +kernel) (fun _ => ?_)
    obtain ⟨h7, hf⟩ := zck_of hf
    obtain ⟨y8, e8, hf⟩ := zlet_of hf
    refine zr_run [(.lconst 0, 0, 0, 0, .long (0 : Int64)), (.lastore, 0, 12, 0, .null)] [] (WW' := [w_Mo G a0 (Mo_s_chance s0 ((vp_updL (Mo_chance s0) q6.toNatClampNeg (0 : Int64))))]) (lv' := [some (.ref (a0 0)), some (.int x1), some (.int x2), some (.int x3), some (.int x4), some (.int x5), none, none, none, none]) (pc' := 134) (st' := []) (by decide +kernel) rfl rfl ⟨trivial, ⟨rfl, rfl, h7⟩, trivial⟩ ?_
    refine zr_eq (WW2 := [w_Mo G a0 y8]) (lv2 := [some (.ref (a0 0)), some (.int x1), some (.int x2), some (.int x3), some (.int x4), some (.int x5), none, none, none, none]) (st2 := []) (by rw [e8]) rfl rfl ?_
    refine zr_run [(.iinc 5 1, 0, 0, 0, .int (1 : Int32))] [] (WW' := [w_Mo G a0 y8]) (lv' := [some (.ref (a0 0)), some (.int x1), some (.int x2), some (.int x3), some (.int x4), some (.int (x5 + (1 : Int32))), none, none, none, none]) (pc' := 137) (st' := []) (by decide +kernel) rfl rfl ⟨trivial, trivial⟩ ?_
    refine zr_goto (off := -24) (tgt := 113) (by decide +kernel) (by decide) ?_
    exact hk113 y8 x1 x2 x3 x4 (x5 + (1 : Int32)) hf
  · have hf := ziff hf hc
    refine zr_run [(.iinc 4 1, 0, 0, 0, .int (1 : Int32))] [] (WW' := [w_Mo G a0 s0]) (lv' := [some (.ref (a0 0)), some (.int x1), some (.int x2), some (.int x3), some (.int (x4 + (1 : Int32))), some (.int x5), none, none, none, none]) (pc' := 143) (st' := []) (by decide +kernel) rfl rfl ⟨trivial, trivial⟩ ?_
    refine zr_run [] [5] (WW' := [w_Mo G a0 s0]) (lv' := [some (.ref (a0 0)), some (.int x1), some (.int x2), some (.int x3), some (.int (x4 + (1 : Int32))), none, none, none, none, none]) (pc' := 143) (st' := []) (by decide +kernel) rfl rfl trivial ?_
    refine zr_goto (off := -39) (tgt := 104) (by decide +kernel) (by decide) ?_
    exact hk104 s0 x1 x2 x3 (x4 + (1 : Int32)) hf
theorem t_X12_layPlan_L113 (l : Launch) (G : zj_G) (a0 : Nat → Nat) (W0 : List va_W) (r : MoT)  (k104 : MoT → Int32 → Int32 → Int32 → Int32 → Option (MoT)) (hk104 : ∀ (s0 : MoT) (x1 : Int32) (x2 : Int32) (x3 : Int32) (x4 : Int32), k104 s0 x1 x2 x3 x4 = some r → zj_J l G M_X12_layPlan W0 (zj_ret G M_X12_layPlan W0 (none) (fun _ => [w_Mo G a0 r])) 0 0 [w_Mo G a0 s0] [some (.ref (a0 0)), some (.int x1), some (.int x2), some (.int x3), some (.int x4), none, none, none, none, none] 104 []) : ∀ (n : Nat) (s0 : MoT) (x1 : Int32) (x2 : Int32) (x3 : Int32) (x4 : Int32) (x5 : Int32), f_X12_layPlan_L113 k104 n s0 x1 x2 x3 x4 x5 = some r → zj_J l G M_X12_layPlan W0 (zj_ret G M_X12_layPlan W0 (none) (fun _ => [w_Mo G a0 r])) 0 0 [w_Mo G a0 s0] [some (.ref (a0 0)), some (.int x1), some (.int x2), some (.int x3), some (.int x4), some (.int x5), none, none, none, none] 113 [] := by
  intro n
  induction n with
  | zero => intro s0 x1 x2 x3 x4 x5 hf; exact nomatch (show none = some r from hf)
  | succ n ih => intro s0 x1 x2 x3 x4 x5 hf; exact t_X12_layPlan_H113 l G a0 W0 r s0 k104 (f_X12_layPlan_L113 k104 n) hk104 ih x1 x2 x3 x4 x5  hf
set_option maxRecDepth 100000 in
set_option maxHeartbeats 4000000 in
theorem t_X12_layPlan_b232 (l : Launch) (G : zj_G) (a0 : Nat → Nat) (W0 : List va_W) (r : MoT) (s0 : MoT) (k149 : MoT → Int32 → Int32 → Int32 → Int32 → Option (MoT)) (k158 : MoT → Int32 → Int32 → Int32 → Int32 → Int32 → Option (MoT)) (k167 : MoT → Int32 → Int32 → Int32 → Int32 → Int32 → Int32 → Option (MoT)) (k180 : MoT → Int32 → Int32 → Int32 → Int32 → Int32 → Int32 → Int64 → Int32 → Option (MoT)) (hk149 : ∀ (s0 : MoT) (x1 : Int32) (x2 : Int32) (x3 : Int32) (x4 : Int32), k149 s0 x1 x2 x3 x4 = some r → zj_J l G M_X12_layPlan W0 (zj_ret G M_X12_layPlan W0 (none) (fun _ => [w_Mo G a0 r])) 0 0 [w_Mo G a0 s0] [some (.ref (a0 0)), some (.int x1), some (.int x2), some (.int x3), some (.int x4), none, none, none, none, none] 149 []) (hk158 : ∀ (s0 : MoT) (x1 : Int32) (x2 : Int32) (x3 : Int32) (x4 : Int32) (x5 : Int32), k158 s0 x1 x2 x3 x4 x5 = some r → zj_J l G M_X12_layPlan W0 (zj_ret G M_X12_layPlan W0 (none) (fun _ => [w_Mo G a0 r])) 0 0 [w_Mo G a0 s0] [some (.ref (a0 0)), some (.int x1), some (.int x2), some (.int x3), some (.int x4), some (.int x5), none, none, none, none] 158 []) (hk167 : ∀ (s0 : MoT) (x1 : Int32) (x2 : Int32) (x3 : Int32) (x4 : Int32) (x5 : Int32) (x6 : Int32), k167 s0 x1 x2 x3 x4 x5 x6 = some r → zj_J l G M_X12_layPlan W0 (zj_ret G M_X12_layPlan W0 (none) (fun _ => [w_Mo G a0 r])) 0 0 [w_Mo G a0 s0] [some (.ref (a0 0)), some (.int x1), some (.int x2), some (.int x3), some (.int x4), some (.int x5), some (.int x6), none, none, none] 167 []) (hk180 : ∀ (s0 : MoT) (x1 : Int32) (x2 : Int32) (x3 : Int32) (x4 : Int32) (x5 : Int32) (x6 : Int32) (x7 : Int64) (x9 : Int32), k180 s0 x1 x2 x3 x4 x5 x6 x7 x9 = some r → zj_J l G M_X12_layPlan W0 (zj_ret G M_X12_layPlan W0 (none) (fun _ => [w_Mo G a0 r])) 0 0 [w_Mo G a0 s0] [some (.ref (a0 0)), some (.int x1), some (.int x2), some (.int x3), some (.int x4), some (.int x5), some (.int x6), some (.long x7), none, some (.int x9)] 180 []) (x1 : Int32) (x2 : Int32) (x3 : Int32) (x4 : Int32) (x5 : Int32) (x6 : Int32) (x7 : Int64) (x9 : Int32) (hf : f_X12_layPlan_b232 s0 k149 k158 k167 k180 x1 x2 x3 x4 x5 x6 x7 x9 = some r) : zj_J l G M_X12_layPlan W0 (zj_ret G M_X12_layPlan W0 (none) (fun _ => [w_Mo G a0 r])) 0 0 [w_Mo G a0 s0] [some (.ref (a0 0)), some (.int x1), some (.int x2), some (.int x3), some (.int x4), some (.int x5), some (.int x6), some (.long x7), none, some (.int x9)] 232 [] := by
  unfold f_X12_layPlan_b232 at hf
  refine zr_run [(.iinc 9 1, 0, 0, 0, .int (1 : Int32))] [] (WW' := [w_Mo G a0 s0]) (lv' := [some (.ref (a0 0)), some (.int x1), some (.int x2), some (.int x3), some (.int x4), some (.int x5), some (.int x6), some (.long x7), none, some (.int (x9 + (1 : Int32)))]) (pc' := 235) (st' := []) (by decide +kernel) rfl rfl ⟨trivial, trivial⟩ ?_
  refine zr_goto (off := -55) (tgt := 180) (by decide +kernel) (by decide) ?_
  exact hk180 s0 x1 x2 x3 x4 x5 x6 x7 (x9 + (1 : Int32)) hf
set_option maxRecDepth 100000 in
set_option maxHeartbeats 4000000 in
theorem t_X12_layPlan_H180 (l : Launch) (G : zj_G) (a0 : Nat → Nat) (W0 : List va_W) (r : MoT) (s0 : MoT) (k149 : MoT → Int32 → Int32 → Int32 → Int32 → Option (MoT)) (k158 : MoT → Int32 → Int32 → Int32 → Int32 → Int32 → Option (MoT)) (k167 : MoT → Int32 → Int32 → Int32 → Int32 → Int32 → Int32 → Option (MoT)) (k180 : MoT → Int32 → Int32 → Int32 → Int32 → Int32 → Int32 → Int64 → Int32 → Option (MoT)) (hk149 : ∀ (s0 : MoT) (x1 : Int32) (x2 : Int32) (x3 : Int32) (x4 : Int32), k149 s0 x1 x2 x3 x4 = some r → zj_J l G M_X12_layPlan W0 (zj_ret G M_X12_layPlan W0 (none) (fun _ => [w_Mo G a0 r])) 0 0 [w_Mo G a0 s0] [some (.ref (a0 0)), some (.int x1), some (.int x2), some (.int x3), some (.int x4), none, none, none, none, none] 149 []) (hk158 : ∀ (s0 : MoT) (x1 : Int32) (x2 : Int32) (x3 : Int32) (x4 : Int32) (x5 : Int32), k158 s0 x1 x2 x3 x4 x5 = some r → zj_J l G M_X12_layPlan W0 (zj_ret G M_X12_layPlan W0 (none) (fun _ => [w_Mo G a0 r])) 0 0 [w_Mo G a0 s0] [some (.ref (a0 0)), some (.int x1), some (.int x2), some (.int x3), some (.int x4), some (.int x5), none, none, none, none] 158 []) (hk167 : ∀ (s0 : MoT) (x1 : Int32) (x2 : Int32) (x3 : Int32) (x4 : Int32) (x5 : Int32) (x6 : Int32), k167 s0 x1 x2 x3 x4 x5 x6 = some r → zj_J l G M_X12_layPlan W0 (zj_ret G M_X12_layPlan W0 (none) (fun _ => [w_Mo G a0 r])) 0 0 [w_Mo G a0 s0] [some (.ref (a0 0)), some (.int x1), some (.int x2), some (.int x3), some (.int x4), some (.int x5), some (.int x6), none, none, none] 167 []) (hk180 : ∀ (s0 : MoT) (x1 : Int32) (x2 : Int32) (x3 : Int32) (x4 : Int32) (x5 : Int32) (x6 : Int32) (x7 : Int64) (x9 : Int32), k180 s0 x1 x2 x3 x4 x5 x6 x7 x9 = some r → zj_J l G M_X12_layPlan W0 (zj_ret G M_X12_layPlan W0 (none) (fun _ => [w_Mo G a0 r])) 0 0 [w_Mo G a0 s0] [some (.ref (a0 0)), some (.int x1), some (.int x2), some (.int x3), some (.int x4), some (.int x5), some (.int x6), some (.long x7), none, some (.int x9)] 180 []) (x1 : Int32) (x2 : Int32) (x3 : Int32) (x4 : Int32) (x5 : Int32) (x6 : Int32) (x7 : Int64) (x9 : Int32) (hf : f_X12_layPlan_H180 s0 k149 k158 k167 k180 x1 x2 x3 x4 x5 x6 x7 x9 = some r) : zj_J l G M_X12_layPlan W0 (zj_ret G M_X12_layPlan W0 (none) (fun _ => [w_Mo G a0 r])) 0 0 [w_Mo G a0 s0] [some (.ref (a0 0)), some (.int x1), some (.int x2), some (.int x3), some (.int x4), some (.int x5), some (.int x6), some (.long x7), none, some (.int x9)] 180 [] := by
  unfold f_X12_layPlan_H180 at hf
  obtain ⟨h9, hf⟩ := zck_of hf
  obtain ⟨q10, e10, hf⟩ := zbi_of hf
  refine zr_run [(.iload 9, 0, 0, 0, .null), (.aload_n 0, 0, 0, 0, .null), (.getfield 13, 0, 0, 14, .null), (.sipush 230, 0, 0, 0, .int (230 : Int32)), (.iload_n 1, 0, 0, 0, .null), (.iadd, 0, 0, 0, .null), (.iaload, 0, 2, 0, .null), (.iload_n 3, 0, 0, 0, .null), (.iload 5, 0, 0, 0, .null), (.isub, 0, 0, 0, .null)] [] (WW' := [w_Mo G a0 s0]) (lv' := [some (.ref (a0 0)), some (.int x1), some (.int x2), some (.int x3), some (.int x4), some (.int x5), some (.int x6), some (.long x7), none, some (.int x9)]) (pc' := 196) (st' := [.int (x3 - x5), .int ((Mo_now s0) ((230 : Int32) + x1).toNatClampNeg), .int x9]) (by decide +kernel) rfl rfl ⟨trivial, trivial, ⟨rfl, rfl, zw_6_43⟩, trivial, trivial, trivial, ⟨rfl, rfl, h9⟩, trivial, trivial, trivial, trivial⟩ ?_
  refine zr_callS (c_X12_least l G ((Mo_now s0) ((230 : Int32) + x1).toNatClampNeg) (x3 - x5) q10 e10) (WW' := fun _ => [w_Mo G a0 s0]) (st := [.int x9]) (st' := [.int q10, .int x9]) [] rfl rfl (fun _ => Nat.le_of_ble_eq_true rfl) (fun _ => rfl) rfl rfl nm_X12_least zw_7_81 zw_7_82 zw_1_18 zw_7_83 rfl (Nat.le_of_ble_eq_true rfl) ⟨Nat.le_of_ble_eq_true rfl, Nat.le_of_ble_eq_true rfl⟩ (by decide +kernel) (fun _ => ?_)
  refine zr_icmp_gt (off := 39) (tgt := 238) (by decide +kernel) (by decide) (fun hc => ?_) (fun hc => ?_)
  · have hf := zift hf hc
    obtain ⟨q11, e11, hf⟩ := zbi_of hf
    refine zr_run [(.aload_n 0, 0, 0, 0, .null), (.getfield 45, 0, 0, 29, .null), (.aload_n 0, 0, 0, 0, .null), (.iload 4, 0, 0, 0, .null), (.iload 5, 0, 0, 0, .null), (.iload 6, 0, 0, 0, .null)] [] (WW' := [w_Mo G a0 s0]) (lv' := [some (.ref (a0 0)), some (.int x1), some (.int x2), some (.int x3), some (.int x4), some (.int x5), some (.int x6), some (.long x7), none, some (.int x9)]) (pc' := 249) (st' := [.int x6, .int x5, .int x4, .ref (a0 0), .ref (a0 12)]) (by decide +kernel) rfl rfl ⟨trivial, ⟨rfl, rfl, zw_6_58⟩, trivial, trivial, trivial, trivial, trivial⟩ ?_
    refine zr_callV (c_X12_at l G a0 s0 x4 x5 x6 q11 e11) (WW' := fun _ => [w_Mo G a0 s0]) (st := [.ref (a0 12)]) (st' := [.int q11, .ref (a0 12)]) [0] rfl rfl (fun _ => Nat.le_of_ble_eq_true rfl) (fun _ => rfl) rfl rfl nm_X12_at zw_8_26 zw_8_28 zw_0_97 zw_1_18 zw_8_29 rfl rfl rfl (Nat.le_of_ble_eq_true rfl) ⟨Nat.le_of_ble_eq_true rfl, Nat.le_of_ble_eq_true rfl⟩ (by decide +kernel) (fun _ => ?_)
    obtain ⟨h12, hf⟩ := zck_of hf
    obtain ⟨y13, e13, hf⟩ := zlet_of hf
    refine zr_run [(.lload 7, 0, 0, 0, .null), (.lastore, 0, 12, 0, .null)] [] (WW' := [w_Mo G a0 (Mo_s_chance s0 ((vp_updL (Mo_chance s0) q11.toNatClampNeg x7)))]) (lv' := [some (.ref (a0 0)), some (.int x1), some (.int x2), some (.int x3), some (.int x4), some (.int x5), some (.int x6), some (.long x7), none, some (.int x9)]) (pc' := 255) (st' := []) (by decide +kernel) rfl rfl ⟨trivial, ⟨rfl, rfl, h12⟩, trivial⟩ ?_
    refine zr_eq (WW2 := [w_Mo G a0 y13]) (lv2 := [some (.ref (a0 0)), some (.int x1), some (.int x2), some (.int x3), some (.int x4), some (.int x5), some (.int x6), some (.long x7), none, some (.int x9)]) (st2 := []) (by rw [e13]) rfl rfl ?_
    refine zr_run [(.iinc 6 1, 0, 0, 0, .int (1 : Int32))] [] (WW' := [w_Mo G a0 y13]) (lv' := [some (.ref (a0 0)), some (.int x1), some (.int x2), some (.int x3), some (.int x4), some (.int x5), some (.int (x6 + (1 : Int32))), some (.long x7), none, some (.int x9)]) (pc' := 258) (st' := []) (by decide +kernel) rfl rfl ⟨trivial, trivial⟩ ?_
    refine zr_run [] [7, 9] (WW' := [w_Mo G a0 y13]) (lv' := [some (.ref (a0 0)), some (.int x1), some (.int x2), some (.int x3), some (.int x4), some (.int x5), some (.int (x6 + (1 : Int32))), none, none, none]) (pc' := 258) (st' := []) (by decide +kernel) rfl rfl trivial ?_
    refine zr_goto (off := -91) (tgt := 167) (by decide +kernel) (by decide) ?_
    exact hk167 y13 x1 x2 x3 x4 x5 (x6 + (1 : Int32)) hf
  · have hf := ziff hf hc
    obtain ⟨q14, e14, hf⟩ := zbi_of hf
    refine zr_run [(.aload_n 0, 0, 0, 0, .null), (.iload 4, 0, 0, 0, .null), (.iload 5, 0, 0, 0, .null), (.iload 9, 0, 0, 0, .null), (.iload_n 3, 0, 0, 0, .null)] [] (WW' := [w_Mo G a0 s0]) (lv' := [some (.ref (a0 0)), some (.int x1), some (.int x2), some (.int x3), some (.int x4), some (.int x5), some (.int x6), some (.long x7), none, some (.int x9)]) (pc' := 210) (st' := [.int x3, .int x9, .int x5, .int x4, .ref (a0 0)]) (by decide +kernel) rfl rfl ⟨trivial, trivial, trivial, trivial, trivial, trivial⟩ ?_
    refine zr_callV (c_X12_goesTo l G a0 s0 x4 x5 x9 x3 q14 e14) (WW' := fun _ => [w_Mo G a0 s0]) (st := []) (st' := [.long q14]) [0] rfl rfl (fun _ => Nat.le_of_ble_eq_true rfl) (fun _ => rfl) rfl rfl nm_X12_goesTo zw_8_30 zw_8_32 zw_0_98 zw_1_18 zw_8_33 rfl rfl rfl (Nat.le_of_ble_eq_true rfl) ⟨Nat.le_of_ble_eq_true rfl, Nat.le_of_ble_eq_true rfl⟩ (by decide +kernel) (fun _ => ?_)
    refine zr_run [(.lload 7, 0, 0, 0, .null), (.lcmp, 0, 0, 0, .null)] [] (WW' := [w_Mo G a0 s0]) (lv' := [some (.ref (a0 0)), some (.int x1), some (.int x2), some (.int x3), some (.int x4), some (.int x5), some (.int x6), some (.long x7), none, some (.int x9)]) (pc' := 216) (st' := [.int (lg_cmp q14 x7)]) (by decide +kernel) rfl rfl ⟨trivial, trivial, trivial⟩ ?_
    refine zr_if_le (off := 16) (tgt := 232) (by decide +kernel) (by decide) (fun hc => ?_) (fun hc => ?_)
    · have hf := zift hf hc
      obtain ⟨q15, e15, hf⟩ := zbi_of hf
      refine zr_run [(.aload_n 0, 0, 0, 0, .null), (.iload 4, 0, 0, 0, .null), (.iload 5, 0, 0, 0, .null), (.iload 9, 0, 0, 0, .null), (.iload_n 3, 0, 0, 0, .null)] [] (WW' := [w_Mo G a0 s0]) (lv' := [some (.ref (a0 0)), some (.int x1), some (.int x2), some (.int x3), some (.int x4), some (.int x5), some (.int x6), some (.long x7), none, some (.int x9)]) (pc' := 227) (st' := [.int x3, .int x9, .int x5, .int x4, .ref (a0 0)]) (by decide +kernel) rfl rfl ⟨trivial, trivial, trivial, trivial, trivial, trivial⟩ ?_
      refine zr_callV (c_X12_goesTo l G a0 s0 x4 x5 x9 x3 q15 e15) (WW' := fun _ => [w_Mo G a0 s0]) (st := []) (st' := [.long q15]) [0] rfl rfl (fun _ => Nat.le_of_ble_eq_true rfl) (fun _ => rfl) rfl rfl nm_X12_goesTo zw_8_30 zw_8_32 zw_0_98 zw_1_18 zw_8_33 rfl rfl rfl (Nat.le_of_ble_eq_true rfl) ⟨Nat.le_of_ble_eq_true rfl, Nat.le_of_ble_eq_true rfl⟩ (by decide +kernel) (fun _ => ?_)
      refine zr_run [(.lstore 7, 0, 0, 0, .null)] [] (WW' := [w_Mo G a0 s0]) (lv' := [some (.ref (a0 0)), some (.int x1), some (.int x2), some (.int x3), some (.int x4), some (.int x5), some (.int x6), some (.long q15), none, some (.int x9)]) (pc' := 232) (st' := []) (by decide +kernel) rfl rfl ⟨trivial, trivial⟩ ?_
      exact t_X12_layPlan_b232 l G a0 W0 r s0 k149 k158 k167 k180 hk149 hk158 hk167 hk180 x1 x2 x3 x4 x5 x6 q15 x9 hf
    · have hf := ziff hf hc
      exact t_X12_layPlan_b232 l G a0 W0 r s0 k149 k158 k167 k180 hk149 hk158 hk167 hk180 x1 x2 x3 x4 x5 x6 x7 x9 hf
theorem t_X12_layPlan_L180 (l : Launch) (G : zj_G) (a0 : Nat → Nat) (W0 : List va_W) (r : MoT)  (k149 : MoT → Int32 → Int32 → Int32 → Int32 → Option (MoT)) (k158 : MoT → Int32 → Int32 → Int32 → Int32 → Int32 → Option (MoT)) (k167 : MoT → Int32 → Int32 → Int32 → Int32 → Int32 → Int32 → Option (MoT)) (hk149 : ∀ (s0 : MoT) (x1 : Int32) (x2 : Int32) (x3 : Int32) (x4 : Int32), k149 s0 x1 x2 x3 x4 = some r → zj_J l G M_X12_layPlan W0 (zj_ret G M_X12_layPlan W0 (none) (fun _ => [w_Mo G a0 r])) 0 0 [w_Mo G a0 s0] [some (.ref (a0 0)), some (.int x1), some (.int x2), some (.int x3), some (.int x4), none, none, none, none, none] 149 []) (hk158 : ∀ (s0 : MoT) (x1 : Int32) (x2 : Int32) (x3 : Int32) (x4 : Int32) (x5 : Int32), k158 s0 x1 x2 x3 x4 x5 = some r → zj_J l G M_X12_layPlan W0 (zj_ret G M_X12_layPlan W0 (none) (fun _ => [w_Mo G a0 r])) 0 0 [w_Mo G a0 s0] [some (.ref (a0 0)), some (.int x1), some (.int x2), some (.int x3), some (.int x4), some (.int x5), none, none, none, none] 158 []) (hk167 : ∀ (s0 : MoT) (x1 : Int32) (x2 : Int32) (x3 : Int32) (x4 : Int32) (x5 : Int32) (x6 : Int32), k167 s0 x1 x2 x3 x4 x5 x6 = some r → zj_J l G M_X12_layPlan W0 (zj_ret G M_X12_layPlan W0 (none) (fun _ => [w_Mo G a0 r])) 0 0 [w_Mo G a0 s0] [some (.ref (a0 0)), some (.int x1), some (.int x2), some (.int x3), some (.int x4), some (.int x5), some (.int x6), none, none, none] 167 []) : ∀ (n : Nat) (s0 : MoT) (x1 : Int32) (x2 : Int32) (x3 : Int32) (x4 : Int32) (x5 : Int32) (x6 : Int32) (x7 : Int64) (x9 : Int32), f_X12_layPlan_L180 k149 k158 k167 n s0 x1 x2 x3 x4 x5 x6 x7 x9 = some r → zj_J l G M_X12_layPlan W0 (zj_ret G M_X12_layPlan W0 (none) (fun _ => [w_Mo G a0 r])) 0 0 [w_Mo G a0 s0] [some (.ref (a0 0)), some (.int x1), some (.int x2), some (.int x3), some (.int x4), some (.int x5), some (.int x6), some (.long x7), none, some (.int x9)] 180 [] := by
  intro n
  induction n with
  | zero => intro s0 x1 x2 x3 x4 x5 x6 x7 x9 hf; exact nomatch (show none = some r from hf)
  | succ n ih => intro s0 x1 x2 x3 x4 x5 x6 x7 x9 hf; exact t_X12_layPlan_H180 l G a0 W0 r s0 k149 k158 k167 (f_X12_layPlan_L180 k149 k158 k167 n) hk149 hk158 hk167 ih x1 x2 x3 x4 x5 x6 x7 x9  hf
set_option maxRecDepth 100000 in
set_option maxHeartbeats 4000000 in
theorem t_X12_layPlan_H167 (l : Launch) (G : zj_G) (a0 : Nat → Nat) (W0 : List va_W) (r : MoT) (s0 : MoT) (k149 : MoT → Int32 → Int32 → Int32 → Int32 → Option (MoT)) (k158 : MoT → Int32 → Int32 → Int32 → Int32 → Int32 → Option (MoT)) (k167 : MoT → Int32 → Int32 → Int32 → Int32 → Int32 → Int32 → Option (MoT)) (hk149 : ∀ (s0 : MoT) (x1 : Int32) (x2 : Int32) (x3 : Int32) (x4 : Int32), k149 s0 x1 x2 x3 x4 = some r → zj_J l G M_X12_layPlan W0 (zj_ret G M_X12_layPlan W0 (none) (fun _ => [w_Mo G a0 r])) 0 0 [w_Mo G a0 s0] [some (.ref (a0 0)), some (.int x1), some (.int x2), some (.int x3), some (.int x4), none, none, none, none, none] 149 []) (hk158 : ∀ (s0 : MoT) (x1 : Int32) (x2 : Int32) (x3 : Int32) (x4 : Int32) (x5 : Int32), k158 s0 x1 x2 x3 x4 x5 = some r → zj_J l G M_X12_layPlan W0 (zj_ret G M_X12_layPlan W0 (none) (fun _ => [w_Mo G a0 r])) 0 0 [w_Mo G a0 s0] [some (.ref (a0 0)), some (.int x1), some (.int x2), some (.int x3), some (.int x4), some (.int x5), none, none, none, none] 158 []) (hk167 : ∀ (s0 : MoT) (x1 : Int32) (x2 : Int32) (x3 : Int32) (x4 : Int32) (x5 : Int32) (x6 : Int32), k167 s0 x1 x2 x3 x4 x5 x6 = some r → zj_J l G M_X12_layPlan W0 (zj_ret G M_X12_layPlan W0 (none) (fun _ => [w_Mo G a0 r])) 0 0 [w_Mo G a0 s0] [some (.ref (a0 0)), some (.int x1), some (.int x2), some (.int x3), some (.int x4), some (.int x5), some (.int x6), none, none, none] 167 []) (x1 : Int32) (x2 : Int32) (x3 : Int32) (x4 : Int32) (x5 : Int32) (x6 : Int32) (hf : f_X12_layPlan_H167 s0 k149 k158 k167 x1 x2 x3 x4 x5 x6 = some r) : zj_J l G M_X12_layPlan W0 (zj_ret G M_X12_layPlan W0 (none) (fun _ => [w_Mo G a0 r])) 0 0 [w_Mo G a0 s0] [some (.ref (a0 0)), some (.int x1), some (.int x2), some (.int x3), some (.int x4), some (.int x5), some (.int x6), none, none, none] 167 [] := by
  unfold f_X12_layPlan_H167 at hf
  refine zr_run [(.iload 6, 0, 0, 0, .null), (.iconst 2, 0, 0, 0, .int (2 : Int32))] [] (WW' := [w_Mo G a0 s0]) (lv' := [some (.ref (a0 0)), some (.int x1), some (.int x2), some (.int x3), some (.int x4), some (.int x5), some (.int x6), none, none, none]) (pc' := 170) (st' := [.int (2 : Int32), .int x6]) (by decide +kernel) rfl rfl ⟨trivial, trivial, trivial⟩ ?_
  refine zr_icmp_ge (off := 91) (tgt := 261) (by decide +kernel) (by decide) (fun hc => ?_) (fun hc => ?_)
  · have hf := zift hf hc
    refine zr_run [(.lconst 0, 0, 0, 0, .long (0 : Int64)), (.lstore 7, 0, 0, 0, .null), (.iload 6, 0, 0, 0, .null), (.istore 9, 0, 0, 0, .null)] [] (WW' := [w_Mo G a0 s0]) (lv' := [some (.ref (a0 0)), some (.int x1), some (.int x2), some (.int x3), some (.int x4), some (.int x5), some (.int x6), some (.long (0 : Int64)), none, some (.int x6)]) (pc' := 180) (st' := []) (by decide +kernel) rfl rfl ⟨trivial, trivial, trivial, trivial, trivial⟩ ?_
    exact t_X12_layPlan_L180 l G a0 W0 r k149 k158 k167 hk149 hk158 hk167 zFU s0 x1 x2 x3 x4 x5 x6 (0 : Int64) x6 hf
  · have hf := ziff hf hc
    refine zr_run [(.iinc 5 1, 0, 0, 0, .int (1 : Int32))] [] (WW' := [w_Mo G a0 s0]) (lv' := [some (.ref (a0 0)), some (.int x1), some (.int x2), some (.int x3), some (.int x4), some (.int (x5 + (1 : Int32))), some (.int x6), none, none, none]) (pc' := 264) (st' := []) (by decide +kernel) rfl rfl ⟨trivial, trivial⟩ ?_
    refine zr_run [] [6] (WW' := [w_Mo G a0 s0]) (lv' := [some (.ref (a0 0)), some (.int x1), some (.int x2), some (.int x3), some (.int x4), some (.int (x5 + (1 : Int32))), none, none, none, none]) (pc' := 264) (st' := []) (by decide +kernel) rfl rfl trivial ?_
    refine zr_goto (off := -106) (tgt := 158) (by decide +kernel) (by decide) ?_
    exact hk158 s0 x1 x2 x3 x4 (x5 + (1 : Int32)) hf
theorem t_X12_layPlan_L167 (l : Launch) (G : zj_G) (a0 : Nat → Nat) (W0 : List va_W) (r : MoT)  (k149 : MoT → Int32 → Int32 → Int32 → Int32 → Option (MoT)) (k158 : MoT → Int32 → Int32 → Int32 → Int32 → Int32 → Option (MoT)) (hk149 : ∀ (s0 : MoT) (x1 : Int32) (x2 : Int32) (x3 : Int32) (x4 : Int32), k149 s0 x1 x2 x3 x4 = some r → zj_J l G M_X12_layPlan W0 (zj_ret G M_X12_layPlan W0 (none) (fun _ => [w_Mo G a0 r])) 0 0 [w_Mo G a0 s0] [some (.ref (a0 0)), some (.int x1), some (.int x2), some (.int x3), some (.int x4), none, none, none, none, none] 149 []) (hk158 : ∀ (s0 : MoT) (x1 : Int32) (x2 : Int32) (x3 : Int32) (x4 : Int32) (x5 : Int32), k158 s0 x1 x2 x3 x4 x5 = some r → zj_J l G M_X12_layPlan W0 (zj_ret G M_X12_layPlan W0 (none) (fun _ => [w_Mo G a0 r])) 0 0 [w_Mo G a0 s0] [some (.ref (a0 0)), some (.int x1), some (.int x2), some (.int x3), some (.int x4), some (.int x5), none, none, none, none] 158 []) : ∀ (n : Nat) (s0 : MoT) (x1 : Int32) (x2 : Int32) (x3 : Int32) (x4 : Int32) (x5 : Int32) (x6 : Int32), f_X12_layPlan_L167 k149 k158 n s0 x1 x2 x3 x4 x5 x6 = some r → zj_J l G M_X12_layPlan W0 (zj_ret G M_X12_layPlan W0 (none) (fun _ => [w_Mo G a0 r])) 0 0 [w_Mo G a0 s0] [some (.ref (a0 0)), some (.int x1), some (.int x2), some (.int x3), some (.int x4), some (.int x5), some (.int x6), none, none, none] 167 [] := by
  intro n
  induction n with
  | zero => intro s0 x1 x2 x3 x4 x5 x6 hf; exact nomatch (show none = some r from hf)
  | succ n ih => intro s0 x1 x2 x3 x4 x5 x6 hf; exact t_X12_layPlan_H167 l G a0 W0 r s0 k149 k158 (f_X12_layPlan_L167 k149 k158 n) hk149 hk158 ih x1 x2 x3 x4 x5 x6  hf
set_option maxRecDepth 100000 in
set_option maxHeartbeats 4000000 in
theorem t_X12_layPlan_H158 (l : Launch) (G : zj_G) (a0 : Nat → Nat) (W0 : List va_W) (r : MoT) (s0 : MoT) (k149 : MoT → Int32 → Int32 → Int32 → Int32 → Option (MoT)) (k158 : MoT → Int32 → Int32 → Int32 → Int32 → Int32 → Option (MoT)) (hk149 : ∀ (s0 : MoT) (x1 : Int32) (x2 : Int32) (x3 : Int32) (x4 : Int32), k149 s0 x1 x2 x3 x4 = some r → zj_J l G M_X12_layPlan W0 (zj_ret G M_X12_layPlan W0 (none) (fun _ => [w_Mo G a0 r])) 0 0 [w_Mo G a0 s0] [some (.ref (a0 0)), some (.int x1), some (.int x2), some (.int x3), some (.int x4), none, none, none, none, none] 149 []) (hk158 : ∀ (s0 : MoT) (x1 : Int32) (x2 : Int32) (x3 : Int32) (x4 : Int32) (x5 : Int32), k158 s0 x1 x2 x3 x4 x5 = some r → zj_J l G M_X12_layPlan W0 (zj_ret G M_X12_layPlan W0 (none) (fun _ => [w_Mo G a0 r])) 0 0 [w_Mo G a0 s0] [some (.ref (a0 0)), some (.int x1), some (.int x2), some (.int x3), some (.int x4), some (.int x5), none, none, none, none] 158 []) (x1 : Int32) (x2 : Int32) (x3 : Int32) (x4 : Int32) (x5 : Int32) (hf : f_X12_layPlan_H158 s0 k149 k158 x1 x2 x3 x4 x5 = some r) : zj_J l G M_X12_layPlan W0 (zj_ret G M_X12_layPlan W0 (none) (fun _ => [w_Mo G a0 r])) 0 0 [w_Mo G a0 s0] [some (.ref (a0 0)), some (.int x1), some (.int x2), some (.int x3), some (.int x4), some (.int x5), none, none, none, none] 158 [] := by
  unfold f_X12_layPlan_H158 at hf
  refine zr_run [(.iload 5, 0, 0, 0, .null), (.iload_n 3, 0, 0, 0, .null)] [] (WW' := [w_Mo G a0 s0]) (lv' := [some (.ref (a0 0)), some (.int x1), some (.int x2), some (.int x3), some (.int x4), some (.int x5), none, none, none, none]) (pc' := 161) (st' := [.int x3, .int x5]) (by decide +kernel) rfl rfl ⟨trivial, trivial, trivial⟩ ?_
  refine zr_icmp_ge (off := 106) (tgt := 267) (by decide +kernel) (by decide) (fun hc => ?_) (fun hc => ?_)
  · have hf := zift hf hc
    refine zr_run [(.iconst 0, 0, 0, 0, .int (0 : Int32)), (.istore 6, 0, 0, 0, .null)] [] (WW' := [w_Mo G a0 s0]) (lv' := [some (.ref (a0 0)), some (.int x1), some (.int x2), some (.int x3), some (.int x4), some (.int x5), some (.int (0 : Int32)), none, none, none]) (pc' := 167) (st' := []) (by decide +kernel) rfl rfl ⟨trivial, trivial, trivial⟩ ?_
    exact t_X12_layPlan_L167 l G a0 W0 r k149 k158 hk149 hk158 zFU s0 x1 x2 x3 x4 x5 (0 : Int32) hf
  · have hf := ziff hf hc
    refine zr_run [(.iinc 4 1, 0, 0, 0, .int (1 : Int32))] [] (WW' := [w_Mo G a0 s0]) (lv' := [some (.ref (a0 0)), some (.int x1), some (.int x2), some (.int x3), some (.int (x4 + (1 : Int32))), some (.int x5), none, none, none, none]) (pc' := 270) (st' := []) (by decide +kernel) rfl rfl ⟨trivial, trivial⟩ ?_
    refine zr_run [] [5] (WW' := [w_Mo G a0 s0]) (lv' := [some (.ref (a0 0)), some (.int x1), some (.int x2), some (.int x3), some (.int (x4 + (1 : Int32))), none, none, none, none, none]) (pc' := 270) (st' := []) (by decide +kernel) rfl rfl trivial ?_
    refine zr_goto (off := -121) (tgt := 149) (by decide +kernel) (by decide) ?_
    exact hk149 s0 x1 x2 x3 (x4 + (1 : Int32)) hf
theorem t_X12_layPlan_L158 (l : Launch) (G : zj_G) (a0 : Nat → Nat) (W0 : List va_W) (r : MoT)  (k149 : MoT → Int32 → Int32 → Int32 → Int32 → Option (MoT)) (hk149 : ∀ (s0 : MoT) (x1 : Int32) (x2 : Int32) (x3 : Int32) (x4 : Int32), k149 s0 x1 x2 x3 x4 = some r → zj_J l G M_X12_layPlan W0 (zj_ret G M_X12_layPlan W0 (none) (fun _ => [w_Mo G a0 r])) 0 0 [w_Mo G a0 s0] [some (.ref (a0 0)), some (.int x1), some (.int x2), some (.int x3), some (.int x4), none, none, none, none, none] 149 []) : ∀ (n : Nat) (s0 : MoT) (x1 : Int32) (x2 : Int32) (x3 : Int32) (x4 : Int32) (x5 : Int32), f_X12_layPlan_L158 k149 n s0 x1 x2 x3 x4 x5 = some r → zj_J l G M_X12_layPlan W0 (zj_ret G M_X12_layPlan W0 (none) (fun _ => [w_Mo G a0 r])) 0 0 [w_Mo G a0 s0] [some (.ref (a0 0)), some (.int x1), some (.int x2), some (.int x3), some (.int x4), some (.int x5), none, none, none, none] 158 [] := by
  intro n
  induction n with
  | zero => intro s0 x1 x2 x3 x4 x5 hf; exact nomatch (show none = some r from hf)
  | succ n ih => intro s0 x1 x2 x3 x4 x5 hf; exact t_X12_layPlan_H158 l G a0 W0 r s0 k149 (f_X12_layPlan_L158 k149 n) hk149 ih x1 x2 x3 x4 x5  hf
set_option maxRecDepth 100000 in
set_option maxHeartbeats 4000000 in
theorem t_X12_layPlan_H149 (l : Launch) (G : zj_G) (a0 : Nat → Nat) (W0 : List va_W) (r : MoT) (s0 : MoT) (k149 : MoT → Int32 → Int32 → Int32 → Int32 → Option (MoT)) (hk149 : ∀ (s0 : MoT) (x1 : Int32) (x2 : Int32) (x3 : Int32) (x4 : Int32), k149 s0 x1 x2 x3 x4 = some r → zj_J l G M_X12_layPlan W0 (zj_ret G M_X12_layPlan W0 (none) (fun _ => [w_Mo G a0 r])) 0 0 [w_Mo G a0 s0] [some (.ref (a0 0)), some (.int x1), some (.int x2), some (.int x3), some (.int x4), none, none, none, none, none] 149 []) (x1 : Int32) (x2 : Int32) (x3 : Int32) (x4 : Int32) (hf : f_X12_layPlan_H149 s0 k149 x1 x2 x3 x4 = some r) : zj_J l G M_X12_layPlan W0 (zj_ret G M_X12_layPlan W0 (none) (fun _ => [w_Mo G a0 r])) 0 0 [w_Mo G a0 s0] [some (.ref (a0 0)), some (.int x1), some (.int x2), some (.int x3), some (.int x4), none, none, none, none, none] 149 [] := by
  unfold f_X12_layPlan_H149 at hf
  refine zr_run [(.iload 4, 0, 0, 0, .null), (.iload_n 2, 0, 0, 0, .null)] [] (WW' := [w_Mo G a0 s0]) (lv' := [some (.ref (a0 0)), some (.int x1), some (.int x2), some (.int x3), some (.int x4), none, none, none, none, none]) (pc' := 152) (st' := [.int x2, .int x4]) (by decide +kernel) rfl rfl ⟨trivial, trivial, trivial⟩ ?_
  refine zr_icmp_gt (off := 121) (tgt := 273) (by decide +kernel) (by decide) (fun hc => ?_) (fun hc => ?_)
  · have hf := zift hf hc
    obtain rfl := Option.some.inj hf
    exact zr_vret (b0 := fun _ => 0) (by decide +kernel) rfl rfl rfl rfl rfl
  · have hf := ziff hf hc
    refine zr_run [(.iconst 0, 0, 0, 0, .int (0 : Int32)), (.istore 5, 0, 0, 0, .null)] [] (WW' := [w_Mo G a0 s0]) (lv' := [some (.ref (a0 0)), some (.int x1), some (.int x2), some (.int x3), some (.int x4), some (.int (0 : Int32)), none, none, none, none]) (pc' := 158) (st' := []) (by decide +kernel) rfl rfl ⟨trivial, trivial, trivial⟩ ?_
    exact t_X12_layPlan_L158 l G a0 W0 r k149 hk149 zFU s0 x1 x2 x3 x4 (0 : Int32) hf
theorem t_X12_layPlan_L149 (l : Launch) (G : zj_G) (a0 : Nat → Nat) (W0 : List va_W) (r : MoT)    : ∀ (n : Nat) (s0 : MoT) (x1 : Int32) (x2 : Int32) (x3 : Int32) (x4 : Int32), f_X12_layPlan_L149 n s0 x1 x2 x3 x4 = some r → zj_J l G M_X12_layPlan W0 (zj_ret G M_X12_layPlan W0 (none) (fun _ => [w_Mo G a0 r])) 0 0 [w_Mo G a0 s0] [some (.ref (a0 0)), some (.int x1), some (.int x2), some (.int x3), some (.int x4), none, none, none, none, none] 149 [] := by
  intro n
  induction n with
  | zero => intro s0 x1 x2 x3 x4 hf; exact nomatch (show none = some r from hf)
  | succ n ih => intro s0 x1 x2 x3 x4 hf; exact t_X12_layPlan_H149 l G a0 W0 r s0  (f_X12_layPlan_L149 n)  ih x1 x2 x3 x4  hf
set_option maxRecDepth 100000 in
set_option maxHeartbeats 4000000 in
theorem t_X12_layPlan_H104 (l : Launch) (G : zj_G) (a0 : Nat → Nat) (W0 : List va_W) (r : MoT) (s0 : MoT) (k104 : MoT → Int32 → Int32 → Int32 → Int32 → Option (MoT)) (hk104 : ∀ (s0 : MoT) (x1 : Int32) (x2 : Int32) (x3 : Int32) (x4 : Int32), k104 s0 x1 x2 x3 x4 = some r → zj_J l G M_X12_layPlan W0 (zj_ret G M_X12_layPlan W0 (none) (fun _ => [w_Mo G a0 r])) 0 0 [w_Mo G a0 s0] [some (.ref (a0 0)), some (.int x1), some (.int x2), some (.int x3), some (.int x4), none, none, none, none, none] 104 []) (x1 : Int32) (x2 : Int32) (x3 : Int32) (x4 : Int32) (hf : f_X12_layPlan_H104 s0 k104 x1 x2 x3 x4 = some r) : zj_J l G M_X12_layPlan W0 (zj_ret G M_X12_layPlan W0 (none) (fun _ => [w_Mo G a0 r])) 0 0 [w_Mo G a0 s0] [some (.ref (a0 0)), some (.int x1), some (.int x2), some (.int x3), some (.int x4), none, none, none, none, none] 104 [] := by
  unfold f_X12_layPlan_H104 at hf
  refine zr_run [(.iload 4, 0, 0, 0, .null), (.iload_n 3, 0, 0, 0, .null)] [] (WW' := [w_Mo G a0 s0]) (lv' := [some (.ref (a0 0)), some (.int x1), some (.int x2), some (.int x3), some (.int x4), none, none, none, none, none]) (pc' := 107) (st' := [.int x3, .int x4]) (by decide +kernel) rfl rfl ⟨trivial, trivial, trivial⟩ ?_
  refine zr_icmp_ge (off := 39) (tgt := 146) (by decide +kernel) (by decide) (fun hc => ?_) (fun hc => ?_)
  · have hf := zift hf hc
    refine zr_run [(.iconst 0, 0, 0, 0, .int (0 : Int32)), (.istore 5, 0, 0, 0, .null)] [] (WW' := [w_Mo G a0 s0]) (lv' := [some (.ref (a0 0)), some (.int x1), some (.int x2), some (.int x3), some (.int x4), some (.int (0 : Int32)), none, none, none, none]) (pc' := 113) (st' := []) (by decide +kernel) rfl rfl ⟨trivial, trivial, trivial⟩ ?_
    exact t_X12_layPlan_L113 l G a0 W0 r k104 hk104 zFU s0 x1 x2 x3 x4 (0 : Int32) hf
  · have hf := ziff hf hc
    refine zr_run [(.iconst 1, 0, 0, 0, .int (1 : Int32)), (.istore 4, 0, 0, 0, .null)] [] (WW' := [w_Mo G a0 s0]) (lv' := [some (.ref (a0 0)), some (.int x1), some (.int x2), some (.int x3), some (.int (1 : Int32)), none, none, none, none, none]) (pc' := 149) (st' := []) (by decide +kernel) rfl rfl ⟨trivial, trivial, trivial⟩ ?_
    exact t_X12_layPlan_L149 l G a0 W0 r zFU s0 x1 x2 x3 (1 : Int32) hf
theorem t_X12_layPlan_L104 (l : Launch) (G : zj_G) (a0 : Nat → Nat) (W0 : List va_W) (r : MoT)    : ∀ (n : Nat) (s0 : MoT) (x1 : Int32) (x2 : Int32) (x3 : Int32) (x4 : Int32), f_X12_layPlan_L104 n s0 x1 x2 x3 x4 = some r → zj_J l G M_X12_layPlan W0 (zj_ret G M_X12_layPlan W0 (none) (fun _ => [w_Mo G a0 r])) 0 0 [w_Mo G a0 s0] [some (.ref (a0 0)), some (.int x1), some (.int x2), some (.int x3), some (.int x4), none, none, none, none, none] 104 [] := by
  intro n
  induction n with
  | zero => intro s0 x1 x2 x3 x4 hf; exact nomatch (show none = some r from hf)
  | succ n ih => intro s0 x1 x2 x3 x4 hf; exact t_X12_layPlan_H104 l G a0 W0 r s0  (f_X12_layPlan_L104 n)  ih x1 x2 x3 x4  hf
set_option maxRecDepth 100000 in
set_option maxHeartbeats 4000000 in
theorem t_X12_layPlan_H57 (l : Launch) (G : zj_G) (a0 : Nat → Nat) (W0 : List va_W) (r : MoT) (s0 : MoT) (k57 : MoT → Int32 → Int32 → Int32 → Int32 → Option (MoT)) (hk57 : ∀ (s0 : MoT) (x1 : Int32) (x2 : Int32) (x3 : Int32) (x4 : Int32), k57 s0 x1 x2 x3 x4 = some r → zj_J l G M_X12_layPlan W0 (zj_ret G M_X12_layPlan W0 (none) (fun _ => [w_Mo G a0 r])) 0 0 [w_Mo G a0 s0] [some (.ref (a0 0)), some (.int x1), some (.int x2), some (.int x3), some (.int x4), none, none, none, none, none] 57 []) (x1 : Int32) (x2 : Int32) (x3 : Int32) (x4 : Int32) (hf : f_X12_layPlan_H57 s0 k57 x1 x2 x3 x4 = some r) : zj_J l G M_X12_layPlan W0 (zj_ret G M_X12_layPlan W0 (none) (fun _ => [w_Mo G a0 r])) 0 0 [w_Mo G a0 s0] [some (.ref (a0 0)), some (.int x1), some (.int x2), some (.int x3), some (.int x4), none, none, none, none, none] 57 [] := by
  unfold f_X12_layPlan_H57 at hf
  refine zr_run [(.iload 4, 0, 0, 0, .null), (.iload_n 3, 0, 0, 0, .null)] [] (WW' := [w_Mo G a0 s0]) (lv' := [some (.ref (a0 0)), some (.int x1), some (.int x2), some (.int x3), some (.int x4), none, none, none, none, none]) (pc' := 60) (st' := [.int x3, .int x4]) (by decide +kernel) rfl rfl ⟨trivial, trivial, trivial⟩ ?_
  refine zr_icmp_ge (off := 41) (tgt := 101) (by decide +kernel) (by decide) (fun hc => ?_) (fun hc => ?_)
  · have hf := zift hf hc
    obtain ⟨q3, e3, hf⟩ := zbi_of hf
    refine zr_run [(.aload_n 0, 0, 0, 0, .null), (.iload_n 1, 0, 0, 0, .null), (.iload 4, 0, 0, 0, .null)] [] (WW' := [w_Mo G a0 s0]) (lv' := [some (.ref (a0 0)), some (.int x1), some (.int x2), some (.int x3), some (.int x4), none, none, none, none, none]) (pc' := 67) (st' := [.int x4, .int x1, .ref (a0 0)]) (by decide +kernel) rfl rfl ⟨trivial, trivial, trivial, trivial⟩ ?_
    refine zr_callV (c_X12_dangerAt l G a0 s0 x1 x4 q3 e3) (WW' := fun _ => [w_Mo G a0 q3.2]) (st := []) (st' := [.int q3.1]) [0] rfl rfl (fun _ => Nat.le_of_ble_eq_true rfl) (fun _ => rfl) rfl rfl nm_X12_dangerAt zw_7_237 zw_7_239 zw_0_95 zw_1_18 zw_8_0 rfl rfl rfl (Nat.le_of_ble_eq_true rfl) ⟨Nat.le_of_ble_eq_true rfl, Nat.le_of_ble_eq_true rfl⟩ (by decide +kernel) (fun _ => ?_)
    refine zr_run [(.istore 5, 0, 0, 0, .null), (.aload_n 0, 0, 0, 0, .null), (.getfield 54, 0, 0, 32, .null), (.iload 4, 0, 0, 0, .null), (.iload 5, 0, 0, 0, .null), (.iconst (-1), 0, 0, 0, .int (-1 : Int32))] [] (WW' := [w_Mo G a0 q3.2]) (lv' := [some (.ref (a0 0)), some (.int x1), some (.int x2), some (.int x3), some (.int x4), some (.int q3.1), none, none, none, none]) (pc' := 81) (st' := [.int (-1 : Int32), .int q3.1, .int x4, .ref (a0 15)]) (by decide +kernel) rfl rfl ⟨trivial, trivial, ⟨rfl, rfl, zw_6_61⟩, trivial, trivial, trivial, trivial⟩ ?_
    refine zr_icmp_ne (off := 8) (tgt := 89) (by decide +kernel) (by decide) (fun hc => ?_) (fun hc => ?_)
    · have hf := zift hf hc
      refine zr_run [(.bipush 12, 0, 0, 0, .int (12 : Int32))] [] (WW' := [w_Mo G a0 q3.2]) (lv' := [some (.ref (a0 0)), some (.int x1), some (.int x2), some (.int x3), some (.int x4), some (.int q3.1), none, none, none, none]) (pc' := 86) (st' := [.int (12 : Int32), .int x4, .ref (a0 15)]) (by decide +kernel) rfl rfl ⟨trivial, trivial⟩ ?_
      refine zr_goto (off := 8) (tgt := 94) (by decide +kernel) (by decide) ?_
      refine zr_run [] [5] (WW' := [w_Mo G a0 q3.2]) (lv' := [some (.ref (a0 0)), some (.int x1), some (.int x2), some (.int x3), some (.int x4), none, none, none, none, none]) (pc' := 94) (st' := [.int (12 : Int32), .int x4, .ref (a0 15)]) (by decide +kernel) rfl rfl trivial ?_
      exact t_X12_layPlan_b94 l G a0 W0 r q3.2 k57 hk57 x1 x2 x3 x4 (12 : Int32) x4 hf
    · have hf := ziff hf hc
      refine zr_run [(.bipush 12, 0, 0, 0, .int (12 : Int32)), (.iload 5, 0, 0, 0, .null), (.isub, 0, 0, 0, .null)] [5] (WW' := [w_Mo G a0 q3.2]) (lv' := [some (.ref (a0 0)), some (.int x1), some (.int x2), some (.int x3), some (.int x4), none, none, none, none, none]) (pc' := 94) (st' := [.int ((12 : Int32) - q3.1), .int x4, .ref (a0 15)]) (by decide +kernel) rfl rfl ⟨trivial, trivial, trivial, trivial⟩ ?_
      exact t_X12_layPlan_b94 l G a0 W0 r q3.2 k57 hk57 x1 x2 x3 x4 ((12 : Int32) - q3.1) x4 hf
  · have hf := ziff hf hc
    refine zr_run [(.iconst 0, 0, 0, 0, .int (0 : Int32)), (.istore 4, 0, 0, 0, .null)] [] (WW' := [w_Mo G a0 s0]) (lv' := [some (.ref (a0 0)), some (.int x1), some (.int x2), some (.int x3), some (.int (0 : Int32)), none, none, none, none, none]) (pc' := 104) (st' := []) (by decide +kernel) rfl rfl ⟨trivial, trivial, trivial⟩ ?_
    exact t_X12_layPlan_L104 l G a0 W0 r zFU s0 x1 x2 x3 (0 : Int32) hf
theorem t_X12_layPlan_L57 (l : Launch) (G : zj_G) (a0 : Nat → Nat) (W0 : List va_W) (r : MoT)    : ∀ (n : Nat) (s0 : MoT) (x1 : Int32) (x2 : Int32) (x3 : Int32) (x4 : Int32), f_X12_layPlan_L57 n s0 x1 x2 x3 x4 = some r → zj_J l G M_X12_layPlan W0 (zj_ret G M_X12_layPlan W0 (none) (fun _ => [w_Mo G a0 r])) 0 0 [w_Mo G a0 s0] [some (.ref (a0 0)), some (.int x1), some (.int x2), some (.int x3), some (.int x4), none, none, none, none, none] 57 [] := by
  intro n
  induction n with
  | zero => intro s0 x1 x2 x3 x4 hf; exact nomatch (show none = some r from hf)
  | succ n ih => intro s0 x1 x2 x3 x4 hf; exact t_X12_layPlan_H57 l G a0 W0 r s0  (f_X12_layPlan_L57 n)  ih x1 x2 x3 x4  hf
set_option maxRecDepth 100000 in
set_option maxHeartbeats 4000000 in
theorem t_X12_layPlan_H21 (l : Launch) (G : zj_G) (a0 : Nat → Nat) (W0 : List va_W) (r : MoT) (s0 : MoT) (k21 : MoT → Int32 → Int32 → Int32 → Int32 → Option (MoT)) (hk21 : ∀ (s0 : MoT) (x1 : Int32) (x2 : Int32) (x3 : Int32) (x4 : Int32), k21 s0 x1 x2 x3 x4 = some r → zj_J l G M_X12_layPlan W0 (zj_ret G M_X12_layPlan W0 (none) (fun _ => [w_Mo G a0 r])) 0 0 [w_Mo G a0 s0] [some (.ref (a0 0)), some (.int x1), some (.int x2), some (.int x3), some (.int x4), none, none, none, none, none] 21 []) (x1 : Int32) (x2 : Int32) (x3 : Int32) (x4 : Int32) (hf : f_X12_layPlan_H21 s0 k21 x1 x2 x3 x4 = some r) : zj_J l G M_X12_layPlan W0 (zj_ret G M_X12_layPlan W0 (none) (fun _ => [w_Mo G a0 r])) 0 0 [w_Mo G a0 s0] [some (.ref (a0 0)), some (.int x1), some (.int x2), some (.int x3), some (.int x4), none, none, none, none, none] 21 [] := by
  unfold f_X12_layPlan_H21 at hf
  refine zr_run [(.iload 4, 0, 0, 0, .null), (.bipush 12, 0, 0, 0, .int (12 : Int32))] [] (WW' := [w_Mo G a0 s0]) (lv' := [some (.ref (a0 0)), some (.int x1), some (.int x2), some (.int x3), some (.int x4), none, none, none, none, none]) (pc' := 25) (st' := [.int (12 : Int32), .int x4]) (by decide +kernel) rfl rfl ⟨trivial, trivial, trivial⟩ ?_
  refine zr_icmp_gt (off := 29) (tgt := 54) (by decide +kernel) (by decide) (fun hc => ?_) (fun hc => ?_)
  · have hf := zift hf hc
    refine zr_run [(.iconst 0, 0, 0, 0, .int (0 : Int32)), (.istore 4, 0, 0, 0, .null)] [] (WW' := [w_Mo G a0 s0]) (lv' := [some (.ref (a0 0)), some (.int x1), some (.int x2), some (.int x3), some (.int (0 : Int32)), none, none, none, none, none]) (pc' := 57) (st' := []) (by decide +kernel) rfl rfl ⟨trivial, trivial, trivial⟩ ?_
    exact t_X12_layPlan_L57 l G a0 W0 r zFU s0 x1 x2 x3 (0 : Int32) hf
  · have hf := ziff hf hc
    obtain ⟨h16, hf⟩ := zck_of hf
    obtain ⟨y17, e17, hf⟩ := zlet_of hf
    refine zr_run [(.aload_n 0, 0, 0, 0, .null), (.getfield 48, 0, 0, 30, .null), (.iload 4, 0, 0, 0, .null), (.ldc2_w 339, 0, 0, 0, .long (12 : Int64)), (.aload_n 0, 0, 0, 0, .null), (.getfield 48, 0, 0, 30, .null), (.iload 4, 0, 0, 0, .null), (.iconst 1, 0, 0, 0, .int (1 : Int32)), (.isub, 0, 0, 0, .null), (.laload, 0, 13, 0, .null), (.lmul, 0, 0, 0, .null)] [] (WW' := [w_Mo G a0 s0]) (lv' := [some (.ref (a0 0)), some (.int x1), some (.int x2), some (.int x3), some (.int x4), none, none, none, none, none]) (pc' := 47) (st' := [.long ((12 : Int64) * ((Mo_twelves s0) (x4 - (1 : Int32)).toNatClampNeg)), .int x4, .ref (a0 13)]) (by decide +kernel) rfl rfl ⟨trivial, ⟨rfl, rfl, zw_6_59⟩, trivial, zw_8_25, trivial, ⟨rfl, rfl, zw_6_59⟩, trivial, trivial, trivial, ⟨rfl, rfl, h16⟩, trivial, trivial⟩ ?_
    refine zr_eq (WW2 := [w_Mo G a0 s0]) (lv2 := [some (.ref (a0 0)), some (.int x1), some (.int x2), some (.int x3), some (.int x4), none, none, none, none, none]) (st2 := [.long y17, .int x4, .ref (a0 13)]) rfl rfl (by rw [e17]) ?_
    obtain ⟨h18, hf⟩ := zck_of hf
    obtain ⟨y19, e19, hf⟩ := zlet_of hf
    refine zr_run [(.lastore, 0, 13, 0, .null)] [] (WW' := [w_Mo G a0 (Mo_s_twelves s0 ((vp_updL (Mo_twelves s0) x4.toNatClampNeg y17)))]) (lv' := [some (.ref (a0 0)), some (.int x1), some (.int x2), some (.int x3), some (.int x4), none, none, none, none, none]) (pc' := 48) (st' := []) (by decide +kernel) rfl rfl ⟨⟨rfl, rfl, h18⟩, trivial⟩ ?_
    refine zr_eq (WW2 := [w_Mo G a0 y19]) (lv2 := [some (.ref (a0 0)), some (.int x1), some (.int x2), some (.int x3), some (.int x4), none, none, none, none, none]) (st2 := []) (by rw [e19]) rfl rfl ?_
    refine zr_run [(.iinc 4 1, 0, 0, 0, .int (1 : Int32))] [] (WW' := [w_Mo G a0 y19]) (lv' := [some (.ref (a0 0)), some (.int x1), some (.int x2), some (.int x3), some (.int (x4 + (1 : Int32))), none, none, none, none, none]) (pc' := 51) (st' := []) (by decide +kernel) rfl rfl ⟨trivial, trivial⟩ ?_
    refine zr_goto (off := -30) (tgt := 21) (by decide +kernel) (by decide) ?_
    exact hk21 y19 x1 x2 x3 (x4 + (1 : Int32)) hf
theorem t_X12_layPlan_L21 (l : Launch) (G : zj_G) (a0 : Nat → Nat) (W0 : List va_W) (r : MoT)    : ∀ (n : Nat) (s0 : MoT) (x1 : Int32) (x2 : Int32) (x3 : Int32) (x4 : Int32), f_X12_layPlan_L21 n s0 x1 x2 x3 x4 = some r → zj_J l G M_X12_layPlan W0 (zj_ret G M_X12_layPlan W0 (none) (fun _ => [w_Mo G a0 r])) 0 0 [w_Mo G a0 s0] [some (.ref (a0 0)), some (.int x1), some (.int x2), some (.int x3), some (.int x4), none, none, none, none, none] 21 [] := by
  intro n
  induction n with
  | zero => intro s0 x1 x2 x3 x4 hf; exact nomatch (show none = some r from hf)
  | succ n ih => intro s0 x1 x2 x3 x4 hf; exact t_X12_layPlan_H21 l G a0 W0 r s0  (f_X12_layPlan_L21 n)  ih x1 x2 x3 x4  hf
set_option maxRecDepth 100000 in
set_option maxHeartbeats 4000000 in
theorem c_X12_layPlan (l : Launch) (G : zj_G) (a0 : Nat → Nat) (s0 : MoT) (x1 : Int32) (x2 : Int32) (r : MoT) (hf : f_X12_layPlan s0 x1 x2 = some r) : zj_C l G M_X12_layPlan yX12_layPlan [w_Mo G a0 s0] [.ref (a0 0), .int x1, .int x2] (none) (fun _ => [w_Mo G a0 r]) := by
  have key : ∀ W0 : List va_W, zj_J l G M_X12_layPlan W0 (zj_ret G M_X12_layPlan W0 (none) (fun _ => [w_Mo G a0 r])) 0 0 [w_Mo G a0 s0] [some (.ref (a0 0)), some (.int x1), some (.int x2), none, none, none, none, none, none, none] 0 [] := by
    intro W0
    unfold f_X12_layPlan at hf
    obtain ⟨h1, hf⟩ := zck_of hf
    obtain ⟨y2, e2, hf⟩ := zlet_of hf
    refine zr_run [(.aload_n 0, 0, 0, 0, .null), (.getfield 13, 0, 0, 14, .null), (.sipush 480, 0, 0, 0, .int (480 : Int32)), (.iload_n 1, 0, 0, 0, .null), (.iadd, 0, 0, 0, .null), (.iaload, 0, 2, 0, .null), (.istore_n 3, 0, 0, 0, .null), (.aload_n 0, 0, 0, 0, .null), (.getfield 48, 0, 0, 30, .null), (.iconst 0, 0, 0, 0, .int (0 : Int32)), (.lconst 1, 0, 0, 0, .long (1 : Int64)), (.lastore, 0, 13, 0, .null)] [] (WW' := [w_Mo G a0 (Mo_s_twelves s0 ((vp_updL (Mo_twelves s0) (0 : Int32).toNatClampNeg (1 : Int64))))]) (lv' := [some (.ref (a0 0)), some (.int x1), some (.int x2), some (.int ((Mo_now s0) ((480 : Int32) + x1).toNatClampNeg)), none, none, none, none, none, none]) (pc' := 18) (st' := []) (by decide +kernel) rfl rfl ⟨trivial, ⟨rfl, rfl, zw_6_43⟩, trivial, trivial, trivial, ⟨rfl, rfl, h1⟩, trivial, trivial, ⟨rfl, rfl, zw_6_59⟩, trivial, trivial, ⟨rfl, rfl, (by decide)⟩, trivial⟩ ?_
    refine zr_eq (WW2 := [w_Mo G a0 y2]) (lv2 := [some (.ref (a0 0)), some (.int x1), some (.int x2), some (.int ((Mo_now s0) ((480 : Int32) + x1).toNatClampNeg)), none, none, none, none, none, none]) (st2 := []) (by rw [e2]) rfl rfl ?_
    refine zr_run [(.iconst 1, 0, 0, 0, .int (1 : Int32)), (.istore 4, 0, 0, 0, .null)] [] (WW' := [w_Mo G a0 y2]) (lv' := [some (.ref (a0 0)), some (.int x1), some (.int x2), some (.int ((Mo_now s0) ((480 : Int32) + x1).toNatClampNeg)), some (.int (1 : Int32)), none, none, none, none, none]) (pc' := 21) (st' := []) (by decide +kernel) rfl rfl ⟨trivial, trivial, trivial⟩ ?_
    exact t_X12_layPlan_L21 l G a0 W0 r zFU y2 x1 x2 ((Mo_now s0) ((480 : Int32) + x1).toNatClampNeg) (1 : Int32) hf
  exact zj_entry [some (.ref (a0 0)), some (.int x1), some (.int x2), none, none, none, none, none, none, none] (by decide +kernel) rfl (by decide) (Nat.le_of_ble_eq_true rfl) rfl rfl (key _)
def M_X12_commonLong : zj_M := (RX12, cX12_commonLong, 10, (some .long), { frames := 0, cells := 0, slots := 0, locals := 0 }, false)
theorem nm_X12_commonLong : zj_nm yX12_commonLong 2 := ⟨by decide +kernel, by decide +kernel, by decide +kernel⟩
def f_X12_commonLong_H6   (k6 : Int64 → Int64 → Option (Int64)) (x4 : Int64) (x6 : Int64) : Option (Int64) := (if (lg_cmp x6 (0 : Int64)) = 0 then some x4 else (if zb_nzl x6 = true then k6 x6 (zr_reml x4 x6) else none))
def f_X12_commonLong_L6    : Nat → Int64 → Int64 → Option (Int64)
  | 0 => fun _ _ => none
  | n + 1 => fun x4 x6 => f_X12_commonLong_H6 (f_X12_commonLong_L6  n) x4 x6
def f_X12_commonLong   (x0 : Int64) (x2 : Int64) : Option (Int64) := f_X12_commonLong_L6 zFU x0 x2
set_option maxRecDepth 100000 in
set_option maxHeartbeats 4000000 in
theorem t_X12_commonLong_H6 (l : Launch) (G : zj_G)  (W0 : List va_W) (r : Int64)  (k6 : Int64 → Int64 → Option (Int64)) (hk6 : ∀ (x4 : Int64) (x6 : Int64), k6 x4 x6 = some r → zj_J l G M_X12_commonLong W0 (zj_ret G M_X12_commonLong W0 (some (.long r)) (fun _ => [])) 0 0 [] [none, none, none, none, some (.long x4), none, some (.long x6), none, none, none] 6 []) (x4 : Int64) (x6 : Int64) (hf : f_X12_commonLong_H6 k6 x4 x6 = some r) : zj_J l G M_X12_commonLong W0 (zj_ret G M_X12_commonLong W0 (some (.long r)) (fun _ => [])) 0 0 [] [none, none, none, none, some (.long x4), none, some (.long x6), none, none, none] 6 [] := by
  unfold f_X12_commonLong_H6 at hf
  refine zr_run [(.lload 6, 0, 0, 0, .null), (.lconst 0, 0, 0, 0, .long (0 : Int64)), (.lcmp, 0, 0, 0, .null)] [] (WW' := []) (lv' := [none, none, none, none, some (.long x4), none, some (.long x6), none, none, none]) (pc' := 10) (st' := [.int (lg_cmp x6 (0 : Int64))]) (by decide +kernel) rfl rfl ⟨trivial, trivial, trivial, trivial⟩ ?_
  refine zr_if_eq (off := 21) (tgt := 31) (by decide +kernel) (by decide) (fun hc => ?_) (fun hc => ?_)
  · have hf := zift hf hc
    refine zr_run [(.lload 4, 0, 0, 0, .null)] [] (WW' := []) (lv' := [none, none, none, none, some (.long x4), none, some (.long x6), none, none, none]) (pc' := 33) (st' := [.long x4]) (by decide +kernel) rfl rfl ⟨trivial, trivial⟩ ?_
    obtain rfl := Option.some.inj hf
    exact zr_lret (b0 := fun _ => 0) (by decide +kernel) rfl rfl rfl rfl rfl
  · have hf := ziff hf hc
    obtain ⟨h1, hf⟩ := zck_of hf
    refine zr_run [(.lload 4, 0, 0, 0, .null), (.lload 6, 0, 0, 0, .null), (.lrem, 0, 0, 0, .null), (.lstore 8, 0, 0, 0, .null), (.lload 6, 0, 0, 0, .null), (.lstore 4, 0, 0, 0, .null), (.lload 8, 0, 0, 0, .null), (.lstore 6, 0, 0, 0, .null)] [] (WW' := []) (lv' := [none, none, none, none, some (.long x6), none, some (.long (zr_reml x4 x6)), none, some (.long (zr_reml x4 x6)), none]) (pc' := 28) (st' := []) (by decide +kernel) rfl rfl ⟨trivial, trivial, h1, trivial, trivial, trivial, trivial, trivial, trivial⟩ ?_
    refine zr_run [] [8] (WW' := []) (lv' := [none, none, none, none, some (.long x6), none, some (.long (zr_reml x4 x6)), none, none, none]) (pc' := 28) (st' := []) (by decide +kernel) rfl rfl trivial ?_
    refine zr_goto (off := -22) (tgt := 6) (by decide +kernel) (by decide) ?_
    exact hk6 x6 (zr_reml x4 x6) hf
theorem t_X12_commonLong_L6 (l : Launch) (G : zj_G)  (W0 : List va_W) (r : Int64)    : ∀ (n : Nat) (x4 : Int64) (x6 : Int64), f_X12_commonLong_L6 n x4 x6 = some r → zj_J l G M_X12_commonLong W0 (zj_ret G M_X12_commonLong W0 (some (.long r)) (fun _ => [])) 0 0 [] [none, none, none, none, some (.long x4), none, some (.long x6), none, none, none] 6 [] := by
  intro n
  induction n with
  | zero => intro x4 x6 hf; exact nomatch (show none = some r from hf)
  | succ n ih => intro x4 x6 hf; exact t_X12_commonLong_H6 l G  W0 r   (f_X12_commonLong_L6 n)  ih x4 x6  hf
set_option maxRecDepth 100000 in
set_option maxHeartbeats 4000000 in
theorem c_X12_commonLong (l : Launch) (G : zj_G)   (x0 : Int64) (x2 : Int64) (r : Int64) (hf : f_X12_commonLong x0 x2 = some r) : zj_C l G M_X12_commonLong yX12_commonLong [] [.long x0, .long x2] (some (.long r)) (fun _ => []) := by
  have key : ∀ W0 : List va_W, zj_J l G M_X12_commonLong W0 (zj_ret G M_X12_commonLong W0 (some (.long r)) (fun _ => [])) 0 0 [] [some (.long x0), none, some (.long x2), none, none, none, none, none, none, none] 0 [] := by
    intro W0
    unfold f_X12_commonLong at hf
    refine zr_run [(.lload_n 0, 0, 0, 0, .null), (.lstore 4, 0, 0, 0, .null), (.lload_n 2, 0, 0, 0, .null), (.lstore 6, 0, 0, 0, .null)] [0, 2] (WW' := []) (lv' := [none, none, none, none, some (.long x0), none, some (.long x2), none, none, none]) (pc' := 6) (st' := []) (by decide +kernel) rfl rfl ⟨trivial, trivial, trivial, trivial, trivial⟩ ?_
    exact t_X12_commonLong_L6 l G W0 r zFU x0 x2 hf
  exact zj_entry [some (.long x0), none, some (.long x2), none, none, none, none, none, none, none] (by decide +kernel) rfl (by decide) (Nat.le_of_ble_eq_true rfl) rfl rfl (key _)
def M_X12_plan : zj_M := (RX12, cX12_plan, 11, (some .long), { frames := 5, cells := 0, slots := 0, locals := 121 }, false)
theorem nm_X12_plan : zj_nm yX12_plan 2 := ⟨by decide +kernel, by decide +kernel, by decide +kernel⟩
def f_X12_plan_b232  (s0 : MoT) (k134 : MoT → Int32 → Int32 → Int32 → Int32 → Int32 → Int64 → Int32 → Option (Int64 × MoT)) (x2 : Int32) (x3 : Int32) (x4 : Int32) (x5 : Int32) (x7 : Int64) (x9 : Int32) (z0 : Int32) : Option (Int64 × MoT) := k134 s0 x2 x3 x4 x5 z0 x7 (x9 + (-1 : Int32))
def f_X12_plan_b194  (s0 : MoT) (k134 : MoT → Int32 → Int32 → Int32 → Int32 → Int32 → Int64 → Int32 → Option (Int64 × MoT)) (x2 : Int32) (x3 : Int32) (x4 : Int32) (x5 : Int32) (x7 : Int64) (x9 : Int32) (x10 : Int32) : Option (Int64 × MoT) := (if zb_in (Mo_planLong s0) 12 = true then (zlet (Mo_s_planned s0 ((upd (Mo_planned s0) (Mo_planLong s0).toNatClampNeg x10))) fun y21 => (zlet (Mo_s_planLong y21 ((Mo_planLong y21) + (1 : Int32))) fun y22 => (if x10 = 0 then f_X12_plan_b232 y22 k134 x2 x3 x4 (x5 + x10) x7 x9 (1 : Int32) else f_X12_plan_b232 y22 k134 x2 x3 x4 (x5 + x10) x7 x9 (0 : Int32)))) else none)
def f_X12_plan_H150  (s0 : MoT) (k134 : MoT → Int32 → Int32 → Int32 → Int32 → Int32 → Int64 → Int32 → Option (Int64 × MoT)) (k150 : MoT → Int32 → Int32 → Int32 → Int32 → Int32 → Int64 → Int32 → Int32 → Option (Int64 × MoT)) (x2 : Int32) (x3 : Int32) (x4 : Int32) (x5 : Int32) (x6 : Int32) (x7 : Int64) (x9 : Int32) (x10 : Int32) : Option (Int64 × MoT) := (if 0 < (lg_cmp x7 (0 : Int64)) then ((f_X12_goesTo s0 x9 x5 x10 x4).bind fun q17 => ((f_X12_at s0 x9 x5 x6).bind fun q18 => (if zb_in q18 7046 = true then (if (lg_cmp q17 ((Mo_chance s0) q18.toNatClampNeg)) = 0 then f_X12_plan_b194 s0 k134 x2 x3 x4 x5 x7 x9 x10 else k150 s0 x2 x3 x4 x5 x6 x7 x9 (x10 + (1 : Int32))) else none))) else f_X12_plan_b194 s0 k134 x2 x3 x4 x5 x7 x9 x10)
def f_X12_plan_L150   (k134 : MoT → Int32 → Int32 → Int32 → Int32 → Int32 → Int64 → Int32 → Option (Int64 × MoT)) : Nat → MoT → Int32 → Int32 → Int32 → Int32 → Int32 → Int64 → Int32 → Int32 → Option (Int64 × MoT)
  | 0 => fun _ _ _ _ _ _ _ _ _ => none
  | n + 1 => fun s0 x2 x3 x4 x5 x6 x7 x9 x10 => f_X12_plan_H150 s0 k134 (f_X12_plan_L150 k134 n) x2 x3 x4 x5 x6 x7 x9 x10
def f_X12_plan_b240  (s0 : MoT)  (x2 : Int32) (x3 : Int32) (x7 : Int64) : Option (Int64 × MoT) := (if zb_in x3 13 = true then ((f_X12_commonLong ((Mo_twelves s0) x3.toNatClampNeg) x7).bind fun q24 => (if x2 = 0 then (if zb_nzl q24 = true then some ((x7 / q24), s0) else none) else (if zb_in x3 13 = true then (if zb_nzl q24 = true then some ((((Mo_twelves s0) x3.toNatClampNeg) / q24), s0) else none) else none))) else none)
def f_X12_plan_H134  (s0 : MoT) (k134 : MoT → Int32 → Int32 → Int32 → Int32 → Int32 → Int64 → Int32 → Option (Int64 × MoT)) (x2 : Int32) (x3 : Int32) (x4 : Int32) (x5 : Int32) (x6 : Int32) (x7 : Int64) (x9 : Int32) : Option (Int64 × MoT) := (if 0 < x9 then (if x5 < x4 then f_X12_plan_L150 k134 zFU s0 x2 x3 x4 x5 x6 x7 x9 x6 else f_X12_plan_b240 s0 x2 x3 x7) else f_X12_plan_b240 s0 x2 x3 x7)
def f_X12_plan_L134    : Nat → MoT → Int32 → Int32 → Int32 → Int32 → Int32 → Int64 → Int32 → Option (Int64 × MoT)
  | 0 => fun _ _ _ _ _ _ _ _ => none
  | n + 1 => fun s0 x2 x3 x4 x5 x6 x7 x9 => f_X12_plan_H134 s0 (f_X12_plan_L134  n) x2 x3 x4 x5 x6 x7 x9
def f_X12_plan  (s0 : MoT) (x1 : Int32) (x2 : Int32) : Option (Int64 × MoT) := (zlet (Mo_s_thrown s0 (0 : Int32)) fun y1 => ((f_X12_isMan y1 x1).bind fun q2 => (if q2 = 0 then ((f_X12_refuse y1).bind fun q3 => some (q3.1.toInt64, q3.2)) else ((f_X12_isIn x2 (0 : Int32) (1 : Int32)).bind fun q4 => (if q4 = 0 then ((f_X12_refuse y1).bind fun q5 => some (q5.1.toInt64, q5.2)) else (if zb_in ((444 : Int32) + x1) 758 = true then (if ((Mo_now y1) ((444 : Int32) + x1).toNatClampNeg) = (1 : Int32) then (if zb_in ((486 : Int32) + x1) 758 = true then (if (12 : Int32) < ((Mo_now y1) ((486 : Int32) + x1).toNatClampNeg) then ((f_X12_refuse y1).bind fun q8 => some (q8.1.toInt64, q8.2)) else (if zb_in ((486 : Int32) + x1) 758 = true then ((f_X12_layPlan y1 x1 ((Mo_now y1) ((486 : Int32) + x1).toNatClampNeg)).bind fun q10 => (if zb_in ((480 : Int32) + x1) 758 = true then (if zb_in ((474 : Int32) + x1) 758 = true then (if zb_in ((498 : Int32) + x1) 758 = true then ((f_X12_at q10 ((Mo_now y1) ((486 : Int32) + x1).toNatClampNeg) ((Mo_now q10) ((474 : Int32) + x1).toNatClampNeg) ((Mo_now q10) ((498 : Int32) + x1).toNatClampNeg)).bind fun q14 => (if zb_in q14 7046 = true then (zlet (Mo_s_planLong q10 (0 : Int32)) fun y16 => f_X12_plan_L134 zFU y16 x2 ((Mo_now y1) ((486 : Int32) + x1).toNatClampNeg) ((Mo_now q10) ((480 : Int32) + x1).toNatClampNeg) ((Mo_now q10) ((474 : Int32) + x1).toNatClampNeg) ((Mo_now q10) ((498 : Int32) + x1).toNatClampNeg) ((Mo_chance q10) q14.toNatClampNeg) ((Mo_now y1) ((486 : Int32) + x1).toNatClampNeg)) else none)) else none) else none) else none)) else none)) else none) else ((f_X12_refuse y1).bind fun q28 => some (q28.1.toInt64, q28.2))) else none))))))
set_option maxRecDepth 100000 in
set_option maxHeartbeats 4000000 in
theorem t_X12_plan_b232 (l : Launch) (G : zj_G) (a0 : Nat → Nat) (W0 : List va_W) (r : Int64 × MoT) (s0 : MoT) (k134 : MoT → Int32 → Int32 → Int32 → Int32 → Int32 → Int64 → Int32 → Option (Int64 × MoT)) (hk134 : ∀ (s0 : MoT) (x2 : Int32) (x3 : Int32) (x4 : Int32) (x5 : Int32) (x6 : Int32) (x7 : Int64) (x9 : Int32), k134 s0 x2 x3 x4 x5 x6 x7 x9 = some r → zj_J l G M_X12_plan W0 (zj_ret G M_X12_plan W0 (some (.long r.1)) (fun _ => [w_Mo G a0 r.2])) 0 0 [w_Mo G a0 s0] [some (.ref (a0 0)), none, some (.int x2), some (.int x3), some (.int x4), some (.int x5), some (.int x6), some (.long x7), none, some (.int x9), none] 134 []) (x2 : Int32) (x3 : Int32) (x4 : Int32) (x5 : Int32) (x7 : Int64) (x9 : Int32) (z0 : Int32) (hf : f_X12_plan_b232 s0 k134 x2 x3 x4 x5 x7 x9 z0 = some r) : zj_J l G M_X12_plan W0 (zj_ret G M_X12_plan W0 (some (.long r.1)) (fun _ => [w_Mo G a0 r.2])) 0 0 [w_Mo G a0 s0] [some (.ref (a0 0)), none, some (.int x2), some (.int x3), some (.int x4), some (.int x5), none, some (.long x7), none, some (.int x9), none] 232 [.int z0] := by
  unfold f_X12_plan_b232 at hf
  refine zr_run [(.istore 6, 0, 0, 0, .null), (.iinc 9 (-1), 0, 0, 0, .int (-1 : Int32))] [] (WW' := [w_Mo G a0 s0]) (lv' := [some (.ref (a0 0)), none, some (.int x2), some (.int x3), some (.int x4), some (.int x5), some (.int z0), some (.long x7), none, some (.int (x9 + (-1 : Int32))), none]) (pc' := 237) (st' := []) (by decide +kernel) rfl rfl ⟨trivial, trivial, trivial⟩ ?_
  refine zr_goto (off := -103) (tgt := 134) (by decide +kernel) (by decide) ?_
  exact hk134 s0 x2 x3 x4 x5 z0 x7 (x9 + (-1 : Int32)) hf
set_option maxRecDepth 100000 in
set_option maxHeartbeats 4000000 in
theorem t_X12_plan_b194 (l : Launch) (G : zj_G) (a0 : Nat → Nat) (W0 : List va_W) (r : Int64 × MoT) (s0 : MoT) (k134 : MoT → Int32 → Int32 → Int32 → Int32 → Int32 → Int64 → Int32 → Option (Int64 × MoT)) (hk134 : ∀ (s0 : MoT) (x2 : Int32) (x3 : Int32) (x4 : Int32) (x5 : Int32) (x6 : Int32) (x7 : Int64) (x9 : Int32), k134 s0 x2 x3 x4 x5 x6 x7 x9 = some r → zj_J l G M_X12_plan W0 (zj_ret G M_X12_plan W0 (some (.long r.1)) (fun _ => [w_Mo G a0 r.2])) 0 0 [w_Mo G a0 s0] [some (.ref (a0 0)), none, some (.int x2), some (.int x3), some (.int x4), some (.int x5), some (.int x6), some (.long x7), none, some (.int x9), none] 134 []) (x2 : Int32) (x3 : Int32) (x4 : Int32) (x5 : Int32) (x7 : Int64) (x9 : Int32) (x10 : Int32) (hf : f_X12_plan_b194 s0 k134 x2 x3 x4 x5 x7 x9 x10 = some r) : zj_J l G M_X12_plan W0 (zj_ret G M_X12_plan W0 (some (.long r.1)) (fun _ => [w_Mo G a0 r.2])) 0 0 [w_Mo G a0 s0] [some (.ref (a0 0)), none, some (.int x2), some (.int x3), some (.int x4), some (.int x5), none, some (.long x7), none, some (.int x9), some (.int x10)] 194 [] := by
  unfold f_X12_plan_b194 at hf
  obtain ⟨h20, hf⟩ := zck_of hf
  obtain ⟨y21, e21, hf⟩ := zlet_of hf
  refine zr_run [(.aload_n 0, 0, 0, 0, .null), (.getfield 51, 0, 0, 31, .null), (.aload_n 0, 0, 0, 0, .null), (.getfield 351, 0, 0, 33, .null), (.iload 10, 0, 0, 0, .null), (.iastore, 0, 14, 0, .null)] [] (WW' := [w_Mo G a0 (Mo_s_planned s0 ((upd (Mo_planned s0) (Mo_planLong s0).toNatClampNeg x10)))]) (lv' := [some (.ref (a0 0)), none, some (.int x2), some (.int x3), some (.int x4), some (.int x5), none, some (.long x7), none, some (.int x9), some (.int x10)]) (pc' := 205) (st' := []) (by decide +kernel) rfl rfl ⟨trivial, ⟨rfl, rfl, zw_6_60⟩, trivial, ⟨rfl, rfl, zw_6_62⟩, trivial, ⟨rfl, rfl, h20⟩, trivial⟩ ?_
  refine zr_eq (WW2 := [w_Mo G a0 y21]) (lv2 := [some (.ref (a0 0)), none, some (.int x2), some (.int x3), some (.int x4), some (.int x5), none, some (.long x7), none, some (.int x9), some (.int x10)]) (st2 := []) (by rw [e21]) rfl rfl ?_
  obtain ⟨y22, e22, hf⟩ := zlet_of hf
  refine zr_run [(.aload_n 0, 0, 0, 0, .null), (.dup, 0, 0, 0, .null), (.getfield 351, 0, 0, 33, .null), (.iconst 1, 0, 0, 0, .int (1 : Int32)), (.iadd, 0, 0, 0, .null), (.putfield 351, 0, 0, 33, .null)] [] (WW' := [w_Mo G a0 (Mo_s_planLong y21 ((Mo_planLong y21) + (1 : Int32)))]) (lv' := [some (.ref (a0 0)), none, some (.int x2), some (.int x3), some (.int x4), some (.int x5), none, some (.long x7), none, some (.int x9), some (.int x10)]) (pc' := 215) (st' := []) (by decide +kernel) rfl rfl ⟨trivial, trivial, ⟨rfl, rfl, zw_6_62⟩, trivial, trivial, ⟨rfl, rfl, rfl, trivial, rfl, rfl, zw_6_62⟩, trivial⟩ ?_
  refine zr_eq (WW2 := [w_Mo G a0 y22]) (lv2 := [some (.ref (a0 0)), none, some (.int x2), some (.int x3), some (.int x4), some (.int x5), none, some (.long x7), none, some (.int x9), some (.int x10)]) (st2 := []) (by rw [e22]) rfl rfl ?_
  refine zr_run [(.iload 5, 0, 0, 0, .null), (.iload 10, 0, 0, 0, .null), (.iadd, 0, 0, 0, .null), (.istore 5, 0, 0, 0, .null), (.iload 10, 0, 0, 0, .null)] [] (WW' := [w_Mo G a0 y22]) (lv' := [some (.ref (a0 0)), none, some (.int x2), some (.int x3), some (.int x4), some (.int (x5 + x10)), none, some (.long x7), none, some (.int x9), some (.int x10)]) (pc' := 224) (st' := [.int x10]) (by decide +kernel) rfl rfl ⟨trivial, trivial, trivial, trivial, trivial, trivial⟩ ?_
  refine zr_if_ne (off := 7) (tgt := 231) (by decide +kernel) (by decide) (fun hc => ?_) (fun hc => ?_)
  · have hf := zift hf hc
    refine zr_run [(.iconst 1, 0, 0, 0, .int (1 : Int32))] [] (WW' := [w_Mo G a0 y22]) (lv' := [some (.ref (a0 0)), none, some (.int x2), some (.int x3), some (.int x4), some (.int (x5 + x10)), none, some (.long x7), none, some (.int x9), some (.int x10)]) (pc' := 228) (st' := [.int (1 : Int32)]) (by decide +kernel) rfl rfl ⟨trivial, trivial⟩ ?_
    refine zr_goto (off := 4) (tgt := 232) (by decide +kernel) (by decide) ?_
    refine zr_run [] [10] (WW' := [w_Mo G a0 y22]) (lv' := [some (.ref (a0 0)), none, some (.int x2), some (.int x3), some (.int x4), some (.int (x5 + x10)), none, some (.long x7), none, some (.int x9), none]) (pc' := 232) (st' := [.int (1 : Int32)]) (by decide +kernel) rfl rfl trivial ?_
    exact t_X12_plan_b232 l G a0 W0 r y22 k134 hk134 x2 x3 x4 (x5 + x10) x7 x9 (1 : Int32) hf
  · have hf := ziff hf hc
    refine zr_run [(.iconst 0, 0, 0, 0, .int (0 : Int32))] [10] (WW' := [w_Mo G a0 y22]) (lv' := [some (.ref (a0 0)), none, some (.int x2), some (.int x3), some (.int x4), some (.int (x5 + x10)), none, some (.long x7), none, some (.int x9), none]) (pc' := 232) (st' := [.int (0 : Int32)]) (by decide +kernel) rfl rfl ⟨trivial, trivial⟩ ?_
    exact t_X12_plan_b232 l G a0 W0 r y22 k134 hk134 x2 x3 x4 (x5 + x10) x7 x9 (0 : Int32) hf
set_option maxRecDepth 100000 in
set_option maxHeartbeats 4000000 in
theorem t_X12_plan_H150 (l : Launch) (G : zj_G) (a0 : Nat → Nat) (W0 : List va_W) (r : Int64 × MoT) (s0 : MoT) (k134 : MoT → Int32 → Int32 → Int32 → Int32 → Int32 → Int64 → Int32 → Option (Int64 × MoT)) (k150 : MoT → Int32 → Int32 → Int32 → Int32 → Int32 → Int64 → Int32 → Int32 → Option (Int64 × MoT)) (hk134 : ∀ (s0 : MoT) (x2 : Int32) (x3 : Int32) (x4 : Int32) (x5 : Int32) (x6 : Int32) (x7 : Int64) (x9 : Int32), k134 s0 x2 x3 x4 x5 x6 x7 x9 = some r → zj_J l G M_X12_plan W0 (zj_ret G M_X12_plan W0 (some (.long r.1)) (fun _ => [w_Mo G a0 r.2])) 0 0 [w_Mo G a0 s0] [some (.ref (a0 0)), none, some (.int x2), some (.int x3), some (.int x4), some (.int x5), some (.int x6), some (.long x7), none, some (.int x9), none] 134 []) (hk150 : ∀ (s0 : MoT) (x2 : Int32) (x3 : Int32) (x4 : Int32) (x5 : Int32) (x6 : Int32) (x7 : Int64) (x9 : Int32) (x10 : Int32), k150 s0 x2 x3 x4 x5 x6 x7 x9 x10 = some r → zj_J l G M_X12_plan W0 (zj_ret G M_X12_plan W0 (some (.long r.1)) (fun _ => [w_Mo G a0 r.2])) 0 0 [w_Mo G a0 s0] [some (.ref (a0 0)), none, some (.int x2), some (.int x3), some (.int x4), some (.int x5), some (.int x6), some (.long x7), none, some (.int x9), some (.int x10)] 150 []) (x2 : Int32) (x3 : Int32) (x4 : Int32) (x5 : Int32) (x6 : Int32) (x7 : Int64) (x9 : Int32) (x10 : Int32) (hf : f_X12_plan_H150 s0 k134 k150 x2 x3 x4 x5 x6 x7 x9 x10 = some r) : zj_J l G M_X12_plan W0 (zj_ret G M_X12_plan W0 (some (.long r.1)) (fun _ => [w_Mo G a0 r.2])) 0 0 [w_Mo G a0 s0] [some (.ref (a0 0)), none, some (.int x2), some (.int x3), some (.int x4), some (.int x5), some (.int x6), some (.long x7), none, some (.int x9), some (.int x10)] 150 [] := by
  unfold f_X12_plan_H150 at hf
  refine zr_run [(.lload 7, 0, 0, 0, .null), (.lconst 0, 0, 0, 0, .long (0 : Int64)), (.lcmp, 0, 0, 0, .null)] [] (WW' := [w_Mo G a0 s0]) (lv' := [some (.ref (a0 0)), none, some (.int x2), some (.int x3), some (.int x4), some (.int x5), some (.int x6), some (.long x7), none, some (.int x9), some (.int x10)]) (pc' := 154) (st' := [.int (lg_cmp x7 (0 : Int64))]) (by decide +kernel) rfl rfl ⟨trivial, trivial, trivial, trivial⟩ ?_
  refine zr_if_le (off := 40) (tgt := 194) (by decide +kernel) (by decide) (fun hc => ?_) (fun hc => ?_)
  · have hf := zift hf hc
    obtain ⟨q17, e17, hf⟩ := zbi_of hf
    refine zr_run [(.aload_n 0, 0, 0, 0, .null), (.iload 9, 0, 0, 0, .null), (.iload 5, 0, 0, 0, .null), (.iload 10, 0, 0, 0, .null), (.iload 4, 0, 0, 0, .null)] [] (WW' := [w_Mo G a0 s0]) (lv' := [some (.ref (a0 0)), none, some (.int x2), some (.int x3), some (.int x4), some (.int x5), some (.int x6), some (.long x7), none, some (.int x9), some (.int x10)]) (pc' := 166) (st' := [.int x4, .int x10, .int x5, .int x9, .ref (a0 0)]) (by decide +kernel) rfl rfl ⟨trivial, trivial, trivial, trivial, trivial, trivial⟩ ?_
    refine zr_callV (c_X12_goesTo l G a0 s0 x9 x5 x10 x4 q17 e17) (WW' := fun _ => [w_Mo G a0 s0]) (st := []) (st' := [.long q17]) [0] rfl rfl (fun _ => Nat.le_of_ble_eq_true rfl) (fun _ => rfl) rfl rfl nm_X12_goesTo zw_8_30 zw_8_32 zw_0_98 zw_1_18 zw_8_33 rfl rfl rfl (Nat.le_of_ble_eq_true rfl) ⟨Nat.le_of_ble_eq_true rfl, Nat.le_of_ble_eq_true rfl⟩ (by decide +kernel) (fun _ => ?_)
    obtain ⟨q18, e18, hf⟩ := zbi_of hf
    refine zr_run [(.aload_n 0, 0, 0, 0, .null), (.getfield 45, 0, 0, 29, .null), (.aload_n 0, 0, 0, 0, .null), (.iload 9, 0, 0, 0, .null), (.iload 5, 0, 0, 0, .null), (.iload 6, 0, 0, 0, .null)] [] (WW' := [w_Mo G a0 s0]) (lv' := [some (.ref (a0 0)), none, some (.int x2), some (.int x3), some (.int x4), some (.int x5), some (.int x6), some (.long x7), none, some (.int x9), some (.int x10)]) (pc' := 180) (st' := [.int x6, .int x5, .int x9, .ref (a0 0), .ref (a0 12), .long q17]) (by decide +kernel) rfl rfl ⟨trivial, ⟨rfl, rfl, zw_6_58⟩, trivial, trivial, trivial, trivial, trivial⟩ ?_
    refine zr_callV (c_X12_at l G a0 s0 x9 x5 x6 q18 e18) (WW' := fun _ => [w_Mo G a0 s0]) (st := [.ref (a0 12), .long q17]) (st' := [.int q18, .ref (a0 12), .long q17]) [0] rfl rfl (fun _ => Nat.le_of_ble_eq_true rfl) (fun _ => rfl) rfl rfl nm_X12_at zw_8_26 zw_8_28 zw_0_97 zw_1_18 zw_8_29 rfl rfl rfl (Nat.le_of_ble_eq_true rfl) ⟨Nat.le_of_ble_eq_true rfl, Nat.le_of_ble_eq_true rfl⟩ (by decide +kernel) (fun _ => ?_)
    obtain ⟨h19, hf⟩ := zck_of hf
    refine zr_run [(.laload, 0, 12, 0, .null), (.lcmp, 0, 0, 0, .null)] [] (WW' := [w_Mo G a0 s0]) (lv' := [some (.ref (a0 0)), none, some (.int x2), some (.int x3), some (.int x4), some (.int x5), some (.int x6), some (.long x7), none, some (.int x9), some (.int x10)]) (pc' := 185) (st' := [.int (lg_cmp q17 ((Mo_chance s0) q18.toNatClampNeg))]) (by decide +kernel) rfl rfl ⟨⟨rfl, rfl, h19⟩, trivial, trivial⟩ ?_
    refine zr_if_eq (off := 9) (tgt := 194) (by decide +kernel) (by decide) (fun hc => ?_) (fun hc => ?_)
    · have hf := zift hf hc
      refine zr_run [] [6] (WW' := [w_Mo G a0 s0]) (lv' := [some (.ref (a0 0)), none, some (.int x2), some (.int x3), some (.int x4), some (.int x5), none, some (.long x7), none, some (.int x9), some (.int x10)]) (pc' := 194) (st' := []) (by decide +kernel) rfl rfl trivial ?_
      exact t_X12_plan_b194 l G a0 W0 r s0 k134 hk134 x2 x3 x4 x5 x7 x9 x10 hf
    · have hf := ziff hf hc
      refine zr_run [(.iinc 10 1, 0, 0, 0, .int (1 : Int32))] [] (WW' := [w_Mo G a0 s0]) (lv' := [some (.ref (a0 0)), none, some (.int x2), some (.int x3), some (.int x4), some (.int x5), some (.int x6), some (.long x7), none, some (.int x9), some (.int (x10 + (1 : Int32)))]) (pc' := 191) (st' := []) (by decide +kernel) rfl rfl ⟨trivial, trivial⟩ ?_
      refine zr_goto (off := -41) (tgt := 150) (by decide +kernel) (by decide) ?_
      exact hk150 s0 x2 x3 x4 x5 x6 x7 x9 (x10 + (1 : Int32)) hf
  · have hf := ziff hf hc
    refine zr_run [] [6] (WW' := [w_Mo G a0 s0]) (lv' := [some (.ref (a0 0)), none, some (.int x2), some (.int x3), some (.int x4), some (.int x5), none, some (.long x7), none, some (.int x9), some (.int x10)]) (pc' := 194) (st' := []) (by decide +kernel) rfl rfl trivial ?_
    exact t_X12_plan_b194 l G a0 W0 r s0 k134 hk134 x2 x3 x4 x5 x7 x9 x10 hf
theorem t_X12_plan_L150 (l : Launch) (G : zj_G) (a0 : Nat → Nat) (W0 : List va_W) (r : Int64 × MoT)  (k134 : MoT → Int32 → Int32 → Int32 → Int32 → Int32 → Int64 → Int32 → Option (Int64 × MoT)) (hk134 : ∀ (s0 : MoT) (x2 : Int32) (x3 : Int32) (x4 : Int32) (x5 : Int32) (x6 : Int32) (x7 : Int64) (x9 : Int32), k134 s0 x2 x3 x4 x5 x6 x7 x9 = some r → zj_J l G M_X12_plan W0 (zj_ret G M_X12_plan W0 (some (.long r.1)) (fun _ => [w_Mo G a0 r.2])) 0 0 [w_Mo G a0 s0] [some (.ref (a0 0)), none, some (.int x2), some (.int x3), some (.int x4), some (.int x5), some (.int x6), some (.long x7), none, some (.int x9), none] 134 []) : ∀ (n : Nat) (s0 : MoT) (x2 : Int32) (x3 : Int32) (x4 : Int32) (x5 : Int32) (x6 : Int32) (x7 : Int64) (x9 : Int32) (x10 : Int32), f_X12_plan_L150 k134 n s0 x2 x3 x4 x5 x6 x7 x9 x10 = some r → zj_J l G M_X12_plan W0 (zj_ret G M_X12_plan W0 (some (.long r.1)) (fun _ => [w_Mo G a0 r.2])) 0 0 [w_Mo G a0 s0] [some (.ref (a0 0)), none, some (.int x2), some (.int x3), some (.int x4), some (.int x5), some (.int x6), some (.long x7), none, some (.int x9), some (.int x10)] 150 [] := by
  intro n
  induction n with
  | zero => intro s0 x2 x3 x4 x5 x6 x7 x9 x10 hf; exact nomatch (show none = some r from hf)
  | succ n ih => intro s0 x2 x3 x4 x5 x6 x7 x9 x10 hf; exact t_X12_plan_H150 l G a0 W0 r s0 k134 (f_X12_plan_L150 k134 n) hk134 ih x2 x3 x4 x5 x6 x7 x9 x10  hf
set_option maxRecDepth 100000 in
set_option maxHeartbeats 4000000 in
theorem t_X12_plan_b240 (l : Launch) (G : zj_G) (a0 : Nat → Nat) (W0 : List va_W) (r : Int64 × MoT) (s0 : MoT)   (x2 : Int32) (x3 : Int32) (x7 : Int64) (hf : f_X12_plan_b240 s0 x2 x3 x7 = some r) : zj_J l G M_X12_plan W0 (zj_ret G M_X12_plan W0 (some (.long r.1)) (fun _ => [w_Mo G a0 r.2])) 0 0 [w_Mo G a0 s0] [some (.ref (a0 0)), none, some (.int x2), some (.int x3), none, none, none, some (.long x7), none, none, none] 240 [] := by
  unfold f_X12_plan_b240 at hf
  obtain ⟨h23, hf⟩ := zck_of hf
  obtain ⟨q24, e24, hf⟩ := zbi_of hf
  refine zr_run [(.aload_n 0, 0, 0, 0, .null), (.getfield 48, 0, 0, 30, .null), (.iload_n 3, 0, 0, 0, .null), (.laload, 0, 13, 0, .null), (.lload 7, 0, 0, 0, .null)] [] (WW' := [w_Mo G a0 s0]) (lv' := [some (.ref (a0 0)), none, some (.int x2), some (.int x3), none, none, none, some (.long x7), none, none, none]) (pc' := 248) (st' := [.long x7, .long ((Mo_twelves s0) x3.toNatClampNeg)]) (by decide +kernel) rfl rfl ⟨trivial, ⟨rfl, rfl, zw_6_59⟩, trivial, ⟨rfl, rfl, h23⟩, trivial, trivial⟩ ?_
  refine zr_callS (c_X12_commonLong l G ((Mo_twelves s0) x3.toNatClampNeg) x7 q24 e24) (WW' := fun _ => [w_Mo G a0 s0]) (st := []) (st' := [.long q24]) [] rfl rfl (fun _ => Nat.le_of_ble_eq_true rfl) (fun _ => rfl) rfl rfl nm_X12_commonLong zw_8_34 zw_8_35 zw_1_18 zw_8_36 rfl (Nat.le_of_ble_eq_true rfl) ⟨Nat.le_of_ble_eq_true rfl, Nat.le_of_ble_eq_true rfl⟩ (by decide +kernel) (fun _ => ?_)
  refine zr_run [(.lstore 9, 0, 0, 0, .null), (.iload_n 2, 0, 0, 0, .null)] [] (WW' := [w_Mo G a0 s0]) (lv' := [some (.ref (a0 0)), none, some (.int x2), some (.int x3), none, none, none, some (.long x7), none, some (.long q24), none]) (pc' := 254) (st' := [.int x2]) (by decide +kernel) rfl rfl ⟨trivial, trivial, trivial⟩ ?_
  refine zr_if_ne (off := 8) (tgt := 262) (by decide +kernel) (by decide) (fun hc => ?_) (fun hc => ?_)
  · have hf := zift hf hc
    refine zr_run [(.lload 7, 0, 0, 0, .null)] [] (WW' := [w_Mo G a0 s0]) (lv' := [some (.ref (a0 0)), none, some (.int x2), some (.int x3), none, none, none, some (.long x7), none, some (.long q24), none]) (pc' := 259) (st' := [.long x7]) (by decide +kernel) rfl rfl ⟨trivial, trivial⟩ ?_
    refine zr_goto (off := 9) (tgt := 268) (by decide +kernel) (by decide) ?_
    obtain ⟨h25, hf⟩ := zck_of hf
    refine zr_run [(.lload 9, 0, 0, 0, .null), (.ldiv, 0, 0, 0, .null)] [] (WW' := [w_Mo G a0 s0]) (lv' := [some (.ref (a0 0)), none, some (.int x2), some (.int x3), none, none, none, some (.long x7), none, some (.long q24), none]) (pc' := 271) (st' := [.long (x7 / q24)]) (by decide +kernel) rfl rfl ⟨trivial, h25, trivial⟩ ?_
    obtain rfl := Option.some.inj hf
    exact zr_lret (b0 := fun _ => 0) (by decide +kernel) rfl rfl rfl rfl rfl
  · have hf := ziff hf hc
    obtain ⟨h26, hf⟩ := zck_of hf
    obtain ⟨h27, hf⟩ := zck_of hf
    refine zr_run [(.aload_n 0, 0, 0, 0, .null), (.getfield 48, 0, 0, 30, .null), (.iload_n 3, 0, 0, 0, .null), (.laload, 0, 13, 0, .null), (.lload 9, 0, 0, 0, .null), (.ldiv, 0, 0, 0, .null)] [] (WW' := [w_Mo G a0 s0]) (lv' := [some (.ref (a0 0)), none, some (.int x2), some (.int x3), none, none, none, some (.long x7), none, some (.long q24), none]) (pc' := 271) (st' := [.long (((Mo_twelves s0) x3.toNatClampNeg) / q24)]) (by decide +kernel) rfl rfl ⟨trivial, ⟨rfl, rfl, zw_6_59⟩, trivial, ⟨rfl, rfl, h26⟩, trivial, h27, trivial⟩ ?_
    obtain rfl := Option.some.inj hf
    exact zr_lret (b0 := fun _ => 0) (by decide +kernel) rfl rfl rfl rfl rfl
set_option maxRecDepth 100000 in
set_option maxHeartbeats 4000000 in
theorem t_X12_plan_H134 (l : Launch) (G : zj_G) (a0 : Nat → Nat) (W0 : List va_W) (r : Int64 × MoT) (s0 : MoT) (k134 : MoT → Int32 → Int32 → Int32 → Int32 → Int32 → Int64 → Int32 → Option (Int64 × MoT)) (hk134 : ∀ (s0 : MoT) (x2 : Int32) (x3 : Int32) (x4 : Int32) (x5 : Int32) (x6 : Int32) (x7 : Int64) (x9 : Int32), k134 s0 x2 x3 x4 x5 x6 x7 x9 = some r → zj_J l G M_X12_plan W0 (zj_ret G M_X12_plan W0 (some (.long r.1)) (fun _ => [w_Mo G a0 r.2])) 0 0 [w_Mo G a0 s0] [some (.ref (a0 0)), none, some (.int x2), some (.int x3), some (.int x4), some (.int x5), some (.int x6), some (.long x7), none, some (.int x9), none] 134 []) (x2 : Int32) (x3 : Int32) (x4 : Int32) (x5 : Int32) (x6 : Int32) (x7 : Int64) (x9 : Int32) (hf : f_X12_plan_H134 s0 k134 x2 x3 x4 x5 x6 x7 x9 = some r) : zj_J l G M_X12_plan W0 (zj_ret G M_X12_plan W0 (some (.long r.1)) (fun _ => [w_Mo G a0 r.2])) 0 0 [w_Mo G a0 s0] [some (.ref (a0 0)), none, some (.int x2), some (.int x3), some (.int x4), some (.int x5), some (.int x6), some (.long x7), none, some (.int x9), none] 134 [] := by
  unfold f_X12_plan_H134 at hf
  refine zr_run [(.iload 9, 0, 0, 0, .null)] [] (WW' := [w_Mo G a0 s0]) (lv' := [some (.ref (a0 0)), none, some (.int x2), some (.int x3), some (.int x4), some (.int x5), some (.int x6), some (.long x7), none, some (.int x9), none]) (pc' := 136) (st' := [.int x9]) (by decide +kernel) rfl rfl ⟨trivial, trivial⟩ ?_
  refine zr_if_le (off := 104) (tgt := 240) (by decide +kernel) (by decide) (fun hc => ?_) (fun hc => ?_)
  · have hf := zift hf hc
    refine zr_run [(.iload 5, 0, 0, 0, .null), (.iload 4, 0, 0, 0, .null)] [] (WW' := [w_Mo G a0 s0]) (lv' := [some (.ref (a0 0)), none, some (.int x2), some (.int x3), some (.int x4), some (.int x5), some (.int x6), some (.long x7), none, some (.int x9), none]) (pc' := 143) (st' := [.int x4, .int x5]) (by decide +kernel) rfl rfl ⟨trivial, trivial, trivial⟩ ?_
    refine zr_icmp_ge (off := 97) (tgt := 240) (by decide +kernel) (by decide) (fun hc => ?_) (fun hc => ?_)
    · have hf := zift hf hc
      refine zr_run [(.iload 6, 0, 0, 0, .null), (.istore 10, 0, 0, 0, .null)] [] (WW' := [w_Mo G a0 s0]) (lv' := [some (.ref (a0 0)), none, some (.int x2), some (.int x3), some (.int x4), some (.int x5), some (.int x6), some (.long x7), none, some (.int x9), some (.int x6)]) (pc' := 150) (st' := []) (by decide +kernel) rfl rfl ⟨trivial, trivial, trivial⟩ ?_
      exact t_X12_plan_L150 l G a0 W0 r k134 hk134 zFU s0 x2 x3 x4 x5 x6 x7 x9 x6 hf
    · have hf := ziff hf hc
      refine zr_run [] [4, 5, 6, 9] (WW' := [w_Mo G a0 s0]) (lv' := [some (.ref (a0 0)), none, some (.int x2), some (.int x3), none, none, none, some (.long x7), none, none, none]) (pc' := 240) (st' := []) (by decide +kernel) rfl rfl trivial ?_
      exact t_X12_plan_b240 l G a0 W0 r s0 x2 x3 x7 hf
  · have hf := ziff hf hc
    refine zr_run [] [4, 5, 6, 9] (WW' := [w_Mo G a0 s0]) (lv' := [some (.ref (a0 0)), none, some (.int x2), some (.int x3), none, none, none, some (.long x7), none, none, none]) (pc' := 240) (st' := []) (by decide +kernel) rfl rfl trivial ?_
    exact t_X12_plan_b240 l G a0 W0 r s0 x2 x3 x7 hf
theorem t_X12_plan_L134 (l : Launch) (G : zj_G) (a0 : Nat → Nat) (W0 : List va_W) (r : Int64 × MoT)    : ∀ (n : Nat) (s0 : MoT) (x2 : Int32) (x3 : Int32) (x4 : Int32) (x5 : Int32) (x6 : Int32) (x7 : Int64) (x9 : Int32), f_X12_plan_L134 n s0 x2 x3 x4 x5 x6 x7 x9 = some r → zj_J l G M_X12_plan W0 (zj_ret G M_X12_plan W0 (some (.long r.1)) (fun _ => [w_Mo G a0 r.2])) 0 0 [w_Mo G a0 s0] [some (.ref (a0 0)), none, some (.int x2), some (.int x3), some (.int x4), some (.int x5), some (.int x6), some (.long x7), none, some (.int x9), none] 134 [] := by
  intro n
  induction n with
  | zero => intro s0 x2 x3 x4 x5 x6 x7 x9 hf; exact nomatch (show none = some r from hf)
  | succ n ih => intro s0 x2 x3 x4 x5 x6 x7 x9 hf; exact t_X12_plan_H134 l G a0 W0 r s0  (f_X12_plan_L134 n)  ih x2 x3 x4 x5 x6 x7 x9  hf
set_option maxRecDepth 100000 in
set_option maxHeartbeats 4000000 in
theorem c_X12_plan (l : Launch) (G : zj_G) (a0 : Nat → Nat) (s0 : MoT) (x1 : Int32) (x2 : Int32) (r : Int64 × MoT) (hf : f_X12_plan s0 x1 x2 = some r) : zj_C l G M_X12_plan yX12_plan [w_Mo G a0 s0] [.ref (a0 0), .int x1, .int x2] (some (.long r.1)) (fun _ => [w_Mo G a0 r.2]) := by
  have key : ∀ W0 : List va_W, zj_J l G M_X12_plan W0 (zj_ret G M_X12_plan W0 (some (.long r.1)) (fun _ => [w_Mo G a0 r.2])) 0 0 [w_Mo G a0 s0] [some (.ref (a0 0)), some (.int x1), some (.int x2), none, none, none, none, none, none, none, none] 0 [] := by
    intro W0
    unfold f_X12_plan at hf
    obtain ⟨y1, e1, hf⟩ := zlet_of hf
    refine zr_run [(.aload_n 0, 0, 0, 0, .null), (.iconst 0, 0, 0, 0, .int (0 : Int32)), (.putfield 91, 0, 0, 0, .null)] [] (WW' := [w_Mo G a0 (Mo_s_thrown s0 (0 : Int32))]) (lv' := [some (.ref (a0 0)), some (.int x1), some (.int x2), none, none, none, none, none, none, none, none]) (pc' := 5) (st' := []) (by decide +kernel) rfl rfl ⟨trivial, trivial, ⟨rfl, rfl, rfl, trivial, rfl, rfl, zw_6_29⟩, trivial⟩ ?_
    refine zr_eq (WW2 := [w_Mo G a0 y1]) (lv2 := [some (.ref (a0 0)), some (.int x1), some (.int x2), none, none, none, none, none, none, none, none]) (st2 := []) (by rw [e1]) rfl rfl ?_
    obtain ⟨q2, e2, hf⟩ := zbi_of hf
    refine zr_run [(.aload_n 0, 0, 0, 0, .null), (.iload_n 1, 0, 0, 0, .null)] [] (WW' := [w_Mo G a0 y1]) (lv' := [some (.ref (a0 0)), some (.int x1), some (.int x2), none, none, none, none, none, none, none, none]) (pc' := 7) (st' := [.int x1, .ref (a0 0)]) (by decide +kernel) rfl rfl ⟨trivial, trivial, trivial⟩ ?_
    refine zr_callV (c_X12_isMan l G a0 y1 x1 q2 e2) (WW' := fun _ => [w_Mo G a0 y1]) (st := []) (st' := [.int q2]) [0] rfl rfl (fun _ => Nat.le_of_ble_eq_true rfl) (fun _ => rfl) rfl rfl nm_X12_isMan zw_7_128 zw_7_130 zw_0_76 zw_1_18 zw_7_131 rfl rfl rfl (Nat.le_of_ble_eq_true rfl) ⟨Nat.le_of_ble_eq_true rfl, Nat.le_of_ble_eq_true rfl⟩ (by decide +kernel) (fun _ => ?_)
    refine zr_if_eq (off := 41) (tgt := 51) (by decide +kernel) (by decide) (fun hc => ?_) (fun hc => ?_)
    · have hf := zift hf hc
      obtain ⟨q3, e3, hf⟩ := zbi_of hf
      refine zr_run [(.aload_n 0, 0, 0, 0, .null)] [] (WW' := [w_Mo G a0 y1]) (lv' := [some (.ref (a0 0)), some (.int x1), some (.int x2), none, none, none, none, none, none, none, none]) (pc' := 52) (st' := [.ref (a0 0)]) (by decide +kernel) rfl rfl ⟨trivial, trivial⟩ ?_
      refine zr_callV (c_X12_refuse l G a0 y1 q3 e3) (WW' := fun _ => [w_Mo G a0 q3.2]) (st := []) (st' := [.int q3.1]) [0] rfl rfl (fun _ => Nat.le_of_ble_eq_true rfl) (fun _ => rfl) rfl rfl nm_X12_refuse zw_7_132 zw_7_134 zw_0_77 zw_1_18 zw_7_135 rfl rfl rfl (Nat.le_of_ble_eq_true rfl) ⟨Nat.le_of_ble_eq_true rfl, Nat.le_of_ble_eq_true rfl⟩ (by decide +kernel) (fun _ => ?_)
      refine zr_run [(.i2l, 0, 0, 0, .null)] [] (WW' := [w_Mo G a0 q3.2]) (lv' := [some (.ref (a0 0)), some (.int x1), some (.int x2), none, none, none, none, none, none, none, none]) (pc' := 56) (st' := [.long q3.1.toInt64]) (by decide +kernel) rfl rfl ⟨trivial, trivial⟩ ?_
      obtain rfl := Option.some.inj hf
      exact zr_lret (b0 := fun _ => 0) (by decide +kernel) rfl rfl rfl rfl rfl
    · have hf := ziff hf hc
      obtain ⟨q4, e4, hf⟩ := zbi_of hf
      refine zr_run [(.iload_n 2, 0, 0, 0, .null), (.iconst 0, 0, 0, 0, .int (0 : Int32)), (.iconst 1, 0, 0, 0, .int (1 : Int32))] [] (WW' := [w_Mo G a0 y1]) (lv' := [some (.ref (a0 0)), some (.int x1), some (.int x2), none, none, none, none, none, none, none, none]) (pc' := 16) (st' := [.int (1 : Int32), .int (0 : Int32), .int x2]) (by decide +kernel) rfl rfl ⟨trivial, trivial, trivial, trivial⟩ ?_
      refine zr_callS (c_X12_isIn l G x2 (0 : Int32) (1 : Int32) q4 e4) (WW' := fun _ => [w_Mo G a0 y1]) (st := []) (st' := [.int q4]) [] rfl rfl (fun _ => Nat.le_of_ble_eq_true rfl) (fun _ => rfl) rfl rfl nm_X12_isIn zw_7_38 zw_7_39 zw_1_18 zw_7_40 rfl (Nat.le_of_ble_eq_true rfl) ⟨Nat.le_of_ble_eq_true rfl, Nat.le_of_ble_eq_true rfl⟩ (by decide +kernel) (fun _ => ?_)
      refine zr_if_eq (off := 32) (tgt := 51) (by decide +kernel) (by decide) (fun hc => ?_) (fun hc => ?_)
      · have hf := zift hf hc
        obtain ⟨q5, e5, hf⟩ := zbi_of hf
        refine zr_run [(.aload_n 0, 0, 0, 0, .null)] [] (WW' := [w_Mo G a0 y1]) (lv' := [some (.ref (a0 0)), some (.int x1), some (.int x2), none, none, none, none, none, none, none, none]) (pc' := 52) (st' := [.ref (a0 0)]) (by decide +kernel) rfl rfl ⟨trivial, trivial⟩ ?_
        refine zr_callV (c_X12_refuse l G a0 y1 q5 e5) (WW' := fun _ => [w_Mo G a0 q5.2]) (st := []) (st' := [.int q5.1]) [0] rfl rfl (fun _ => Nat.le_of_ble_eq_true rfl) (fun _ => rfl) rfl rfl nm_X12_refuse zw_7_132 zw_7_134 zw_0_77 zw_1_18 zw_7_135 rfl rfl rfl (Nat.le_of_ble_eq_true rfl) ⟨Nat.le_of_ble_eq_true rfl, Nat.le_of_ble_eq_true rfl⟩ (by decide +kernel) (fun _ => ?_)
        refine zr_run [(.i2l, 0, 0, 0, .null)] [] (WW' := [w_Mo G a0 q5.2]) (lv' := [some (.ref (a0 0)), some (.int x1), some (.int x2), none, none, none, none, none, none, none, none]) (pc' := 56) (st' := [.long q5.1.toInt64]) (by decide +kernel) rfl rfl ⟨trivial, trivial⟩ ?_
        obtain rfl := Option.some.inj hf
        exact zr_lret (b0 := fun _ => 0) (by decide +kernel) rfl rfl rfl rfl rfl
      · have hf := ziff hf hc
        obtain ⟨h6, hf⟩ := zck_of hf
        refine zr_run [(.aload_n 0, 0, 0, 0, .null), (.getfield 13, 0, 0, 14, .null), (.sipush 444, 0, 0, 0, .int (444 : Int32)), (.iload_n 1, 0, 0, 0, .null), (.iadd, 0, 0, 0, .null), (.iaload, 0, 2, 0, .null), (.iconst 1, 0, 0, 0, .int (1 : Int32))] [] (WW' := [w_Mo G a0 y1]) (lv' := [some (.ref (a0 0)), some (.int x1), some (.int x2), none, none, none, none, none, none, none, none]) (pc' := 33) (st' := [.int (1 : Int32), .int ((Mo_now y1) ((444 : Int32) + x1).toNatClampNeg)]) (by decide +kernel) rfl rfl ⟨trivial, ⟨rfl, rfl, zw_6_43⟩, trivial, trivial, trivial, ⟨rfl, rfl, h6⟩, trivial, trivial⟩ ?_
        refine zr_icmp_ne (off := 18) (tgt := 51) (by decide +kernel) (by decide) (fun hc => ?_) (fun hc => ?_)
        · have hf := zift hf hc
          obtain ⟨h7, hf⟩ := zck_of hf
          refine zr_run [(.aload_n 0, 0, 0, 0, .null), (.getfield 13, 0, 0, 14, .null), (.sipush 486, 0, 0, 0, .int (486 : Int32)), (.iload_n 1, 0, 0, 0, .null), (.iadd, 0, 0, 0, .null), (.iaload, 0, 2, 0, .null), (.bipush 12, 0, 0, 0, .int (12 : Int32))] [] (WW' := [w_Mo G a0 y1]) (lv' := [some (.ref (a0 0)), some (.int x1), some (.int x2), none, none, none, none, none, none, none, none]) (pc' := 48) (st' := [.int (12 : Int32), .int ((Mo_now y1) ((486 : Int32) + x1).toNatClampNeg)]) (by decide +kernel) rfl rfl ⟨trivial, ⟨rfl, rfl, zw_6_43⟩, trivial, trivial, trivial, ⟨rfl, rfl, h7⟩, trivial, trivial⟩ ?_
          refine zr_icmp_le (off := 9) (tgt := 57) (by decide +kernel) (by decide) (fun hc => ?_) (fun hc => ?_)
          · have hf := zift hf hc
            obtain ⟨q8, e8, hf⟩ := zbi_of hf
            refine zr_run [(.aload_n 0, 0, 0, 0, .null)] [] (WW' := [w_Mo G a0 y1]) (lv' := [some (.ref (a0 0)), some (.int x1), some (.int x2), none, none, none, none, none, none, none, none]) (pc' := 52) (st' := [.ref (a0 0)]) (by decide +kernel) rfl rfl ⟨trivial, trivial⟩ ?_
            refine zr_callV (c_X12_refuse l G a0 y1 q8 e8) (WW' := fun _ => [w_Mo G a0 q8.2]) (st := []) (st' := [.int q8.1]) [0] rfl rfl (fun _ => Nat.le_of_ble_eq_true rfl) (fun _ => rfl) rfl rfl nm_X12_refuse zw_7_132 zw_7_134 zw_0_77 zw_1_18 zw_7_135 rfl rfl rfl (Nat.le_of_ble_eq_true rfl) ⟨Nat.le_of_ble_eq_true rfl, Nat.le_of_ble_eq_true rfl⟩ (by decide +kernel) (fun _ => ?_)
            refine zr_run [(.i2l, 0, 0, 0, .null)] [] (WW' := [w_Mo G a0 q8.2]) (lv' := [some (.ref (a0 0)), some (.int x1), some (.int x2), none, none, none, none, none, none, none, none]) (pc' := 56) (st' := [.long q8.1.toInt64]) (by decide +kernel) rfl rfl ⟨trivial, trivial⟩ ?_
            obtain rfl := Option.some.inj hf
            exact zr_lret (b0 := fun _ => 0) (by decide +kernel) rfl rfl rfl rfl rfl
          · have hf := ziff hf hc
            obtain ⟨h9, hf⟩ := zck_of hf
            obtain ⟨q10, e10, hf⟩ := zbi_of hf
            refine zr_run [(.aload_n 0, 0, 0, 0, .null), (.getfield 13, 0, 0, 14, .null), (.sipush 486, 0, 0, 0, .int (486 : Int32)), (.iload_n 1, 0, 0, 0, .null), (.iadd, 0, 0, 0, .null), (.iaload, 0, 2, 0, .null), (.istore_n 3, 0, 0, 0, .null), (.aload_n 0, 0, 0, 0, .null), (.iload_n 1, 0, 0, 0, .null), (.iload_n 3, 0, 0, 0, .null)] [] (WW' := [w_Mo G a0 y1]) (lv' := [some (.ref (a0 0)), some (.int x1), some (.int x2), some (.int ((Mo_now y1) ((486 : Int32) + x1).toNatClampNeg)), none, none, none, none, none, none, none]) (pc' := 71) (st' := [.int ((Mo_now y1) ((486 : Int32) + x1).toNatClampNeg), .int x1, .ref (a0 0)]) (by decide +kernel) rfl rfl ⟨trivial, ⟨rfl, rfl, zw_6_43⟩, trivial, trivial, trivial, ⟨rfl, rfl, h9⟩, trivial, trivial, trivial, trivial, trivial⟩ ?_
            refine zr_callV (c_X12_layPlan l G a0 y1 x1 ((Mo_now y1) ((486 : Int32) + x1).toNatClampNeg) q10 e10) (WW' := fun _ => [w_Mo G a0 q10]) (st := []) (st' := []) [0] rfl rfl (fun _ => Nat.le_of_ble_eq_true rfl) (fun _ => rfl) rfl rfl nm_X12_layPlan zw_8_21 zw_8_23 zw_0_96 zw_1_18 zw_8_24 rfl rfl rfl (Nat.le_of_ble_eq_true rfl) ⟨Nat.le_of_ble_eq_true rfl, Nat.le_of_ble_eq_true rfl⟩ (by decide +kernel) (fun _ => ?_)
            obtain ⟨h11, hf⟩ := zck_of hf
            obtain ⟨h12, hf⟩ := zck_of hf
            obtain ⟨h13, hf⟩ := zck_of hf
            obtain ⟨q14, e14, hf⟩ := zbi_of hf
            refine zr_run [(.aload_n 0, 0, 0, 0, .null), (.getfield 13, 0, 0, 14, .null), (.sipush 480, 0, 0, 0, .int (480 : Int32)), (.iload_n 1, 0, 0, 0, .null), (.iadd, 0, 0, 0, .null), (.iaload, 0, 2, 0, .null), (.istore 4, 0, 0, 0, .null), (.aload_n 0, 0, 0, 0, .null), (.getfield 13, 0, 0, 14, .null), (.sipush 474, 0, 0, 0, .int (474 : Int32)), (.iload_n 1, 0, 0, 0, .null), (.iadd, 0, 0, 0, .null), (.iaload, 0, 2, 0, .null), (.istore 5, 0, 0, 0, .null), (.aload_n 0, 0, 0, 0, .null), (.getfield 13, 0, 0, 14, .null), (.sipush 498, 0, 0, 0, .int (498 : Int32)), (.iload_n 1, 0, 0, 0, .null), (.iadd, 0, 0, 0, .null), (.iaload, 0, 2, 0, .null), (.istore 6, 0, 0, 0, .null), (.aload_n 0, 0, 0, 0, .null), (.getfield 45, 0, 0, 29, .null), (.aload_n 0, 0, 0, 0, .null), (.iload_n 3, 0, 0, 0, .null), (.iload 5, 0, 0, 0, .null), (.iload 6, 0, 0, 0, .null)] [] (WW' := [w_Mo G a0 q10]) (lv' := [some (.ref (a0 0)), some (.int x1), some (.int x2), some (.int ((Mo_now y1) ((486 : Int32) + x1).toNatClampNeg)), some (.int ((Mo_now q10) ((480 : Int32) + x1).toNatClampNeg)), some (.int ((Mo_now q10) ((474 : Int32) + x1).toNatClampNeg)), some (.int ((Mo_now q10) ((498 : Int32) + x1).toNatClampNeg)), none, none, none, none]) (pc' := 120) (st' := [.int ((Mo_now q10) ((498 : Int32) + x1).toNatClampNeg), .int ((Mo_now q10) ((474 : Int32) + x1).toNatClampNeg), .int ((Mo_now y1) ((486 : Int32) + x1).toNatClampNeg), .ref (a0 0), .ref (a0 12)]) (by decide +kernel) rfl rfl ⟨trivial, ⟨rfl, rfl, zw_6_43⟩, trivial, trivial, trivial, ⟨rfl, rfl, h11⟩, trivial, trivial, ⟨rfl, rfl, zw_6_43⟩, trivial, trivial, trivial, ⟨rfl, rfl, h12⟩, trivial, trivial, ⟨rfl, rfl, zw_6_43⟩, trivial, trivial, trivial, ⟨rfl, rfl, h13⟩, trivial, trivial, ⟨rfl, rfl, zw_6_58⟩, trivial, trivial, trivial, trivial, trivial⟩ ?_
            refine zr_callV (c_X12_at l G a0 q10 ((Mo_now y1) ((486 : Int32) + x1).toNatClampNeg) ((Mo_now q10) ((474 : Int32) + x1).toNatClampNeg) ((Mo_now q10) ((498 : Int32) + x1).toNatClampNeg) q14 e14) (WW' := fun _ => [w_Mo G a0 q10]) (st := [.ref (a0 12)]) (st' := [.int q14, .ref (a0 12)]) [0] rfl rfl (fun _ => Nat.le_of_ble_eq_true rfl) (fun _ => rfl) rfl rfl nm_X12_at zw_8_26 zw_8_28 zw_0_97 zw_1_18 zw_8_29 rfl rfl rfl (Nat.le_of_ble_eq_true rfl) ⟨Nat.le_of_ble_eq_true rfl, Nat.le_of_ble_eq_true rfl⟩ (by decide +kernel) (fun _ => ?_)
            obtain ⟨h15, hf⟩ := zck_of hf
            obtain ⟨y16, e16, hf⟩ := zlet_of hf
            refine zr_run [(.laload, 0, 12, 0, .null), (.lstore 7, 0, 0, 0, .null), (.aload_n 0, 0, 0, 0, .null), (.iconst 0, 0, 0, 0, .int (0 : Int32)), (.putfield 351, 0, 0, 33, .null)] [] (WW' := [w_Mo G a0 (Mo_s_planLong q10 (0 : Int32))]) (lv' := [some (.ref (a0 0)), some (.int x1), some (.int x2), some (.int ((Mo_now y1) ((486 : Int32) + x1).toNatClampNeg)), some (.int ((Mo_now q10) ((480 : Int32) + x1).toNatClampNeg)), some (.int ((Mo_now q10) ((474 : Int32) + x1).toNatClampNeg)), some (.int ((Mo_now q10) ((498 : Int32) + x1).toNatClampNeg)), some (.long ((Mo_chance q10) q14.toNatClampNeg)), none, none, none]) (pc' := 131) (st' := []) (by decide +kernel) rfl rfl ⟨⟨rfl, rfl, h15⟩, trivial, trivial, trivial, ⟨rfl, rfl, rfl, trivial, rfl, rfl, zw_6_62⟩, trivial⟩ ?_
            refine zr_eq (WW2 := [w_Mo G a0 y16]) (lv2 := [some (.ref (a0 0)), some (.int x1), some (.int x2), some (.int ((Mo_now y1) ((486 : Int32) + x1).toNatClampNeg)), some (.int ((Mo_now q10) ((480 : Int32) + x1).toNatClampNeg)), some (.int ((Mo_now q10) ((474 : Int32) + x1).toNatClampNeg)), some (.int ((Mo_now q10) ((498 : Int32) + x1).toNatClampNeg)), some (.long ((Mo_chance q10) q14.toNatClampNeg)), none, none, none]) (st2 := []) (by rw [e16]) rfl rfl ?_
            refine zr_run [(.iload_n 3, 0, 0, 0, .null), (.istore 9, 0, 0, 0, .null)] [1] (WW' := [w_Mo G a0 y16]) (lv' := [some (.ref (a0 0)), none, some (.int x2), some (.int ((Mo_now y1) ((486 : Int32) + x1).toNatClampNeg)), some (.int ((Mo_now q10) ((480 : Int32) + x1).toNatClampNeg)), some (.int ((Mo_now q10) ((474 : Int32) + x1).toNatClampNeg)), some (.int ((Mo_now q10) ((498 : Int32) + x1).toNatClampNeg)), some (.long ((Mo_chance q10) q14.toNatClampNeg)), none, some (.int ((Mo_now y1) ((486 : Int32) + x1).toNatClampNeg)), none]) (pc' := 134) (st' := []) (by decide +kernel) rfl rfl ⟨trivial, trivial, trivial⟩ ?_
            exact t_X12_plan_L134 l G a0 W0 r zFU y16 x2 ((Mo_now y1) ((486 : Int32) + x1).toNatClampNeg) ((Mo_now q10) ((480 : Int32) + x1).toNatClampNeg) ((Mo_now q10) ((474 : Int32) + x1).toNatClampNeg) ((Mo_now q10) ((498 : Int32) + x1).toNatClampNeg) ((Mo_chance q10) q14.toNatClampNeg) ((Mo_now y1) ((486 : Int32) + x1).toNatClampNeg) hf
        · have hf := ziff hf hc
          obtain ⟨q28, e28, hf⟩ := zbi_of hf
          refine zr_run [(.aload_n 0, 0, 0, 0, .null)] [] (WW' := [w_Mo G a0 y1]) (lv' := [some (.ref (a0 0)), some (.int x1), some (.int x2), none, none, none, none, none, none, none, none]) (pc' := 52) (st' := [.ref (a0 0)]) (by decide +kernel) rfl rfl ⟨trivial, trivial⟩ ?_
          refine zr_callV (c_X12_refuse l G a0 y1 q28 e28) (WW' := fun _ => [w_Mo G a0 q28.2]) (st := []) (st' := [.int q28.1]) [0] rfl rfl (fun _ => Nat.le_of_ble_eq_true rfl) (fun _ => rfl) rfl rfl nm_X12_refuse zw_7_132 zw_7_134 zw_0_77 zw_1_18 zw_7_135 rfl rfl rfl (Nat.le_of_ble_eq_true rfl) ⟨Nat.le_of_ble_eq_true rfl, Nat.le_of_ble_eq_true rfl⟩ (by decide +kernel) (fun _ => ?_)
          refine zr_run [(.i2l, 0, 0, 0, .null)] [] (WW' := [w_Mo G a0 q28.2]) (lv' := [some (.ref (a0 0)), some (.int x1), some (.int x2), none, none, none, none, none, none, none, none]) (pc' := 56) (st' := [.long q28.1.toInt64]) (by decide +kernel) rfl rfl ⟨trivial, trivial⟩ ?_
          obtain rfl := Option.some.inj hf
          exact zr_lret (b0 := fun _ => 0) (by decide +kernel) rfl rfl rfl rfl rfl
  exact zj_entry [some (.ref (a0 0)), some (.int x1), some (.int x2), none, none, none, none, none, none, none, none] (by decide +kernel) rfl (by decide) (Nat.le_of_ble_eq_true rfl) rfl rfl (key _)
def M_X12_planAt : zj_M := (RX12, cX12_planAt, 2, (some .int), { frames := 1, cells := 0, slots := 0, locals := 22 }, false)
theorem nm_X12_planAt : zj_nm yX12_planAt 1 := ⟨by decide +kernel, by decide +kernel, by decide +kernel⟩
def f_X12_planAt  (s0 : MoT) (x1 : Int32) : Option (Int32 × MoT) := (zlet (Mo_s_thrown s0 (0 : Int32)) fun y1 => ((f_X12_isIn x1 (0 : Int32) ((Mo_planLong y1) - (1 : Int32))).bind fun q2 => (if q2 = 0 then some ((-1 : Int32), y1) else (if zb_in x1 12 = true then some (((Mo_planned y1) x1.toNatClampNeg), y1) else none))))
set_option maxRecDepth 100000 in
set_option maxHeartbeats 4000000 in
theorem c_X12_planAt (l : Launch) (G : zj_G) (a0 : Nat → Nat) (s0 : MoT) (x1 : Int32) (r : Int32 × MoT) (hf : f_X12_planAt s0 x1 = some r) : zj_C l G M_X12_planAt yX12_planAt [w_Mo G a0 s0] [.ref (a0 0), .int x1] (some (.int r.1)) (fun _ => [w_Mo G a0 r.2]) := by
  have key : ∀ W0 : List va_W, zj_J l G M_X12_planAt W0 (zj_ret G M_X12_planAt W0 (some (.int r.1)) (fun _ => [w_Mo G a0 r.2])) 0 0 [w_Mo G a0 s0] [some (.ref (a0 0)), some (.int x1)] 0 [] := by
    intro W0
    unfold f_X12_planAt at hf
    obtain ⟨y1, e1, hf⟩ := zlet_of hf
    refine zr_run [(.aload_n 0, 0, 0, 0, .null), (.iconst 0, 0, 0, 0, .int (0 : Int32)), (.putfield 91, 0, 0, 0, .null)] [] (WW' := [w_Mo G a0 (Mo_s_thrown s0 (0 : Int32))]) (lv' := [some (.ref (a0 0)), some (.int x1)]) (pc' := 5) (st' := []) (by decide +kernel) rfl rfl ⟨trivial, trivial, ⟨rfl, rfl, rfl, trivial, rfl, rfl, zw_6_29⟩, trivial⟩ ?_
    refine zr_eq (WW2 := [w_Mo G a0 y1]) (lv2 := [some (.ref (a0 0)), some (.int x1)]) (st2 := []) (by rw [e1]) rfl rfl ?_
    obtain ⟨q2, e2, hf⟩ := zbi_of hf
    refine zr_run [(.iload_n 1, 0, 0, 0, .null), (.iconst 0, 0, 0, 0, .int (0 : Int32)), (.aload_n 0, 0, 0, 0, .null), (.getfield 351, 0, 0, 33, .null), (.iconst 1, 0, 0, 0, .int (1 : Int32)), (.isub, 0, 0, 0, .null)] [] (WW' := [w_Mo G a0 y1]) (lv' := [some (.ref (a0 0)), some (.int x1)]) (pc' := 13) (st' := [.int ((Mo_planLong y1) - (1 : Int32)), .int (0 : Int32), .int x1]) (by decide +kernel) rfl rfl ⟨trivial, trivial, trivial, ⟨rfl, rfl, zw_6_62⟩, trivial, trivial, trivial⟩ ?_
    refine zr_callS (c_X12_isIn l G x1 (0 : Int32) ((Mo_planLong y1) - (1 : Int32)) q2 e2) (WW' := fun _ => [w_Mo G a0 y1]) (st := []) (st' := [.int q2]) [] rfl rfl (fun _ => Nat.le_of_ble_eq_true rfl) (fun _ => rfl) rfl rfl nm_X12_isIn zw_7_38 zw_7_39 zw_1_18 zw_7_40 rfl (Nat.le_of_ble_eq_true rfl) ⟨Nat.le_of_ble_eq_true rfl, Nat.le_of_ble_eq_true rfl⟩ (by decide +kernel) (fun _ => ?_)
    refine zr_if_eq (off := 12) (tgt := 28) (by decide +kernel) (by decide) (fun hc => ?_) (fun hc => ?_)
    · have hf := zift hf hc
      refine zr_run [(.iconst (-1), 0, 0, 0, .int (-1 : Int32))] [] (WW' := [w_Mo G a0 y1]) (lv' := [some (.ref (a0 0)), some (.int x1)]) (pc' := 29) (st' := [.int (-1 : Int32)]) (by decide +kernel) rfl rfl ⟨trivial, trivial⟩ ?_
      obtain rfl := Option.some.inj hf
      exact zr_iret (b0 := fun _ => 0) (by decide +kernel) rfl rfl rfl rfl rfl
    · have hf := ziff hf hc
      obtain ⟨h3, hf⟩ := zck_of hf
      refine zr_run [(.aload_n 0, 0, 0, 0, .null), (.getfield 51, 0, 0, 31, .null), (.iload_n 1, 0, 0, 0, .null), (.iaload, 0, 14, 0, .null)] [] (WW' := [w_Mo G a0 y1]) (lv' := [some (.ref (a0 0)), some (.int x1)]) (pc' := 25) (st' := [.int ((Mo_planned y1) x1.toNatClampNeg)]) (by decide +kernel) rfl rfl ⟨trivial, ⟨rfl, rfl, zw_6_60⟩, trivial, ⟨rfl, rfl, h3⟩, trivial⟩ ?_
      refine zr_goto (off := 4) (tgt := 29) (by decide +kernel) (by decide) ?_
      obtain rfl := Option.some.inj hf
      exact zr_iret (b0 := fun _ => 0) (by decide +kernel) rfl rfl rfl rfl rfl
  exact zj_entry [some (.ref (a0 0)), some (.int x1)] (by decide +kernel) rfl (by decide) (Nat.le_of_ble_eq_true rfl) rfl rfl (key _)
def M_X12_sentTo : zj_M := (RX12, cX12_sentTo, 2, (some .int), { frames := 1, cells := 0, slots := 0, locals := 22 }, false)
theorem nm_X12_sentTo : zj_nm yX12_sentTo 1 := ⟨by decide +kernel, by decide +kernel, by decide +kernel⟩
def f_X12_sentTo_b30  (s0 : MoT)   : Option (Int32 × MoT) := some ((-1 : Int32), s0)
def f_X12_sentTo  (s0 : MoT) (x1 : Int32) : Option (Int32 × MoT) := (zlet (Mo_s_thrown s0 (0 : Int32)) fun y1 => (if (Mo_hasSent y1) = 0 then f_X12_sentTo_b30 y1 else ((f_X12_isIn x1 (0 : Int32) (5 : Int32)).bind fun q2 => (if q2 = 0 then f_X12_sentTo_b30 y1 else (if zb_in x1 6 = true then some (((Mo_given y1) x1.toNatClampNeg), y1) else none)))))
set_option maxRecDepth 100000 in
set_option maxHeartbeats 4000000 in
theorem t_X12_sentTo_b30 (l : Launch) (G : zj_G) (a0 : Nat → Nat) (W0 : List va_W) (r : Int32 × MoT) (s0 : MoT)    (hf : f_X12_sentTo_b30 s0 = some r) : zj_J l G M_X12_sentTo W0 (zj_ret G M_X12_sentTo W0 (some (.int r.1)) (fun _ => [w_Mo G a0 r.2])) 0 0 [w_Mo G a0 s0] [none, none] 30 [] := by
  unfold f_X12_sentTo_b30 at hf
  refine zr_run [(.iconst (-1), 0, 0, 0, .int (-1 : Int32))] [] (WW' := [w_Mo G a0 s0]) (lv' := [none, none]) (pc' := 31) (st' := [.int (-1 : Int32)]) (by decide +kernel) rfl rfl ⟨trivial, trivial⟩ ?_
  obtain rfl := Option.some.inj hf
  exact zr_iret (b0 := fun _ => 0) (by decide +kernel) rfl rfl rfl rfl rfl
set_option maxRecDepth 100000 in
set_option maxHeartbeats 4000000 in
theorem c_X12_sentTo (l : Launch) (G : zj_G) (a0 : Nat → Nat) (s0 : MoT) (x1 : Int32) (r : Int32 × MoT) (hf : f_X12_sentTo s0 x1 = some r) : zj_C l G M_X12_sentTo yX12_sentTo [w_Mo G a0 s0] [.ref (a0 0), .int x1] (some (.int r.1)) (fun _ => [w_Mo G a0 r.2]) := by
  have key : ∀ W0 : List va_W, zj_J l G M_X12_sentTo W0 (zj_ret G M_X12_sentTo W0 (some (.int r.1)) (fun _ => [w_Mo G a0 r.2])) 0 0 [w_Mo G a0 s0] [some (.ref (a0 0)), some (.int x1)] 0 [] := by
    intro W0
    unfold f_X12_sentTo at hf
    obtain ⟨y1, e1, hf⟩ := zlet_of hf
    refine zr_run [(.aload_n 0, 0, 0, 0, .null), (.iconst 0, 0, 0, 0, .int (0 : Int32)), (.putfield 91, 0, 0, 0, .null)] [] (WW' := [w_Mo G a0 (Mo_s_thrown s0 (0 : Int32))]) (lv' := [some (.ref (a0 0)), some (.int x1)]) (pc' := 5) (st' := []) (by decide +kernel) rfl rfl ⟨trivial, trivial, ⟨rfl, rfl, rfl, trivial, rfl, rfl, zw_6_29⟩, trivial⟩ ?_
    refine zr_eq (WW2 := [w_Mo G a0 y1]) (lv2 := [some (.ref (a0 0)), some (.int x1)]) (st2 := []) (by rw [e1]) rfl rfl ?_
    refine zr_run [(.aload_n 0, 0, 0, 0, .null), (.getfield 364, 0, 0, 38, .null)] [] (WW' := [w_Mo G a0 y1]) (lv' := [some (.ref (a0 0)), some (.int x1)]) (pc' := 9) (st' := [.int (Mo_hasSent y1)]) (by decide +kernel) rfl rfl ⟨trivial, ⟨rfl, rfl, zw_6_67⟩, trivial⟩ ?_
    refine zr_if_eq (off := 21) (tgt := 30) (by decide +kernel) (by decide) (fun hc => ?_) (fun hc => ?_)
    · have hf := zift hf hc
      refine zr_run [] [0, 1] (WW' := [w_Mo G a0 y1]) (lv' := [none, none]) (pc' := 30) (st' := []) (by decide +kernel) rfl rfl trivial ?_
      exact t_X12_sentTo_b30 l G a0 W0 r y1 hf
    · have hf := ziff hf hc
      obtain ⟨q2, e2, hf⟩ := zbi_of hf
      refine zr_run [(.iload_n 1, 0, 0, 0, .null), (.iconst 0, 0, 0, 0, .int (0 : Int32)), (.iconst 5, 0, 0, 0, .int (5 : Int32))] [] (WW' := [w_Mo G a0 y1]) (lv' := [some (.ref (a0 0)), some (.int x1)]) (pc' := 15) (st' := [.int (5 : Int32), .int (0 : Int32), .int x1]) (by decide +kernel) rfl rfl ⟨trivial, trivial, trivial, trivial⟩ ?_
      refine zr_callS (c_X12_isIn l G x1 (0 : Int32) (5 : Int32) q2 e2) (WW' := fun _ => [w_Mo G a0 y1]) (st := []) (st' := [.int q2]) [] rfl rfl (fun _ => Nat.le_of_ble_eq_true rfl) (fun _ => rfl) rfl rfl nm_X12_isIn zw_7_38 zw_7_39 zw_1_18 zw_7_40 rfl (Nat.le_of_ble_eq_true rfl) ⟨Nat.le_of_ble_eq_true rfl, Nat.le_of_ble_eq_true rfl⟩ (by decide +kernel) (fun _ => ?_)
      refine zr_if_eq (off := 12) (tgt := 30) (by decide +kernel) (by decide) (fun hc => ?_) (fun hc => ?_)
      · have hf := zift hf hc
        refine zr_run [] [0, 1] (WW' := [w_Mo G a0 y1]) (lv' := [none, none]) (pc' := 30) (st' := []) (by decide +kernel) rfl rfl trivial ?_
        exact t_X12_sentTo_b30 l G a0 W0 r y1 hf
      · have hf := ziff hf hc
        obtain ⟨h3, hf⟩ := zck_of hf
        refine zr_run [(.aload_n 0, 0, 0, 0, .null), (.getfield 60, 0, 0, 35, .null), (.iload_n 1, 0, 0, 0, .null), (.iaload, 0, 17, 0, .null)] [] (WW' := [w_Mo G a0 y1]) (lv' := [some (.ref (a0 0)), some (.int x1)]) (pc' := 27) (st' := [.int ((Mo_given y1) x1.toNatClampNeg)]) (by decide +kernel) rfl rfl ⟨trivial, ⟨rfl, rfl, zw_6_64⟩, trivial, ⟨rfl, rfl, h3⟩, trivial⟩ ?_
        refine zr_goto (off := 4) (tgt := 31) (by decide +kernel) (by decide) ?_
        obtain rfl := Option.some.inj hf
        exact zr_iret (b0 := fun _ => 0) (by decide +kernel) rfl rfl rfl rfl rfl
  exact zj_entry [some (.ref (a0 0)), some (.int x1)] (by decide +kernel) rfl (by decide) (Nat.le_of_ble_eq_true rfl) rfl rfl (key _)
def M_X12_leads : zj_M := (RX12, cX12_leads, 8, (some .boolean), { frames := 1, cells := 0, slots := 0, locals := 21 }, false)
theorem nm_X12_leads : zj_nm yX12_leads 3 := ⟨by decide +kernel, by decide +kernel, by decide +kernel⟩
def f_X12_leads_b126  (s0 : MoT) (k8 : Int32 → Int32 → Int32 → Int32 → Option (Int32)) (k29 : Int32 → Int32 → Int32 → Int32 → Int32 → Option (Int32)) (x2 : Int32) (x3 : Int32) (x4 : Int32) (x6 : Int32) (x7 : Int32) : Option (Int32) := k29 x2 x3 x4 x6 (x7 + (1 : Int32))
def f_X12_leads_b89  (s0 : MoT) (k8 : Int32 → Int32 → Int32 → Int32 → Option (Int32)) (k29 : Int32 → Int32 → Int32 → Int32 → Int32 → Option (Int32)) (x2 : Int32) (x3 : Int32) (x4 : Int32) (x6 : Int32) (x7 : Int32) : Option (Int32) := (if zb_in ((208 : Int32) + x7) 758 = true then ((f_X12_has x4 ((Mo_now s0) ((208 : Int32) + x7).toNatClampNeg)).bind fun q8 => (if q8 = 0 then f_X12_leads_b126 s0 k8 k29 x2 x3 x4 x6 x7 else (if zb_in ((192 : Int32) + x7) 758 = true then (zlet (x4 ||| (zr_shl (1 : Int32) ((Mo_now s0) ((192 : Int32) + x7).toNatClampNeg))) fun y10 => f_X12_leads_b126 s0 k8 k29 x2 x3 y10 x6 x7) else none))) else none)
def f_X12_leads_b144  (s0 : MoT) (k8 : Int32 → Int32 → Int32 → Int32 → Option (Int32)) (x2 : Int32) (x3 : Int32) (x4 : Int32) (z0 : Int32) : Option (Int32) := k8 x2 x3 x4 z0
def f_X12_leads_H29  (s0 : MoT) (k8 : Int32 → Int32 → Int32 → Int32 → Option (Int32)) (k29 : Int32 → Int32 → Int32 → Int32 → Int32 → Option (Int32)) (x2 : Int32) (x3 : Int32) (x4 : Int32) (x6 : Int32) (x7 : Int32) : Option (Int32) := (if x7 < ((Mo_now s0) (1 : Int32).toNatClampNeg) then ((f_X12_has x3 x7).bind fun q4 => (if q4 = 0 then (if zb_in ((192 : Int32) + x7) 758 = true then ((f_X12_has x4 ((Mo_now s0) ((192 : Int32) + x7).toNatClampNeg)).bind fun q6 => (if q6 = 0 then f_X12_leads_b89 s0 k8 k29 x2 x3 x4 x6 x7 else (if zb_in ((208 : Int32) + x7) 758 = true then (zlet (x4 ||| (zr_shl (1 : Int32) ((Mo_now s0) ((208 : Int32) + x7).toNatClampNeg))) fun y12 => f_X12_leads_b89 s0 k8 k29 x2 x3 y12 x6 x7) else none))) else none) else f_X12_leads_b126 s0 k8 k29 x2 x3 x4 x6 x7)) else (if x4 = x6 then f_X12_leads_b144 s0 k8 x2 x3 x4 (0 : Int32) else f_X12_leads_b144 s0 k8 x2 x3 x4 (1 : Int32)))
def f_X12_leads_L29  (s0 : MoT) (k8 : Int32 → Int32 → Int32 → Int32 → Option (Int32)) : Nat → Int32 → Int32 → Int32 → Int32 → Int32 → Option (Int32)
  | 0 => fun _ _ _ _ _ => none
  | n + 1 => fun x2 x3 x4 x6 x7 => f_X12_leads_H29 s0 k8 (f_X12_leads_L29 s0 k8 n) x2 x3 x4 x6 x7
def f_X12_leads_H8  (s0 : MoT) (k8 : Int32 → Int32 → Int32 → Int32 → Option (Int32)) (x2 : Int32) (x3 : Int32) (x4 : Int32) (x5 : Int32) : Option (Int32) := (if x5 = 0 then ((f_X12_has x4 x2).bind fun q1 => (if zb_bo q1 = true then some q1 else none)) else ((f_X12_has x4 x2).bind fun q3 => (if q3 = 0 then f_X12_leads_L29 s0 k8 zFU x2 x3 x4 x4 (0 : Int32) else ((f_X12_has x4 x2).bind fun q13 => (if zb_bo q13 = true then some q13 else none)))))
def f_X12_leads_L8  (s0 : MoT)  : Nat → Int32 → Int32 → Int32 → Int32 → Option (Int32)
  | 0 => fun _ _ _ _ => none
  | n + 1 => fun x2 x3 x4 x5 => f_X12_leads_H8 s0 (f_X12_leads_L8 s0 n) x2 x3 x4 x5
def f_X12_leads  (s0 : MoT) (x1 : Int32) (x2 : Int32) (x3 : Int32) : Option (Int32) := f_X12_leads_L8 s0 zFU x2 x3 (zr_shl (1 : Int32) x1) (1 : Int32)
set_option maxRecDepth 100000 in
set_option maxHeartbeats 4000000 in
theorem t_X12_leads_b126 (l : Launch) (G : zj_G) (a0 : Nat → Nat) (W0 : List va_W) (r : Int32) (s0 : MoT) (k8 : Int32 → Int32 → Int32 → Int32 → Option (Int32)) (k29 : Int32 → Int32 → Int32 → Int32 → Int32 → Option (Int32)) (hk8 : ∀ (x2 : Int32) (x3 : Int32) (x4 : Int32) (x5 : Int32), k8 x2 x3 x4 x5 = some r → zj_J l G M_X12_leads W0 (zj_ret G M_X12_leads W0 (some (.int r)) (fun _ => [w_Mo G a0 s0])) 0 0 [w_Mo G a0 s0] [some (.ref (a0 0)), none, some (.int x2), some (.int x3), some (.int x4), some (.int x5), none, none] 8 []) (hk29 : ∀ (x2 : Int32) (x3 : Int32) (x4 : Int32) (x6 : Int32) (x7 : Int32), k29 x2 x3 x4 x6 x7 = some r → zj_J l G M_X12_leads W0 (zj_ret G M_X12_leads W0 (some (.int r)) (fun _ => [w_Mo G a0 s0])) 0 0 [w_Mo G a0 s0] [some (.ref (a0 0)), none, some (.int x2), some (.int x3), some (.int x4), none, some (.int x6), some (.int x7)] 29 []) (x2 : Int32) (x3 : Int32) (x4 : Int32) (x6 : Int32) (x7 : Int32) (hf : f_X12_leads_b126 s0 k8 k29 x2 x3 x4 x6 x7 = some r) : zj_J l G M_X12_leads W0 (zj_ret G M_X12_leads W0 (some (.int r)) (fun _ => [w_Mo G a0 s0])) 0 0 [w_Mo G a0 s0] [some (.ref (a0 0)), none, some (.int x2), some (.int x3), some (.int x4), none, some (.int x6), some (.int x7)] 126 [] := by
  unfold f_X12_leads_b126 at hf
  refine zr_run [(.iinc 7 1, 0, 0, 0, .int (1 : Int32))] [] (WW' := [w_Mo G a0 s0]) (lv' := [some (.ref (a0 0)), none, some (.int x2), some (.int x3), some (.int x4), none, some (.int x6), some (.int (x7 + (1 : Int32)))]) (pc' := 129) (st' := []) (by decide +kernel) rfl rfl ⟨trivial, trivial⟩ ?_
  refine zr_goto (off := -100) (tgt := 29) (by decide +kernel) (by decide) ?_
  exact hk29 x2 x3 x4 x6 (x7 + (1 : Int32)) hf
set_option maxRecDepth 100000 in
set_option maxHeartbeats 4000000 in
theorem t_X12_leads_b89 (l : Launch) (G : zj_G) (a0 : Nat → Nat) (W0 : List va_W) (r : Int32) (s0 : MoT) (k8 : Int32 → Int32 → Int32 → Int32 → Option (Int32)) (k29 : Int32 → Int32 → Int32 → Int32 → Int32 → Option (Int32)) (hk8 : ∀ (x2 : Int32) (x3 : Int32) (x4 : Int32) (x5 : Int32), k8 x2 x3 x4 x5 = some r → zj_J l G M_X12_leads W0 (zj_ret G M_X12_leads W0 (some (.int r)) (fun _ => [w_Mo G a0 s0])) 0 0 [w_Mo G a0 s0] [some (.ref (a0 0)), none, some (.int x2), some (.int x3), some (.int x4), some (.int x5), none, none] 8 []) (hk29 : ∀ (x2 : Int32) (x3 : Int32) (x4 : Int32) (x6 : Int32) (x7 : Int32), k29 x2 x3 x4 x6 x7 = some r → zj_J l G M_X12_leads W0 (zj_ret G M_X12_leads W0 (some (.int r)) (fun _ => [w_Mo G a0 s0])) 0 0 [w_Mo G a0 s0] [some (.ref (a0 0)), none, some (.int x2), some (.int x3), some (.int x4), none, some (.int x6), some (.int x7)] 29 []) (x2 : Int32) (x3 : Int32) (x4 : Int32) (x6 : Int32) (x7 : Int32) (hf : f_X12_leads_b89 s0 k8 k29 x2 x3 x4 x6 x7 = some r) : zj_J l G M_X12_leads W0 (zj_ret G M_X12_leads W0 (some (.int r)) (fun _ => [w_Mo G a0 s0])) 0 0 [w_Mo G a0 s0] [some (.ref (a0 0)), none, some (.int x2), some (.int x3), some (.int x4), none, some (.int x6), some (.int x7)] 89 [] := by
  unfold f_X12_leads_b89 at hf
  obtain ⟨h7, hf⟩ := zck_of hf
  obtain ⟨q8, e8, hf⟩ := zbi_of hf
  refine zr_run [(.iload 4, 0, 0, 0, .null), (.aload_n 0, 0, 0, 0, .null), (.getfield 13, 0, 0, 14, .null), (.sipush 208, 0, 0, 0, .int (208 : Int32)), (.iload 7, 0, 0, 0, .null), (.iadd, 0, 0, 0, .null), (.iaload, 0, 2, 0, .null)] [] (WW' := [w_Mo G a0 s0]) (lv' := [some (.ref (a0 0)), none, some (.int x2), some (.int x3), some (.int x4), none, some (.int x6), some (.int x7)]) (pc' := 102) (st' := [.int ((Mo_now s0) ((208 : Int32) + x7).toNatClampNeg), .int x4]) (by decide +kernel) rfl rfl ⟨trivial, trivial, ⟨rfl, rfl, zw_6_43⟩, trivial, trivial, trivial, ⟨rfl, rfl, h7⟩, trivial⟩ ?_
  refine zr_callS (c_X12_has l G x4 ((Mo_now s0) ((208 : Int32) + x7).toNatClampNeg) q8 e8) (WW' := fun _ => [w_Mo G a0 s0]) (st := []) (st' := [.int q8]) [] rfl rfl (fun _ => Nat.le_of_ble_eq_true rfl) (fun _ => rfl) rfl rfl nm_X12_has zw_7_61 zw_7_62 zw_1_18 zw_7_63 rfl (Nat.le_of_ble_eq_true rfl) ⟨Nat.le_of_ble_eq_true rfl, Nat.le_of_ble_eq_true rfl⟩ (by decide +kernel) (fun _ => ?_)
  refine zr_if_eq (off := 21) (tgt := 126) (by decide +kernel) (by decide) (fun hc => ?_) (fun hc => ?_)
  · have hf := zift hf hc
    exact t_X12_leads_b126 l G a0 W0 r s0 k8 k29 hk8 hk29 x2 x3 x4 x6 x7 hf
  · have hf := ziff hf hc
    obtain ⟨h9, hf⟩ := zck_of hf
    obtain ⟨y10, e10, hf⟩ := zlet_of hf
    refine zr_run [(.iload 4, 0, 0, 0, .null), (.iconst 1, 0, 0, 0, .int (1 : Int32)), (.aload_n 0, 0, 0, 0, .null), (.getfield 13, 0, 0, 14, .null), (.sipush 192, 0, 0, 0, .int (192 : Int32)), (.iload 7, 0, 0, 0, .null), (.iadd, 0, 0, 0, .null), (.iaload, 0, 2, 0, .null), (.ishl, 0, 0, 0, .null), (.ior, 0, 0, 0, .null), (.istore 4, 0, 0, 0, .null)] [] (WW' := [w_Mo G a0 s0]) (lv' := [some (.ref (a0 0)), none, some (.int x2), some (.int x3), some (.int (x4 ||| (zr_shl (1 : Int32) ((Mo_now s0) ((192 : Int32) + x7).toNatClampNeg)))), none, some (.int x6), some (.int x7)]) (pc' := 126) (st' := []) (by decide +kernel) rfl rfl ⟨trivial, trivial, trivial, ⟨rfl, rfl, zw_6_43⟩, trivial, trivial, trivial, ⟨rfl, rfl, h9⟩, trivial, trivial, trivial, trivial⟩ ?_
    refine zr_eq (WW2 := [w_Mo G a0 s0]) (lv2 := [some (.ref (a0 0)), none, some (.int x2), some (.int x3), some (.int y10), none, some (.int x6), some (.int x7)]) (st2 := []) rfl (by rw [e10]) rfl ?_
    exact t_X12_leads_b126 l G a0 W0 r s0 k8 k29 hk8 hk29 x2 x3 y10 x6 x7 hf
set_option maxRecDepth 100000 in
set_option maxHeartbeats 4000000 in
theorem t_X12_leads_b144 (l : Launch) (G : zj_G) (a0 : Nat → Nat) (W0 : List va_W) (r : Int32) (s0 : MoT) (k8 : Int32 → Int32 → Int32 → Int32 → Option (Int32)) (hk8 : ∀ (x2 : Int32) (x3 : Int32) (x4 : Int32) (x5 : Int32), k8 x2 x3 x4 x5 = some r → zj_J l G M_X12_leads W0 (zj_ret G M_X12_leads W0 (some (.int r)) (fun _ => [w_Mo G a0 s0])) 0 0 [w_Mo G a0 s0] [some (.ref (a0 0)), none, some (.int x2), some (.int x3), some (.int x4), some (.int x5), none, none] 8 []) (x2 : Int32) (x3 : Int32) (x4 : Int32) (z0 : Int32) (hf : f_X12_leads_b144 s0 k8 x2 x3 x4 z0 = some r) : zj_J l G M_X12_leads W0 (zj_ret G M_X12_leads W0 (some (.int r)) (fun _ => [w_Mo G a0 s0])) 0 0 [w_Mo G a0 s0] [some (.ref (a0 0)), none, some (.int x2), some (.int x3), some (.int x4), none, none, none] 144 [.int z0] := by
  unfold f_X12_leads_b144 at hf
  refine zr_run [(.istore 5, 0, 0, 0, .null)] [] (WW' := [w_Mo G a0 s0]) (lv' := [some (.ref (a0 0)), none, some (.int x2), some (.int x3), some (.int x4), some (.int z0), none, none]) (pc' := 146) (st' := []) (by decide +kernel) rfl rfl ⟨trivial, trivial⟩ ?_
  refine zr_goto (off := -138) (tgt := 8) (by decide +kernel) (by decide) ?_
  exact hk8 x2 x3 x4 z0 hf
set_option maxRecDepth 100000 in
set_option maxHeartbeats 4000000 in
theorem t_X12_leads_H29 (l : Launch) (G : zj_G) (a0 : Nat → Nat) (W0 : List va_W) (r : Int32) (s0 : MoT) (k8 : Int32 → Int32 → Int32 → Int32 → Option (Int32)) (k29 : Int32 → Int32 → Int32 → Int32 → Int32 → Option (Int32)) (hk8 : ∀ (x2 : Int32) (x3 : Int32) (x4 : Int32) (x5 : Int32), k8 x2 x3 x4 x5 = some r → zj_J l G M_X12_leads W0 (zj_ret G M_X12_leads W0 (some (.int r)) (fun _ => [w_Mo G a0 s0])) 0 0 [w_Mo G a0 s0] [some (.ref (a0 0)), none, some (.int x2), some (.int x3), some (.int x4), some (.int x5), none, none] 8 []) (hk29 : ∀ (x2 : Int32) (x3 : Int32) (x4 : Int32) (x6 : Int32) (x7 : Int32), k29 x2 x3 x4 x6 x7 = some r → zj_J l G M_X12_leads W0 (zj_ret G M_X12_leads W0 (some (.int r)) (fun _ => [w_Mo G a0 s0])) 0 0 [w_Mo G a0 s0] [some (.ref (a0 0)), none, some (.int x2), some (.int x3), some (.int x4), none, some (.int x6), some (.int x7)] 29 []) (x2 : Int32) (x3 : Int32) (x4 : Int32) (x6 : Int32) (x7 : Int32) (hf : f_X12_leads_H29 s0 k8 k29 x2 x3 x4 x6 x7 = some r) : zj_J l G M_X12_leads W0 (zj_ret G M_X12_leads W0 (some (.int r)) (fun _ => [w_Mo G a0 s0])) 0 0 [w_Mo G a0 s0] [some (.ref (a0 0)), none, some (.int x2), some (.int x3), some (.int x4), none, some (.int x6), some (.int x7)] 29 [] := by
  unfold f_X12_leads_H29 at hf
  refine zr_run [(.iload 7, 0, 0, 0, .null), (.aload_n 0, 0, 0, 0, .null), (.getfield 13, 0, 0, 14, .null), (.iconst 1, 0, 0, 0, .int (1 : Int32)), (.iaload, 0, 2, 0, .null)] [] (WW' := [w_Mo G a0 s0]) (lv' := [some (.ref (a0 0)), none, some (.int x2), some (.int x3), some (.int x4), none, some (.int x6), some (.int x7)]) (pc' := 37) (st' := [.int ((Mo_now s0) (1 : Int32).toNatClampNeg), .int x7]) (by decide +kernel) rfl rfl ⟨trivial, trivial, ⟨rfl, rfl, zw_6_43⟩, trivial, ⟨rfl, rfl, (by decide)⟩, trivial⟩ ?_
  refine zr_icmp_ge (off := 95) (tgt := 132) (by decide +kernel) (by decide) (fun hc => ?_) (fun hc => ?_)
  · have hf := zift hf hc
    obtain ⟨q4, e4, hf⟩ := zbi_of hf
    refine zr_run [(.iload_n 3, 0, 0, 0, .null), (.iload 7, 0, 0, 0, .null)] [] (WW' := [w_Mo G a0 s0]) (lv' := [some (.ref (a0 0)), none, some (.int x2), some (.int x3), some (.int x4), none, some (.int x6), some (.int x7)]) (pc' := 43) (st' := [.int x7, .int x3]) (by decide +kernel) rfl rfl ⟨trivial, trivial, trivial⟩ ?_
    refine zr_callS (c_X12_has l G x3 x7 q4 e4) (WW' := fun _ => [w_Mo G a0 s0]) (st := []) (st' := [.int q4]) [] rfl rfl (fun _ => Nat.le_of_ble_eq_true rfl) (fun _ => rfl) rfl rfl nm_X12_has zw_7_61 zw_7_62 zw_1_18 zw_7_63 rfl (Nat.le_of_ble_eq_true rfl) ⟨Nat.le_of_ble_eq_true rfl, Nat.le_of_ble_eq_true rfl⟩ (by decide +kernel) (fun _ => ?_)
    refine zr_if_eq (off := 6) (tgt := 52) (by decide +kernel) (by decide) (fun hc => ?_) (fun hc => ?_)
    · have hf := zift hf hc
      obtain ⟨h5, hf⟩ := zck_of hf
      obtain ⟨q6, e6, hf⟩ := zbi_of hf
      refine zr_run [(.iload 4, 0, 0, 0, .null), (.aload_n 0, 0, 0, 0, .null), (.getfield 13, 0, 0, 14, .null), (.sipush 192, 0, 0, 0, .int (192 : Int32)), (.iload 7, 0, 0, 0, .null), (.iadd, 0, 0, 0, .null), (.iaload, 0, 2, 0, .null)] [] (WW' := [w_Mo G a0 s0]) (lv' := [some (.ref (a0 0)), none, some (.int x2), some (.int x3), some (.int x4), none, some (.int x6), some (.int x7)]) (pc' := 65) (st' := [.int ((Mo_now s0) ((192 : Int32) + x7).toNatClampNeg), .int x4]) (by decide +kernel) rfl rfl ⟨trivial, trivial, ⟨rfl, rfl, zw_6_43⟩, trivial, trivial, trivial, ⟨rfl, rfl, h5⟩, trivial⟩ ?_
      refine zr_callS (c_X12_has l G x4 ((Mo_now s0) ((192 : Int32) + x7).toNatClampNeg) q6 e6) (WW' := fun _ => [w_Mo G a0 s0]) (st := []) (st' := [.int q6]) [] rfl rfl (fun _ => Nat.le_of_ble_eq_true rfl) (fun _ => rfl) rfl rfl nm_X12_has zw_7_61 zw_7_62 zw_1_18 zw_7_63 rfl (Nat.le_of_ble_eq_true rfl) ⟨Nat.le_of_ble_eq_true rfl, Nat.le_of_ble_eq_true rfl⟩ (by decide +kernel) (fun _ => ?_)
      refine zr_if_eq (off := 21) (tgt := 89) (by decide +kernel) (by decide) (fun hc => ?_) (fun hc => ?_)
      · have hf := zift hf hc
        exact t_X12_leads_b89 l G a0 W0 r s0 k8 k29 hk8 hk29 x2 x3 x4 x6 x7 hf
      · have hf := ziff hf hc
        obtain ⟨h11, hf⟩ := zck_of hf
        obtain ⟨y12, e12, hf⟩ := zlet_of hf
        refine zr_run [(.iload 4, 0, 0, 0, .null), (.iconst 1, 0, 0, 0, .int (1 : Int32)), (.aload_n 0, 0, 0, 0, .null), (.getfield 13, 0, 0, 14, .null), (.sipush 208, 0, 0, 0, .int (208 : Int32)), (.iload 7, 0, 0, 0, .null), (.iadd, 0, 0, 0, .null), (.iaload, 0, 2, 0, .null), (.ishl, 0, 0, 0, .null), (.ior, 0, 0, 0, .null), (.istore 4, 0, 0, 0, .null)] [] (WW' := [w_Mo G a0 s0]) (lv' := [some (.ref (a0 0)), none, some (.int x2), some (.int x3), some (.int (x4 ||| (zr_shl (1 : Int32) ((Mo_now s0) ((208 : Int32) + x7).toNatClampNeg)))), none, some (.int x6), some (.int x7)]) (pc' := 89) (st' := []) (by decide +kernel) rfl rfl ⟨trivial, trivial, trivial, ⟨rfl, rfl, zw_6_43⟩, trivial, trivial, trivial, ⟨rfl, rfl, h11⟩, trivial, trivial, trivial, trivial⟩ ?_
        refine zr_eq (WW2 := [w_Mo G a0 s0]) (lv2 := [some (.ref (a0 0)), none, some (.int x2), some (.int x3), some (.int y12), none, some (.int x6), some (.int x7)]) (st2 := []) rfl (by rw [e12]) rfl ?_
        exact t_X12_leads_b89 l G a0 W0 r s0 k8 k29 hk8 hk29 x2 x3 y12 x6 x7 hf
    · have hf := ziff hf hc
      refine zr_goto (off := 77) (tgt := 126) (by decide +kernel) (by decide) ?_
      exact t_X12_leads_b126 l G a0 W0 r s0 k8 k29 hk8 hk29 x2 x3 x4 x6 x7 hf
  · have hf := ziff hf hc
    refine zr_run [(.iload 4, 0, 0, 0, .null), (.iload 6, 0, 0, 0, .null)] [] (WW' := [w_Mo G a0 s0]) (lv' := [some (.ref (a0 0)), none, some (.int x2), some (.int x3), some (.int x4), none, some (.int x6), some (.int x7)]) (pc' := 136) (st' := [.int x6, .int x4]) (by decide +kernel) rfl rfl ⟨trivial, trivial, trivial⟩ ?_
    refine zr_icmp_eq (off := 7) (tgt := 143) (by decide +kernel) (by decide) (fun hc => ?_) (fun hc => ?_)
    · have hf := zift hf hc
      refine zr_run [(.iconst 0, 0, 0, 0, .int (0 : Int32))] [6, 7] (WW' := [w_Mo G a0 s0]) (lv' := [some (.ref (a0 0)), none, some (.int x2), some (.int x3), some (.int x4), none, none, none]) (pc' := 144) (st' := [.int (0 : Int32)]) (by decide +kernel) rfl rfl ⟨trivial, trivial⟩ ?_
      exact t_X12_leads_b144 l G a0 W0 r s0 k8 hk8 x2 x3 x4 (0 : Int32) hf
    · have hf := ziff hf hc
      refine zr_run [(.iconst 1, 0, 0, 0, .int (1 : Int32))] [] (WW' := [w_Mo G a0 s0]) (lv' := [some (.ref (a0 0)), none, some (.int x2), some (.int x3), some (.int x4), none, some (.int x6), some (.int x7)]) (pc' := 140) (st' := [.int (1 : Int32)]) (by decide +kernel) rfl rfl ⟨trivial, trivial⟩ ?_
      refine zr_goto (off := 4) (tgt := 144) (by decide +kernel) (by decide) ?_
      refine zr_run [] [6, 7] (WW' := [w_Mo G a0 s0]) (lv' := [some (.ref (a0 0)), none, some (.int x2), some (.int x3), some (.int x4), none, none, none]) (pc' := 144) (st' := [.int (1 : Int32)]) (by decide +kernel) rfl rfl trivial ?_
      exact t_X12_leads_b144 l G a0 W0 r s0 k8 hk8 x2 x3 x4 (1 : Int32) hf
theorem t_X12_leads_L29 (l : Launch) (G : zj_G) (a0 : Nat → Nat) (W0 : List va_W) (r : Int32) (s0 : MoT) (k8 : Int32 → Int32 → Int32 → Int32 → Option (Int32)) (hk8 : ∀ (x2 : Int32) (x3 : Int32) (x4 : Int32) (x5 : Int32), k8 x2 x3 x4 x5 = some r → zj_J l G M_X12_leads W0 (zj_ret G M_X12_leads W0 (some (.int r)) (fun _ => [w_Mo G a0 s0])) 0 0 [w_Mo G a0 s0] [some (.ref (a0 0)), none, some (.int x2), some (.int x3), some (.int x4), some (.int x5), none, none] 8 []) : ∀ (n : Nat) (x2 : Int32) (x3 : Int32) (x4 : Int32) (x6 : Int32) (x7 : Int32), f_X12_leads_L29 s0 k8 n x2 x3 x4 x6 x7 = some r → zj_J l G M_X12_leads W0 (zj_ret G M_X12_leads W0 (some (.int r)) (fun _ => [w_Mo G a0 s0])) 0 0 [w_Mo G a0 s0] [some (.ref (a0 0)), none, some (.int x2), some (.int x3), some (.int x4), none, some (.int x6), some (.int x7)] 29 [] := by
  intro n
  induction n with
  | zero => intro x2 x3 x4 x6 x7 hf; exact nomatch (show none = some r from hf)
  | succ n ih => intro x2 x3 x4 x6 x7 hf; exact t_X12_leads_H29 l G a0 W0 r s0 k8 (f_X12_leads_L29 s0 k8 n) hk8 ih x2 x3 x4 x6 x7  hf
set_option maxRecDepth 100000 in
set_option maxHeartbeats 4000000 in
theorem t_X12_leads_H8 (l : Launch) (G : zj_G) (a0 : Nat → Nat) (W0 : List va_W) (r : Int32) (s0 : MoT) (k8 : Int32 → Int32 → Int32 → Int32 → Option (Int32)) (hk8 : ∀ (x2 : Int32) (x3 : Int32) (x4 : Int32) (x5 : Int32), k8 x2 x3 x4 x5 = some r → zj_J l G M_X12_leads W0 (zj_ret G M_X12_leads W0 (some (.int r)) (fun _ => [w_Mo G a0 s0])) 0 0 [w_Mo G a0 s0] [some (.ref (a0 0)), none, some (.int x2), some (.int x3), some (.int x4), some (.int x5), none, none] 8 []) (x2 : Int32) (x3 : Int32) (x4 : Int32) (x5 : Int32) (hf : f_X12_leads_H8 s0 k8 x2 x3 x4 x5 = some r) : zj_J l G M_X12_leads W0 (zj_ret G M_X12_leads W0 (some (.int r)) (fun _ => [w_Mo G a0 s0])) 0 0 [w_Mo G a0 s0] [some (.ref (a0 0)), none, some (.int x2), some (.int x3), some (.int x4), some (.int x5), none, none] 8 [] := by
  unfold f_X12_leads_H8 at hf
  refine zr_run [(.iload 5, 0, 0, 0, .null)] [] (WW' := [w_Mo G a0 s0]) (lv' := [some (.ref (a0 0)), none, some (.int x2), some (.int x3), some (.int x4), some (.int x5), none, none]) (pc' := 10) (st' := [.int x5]) (by decide +kernel) rfl rfl ⟨trivial, trivial⟩ ?_
  refine zr_if_eq (off := 139) (tgt := 149) (by decide +kernel) (by decide) (fun hc => ?_) (fun hc => ?_)
  · have hf := zift hf hc
    obtain ⟨q1, e1, hf⟩ := zbi_of hf
    refine zr_run [(.iload 4, 0, 0, 0, .null), (.iload_n 2, 0, 0, 0, .null)] [] (WW' := [w_Mo G a0 s0]) (lv' := [some (.ref (a0 0)), none, some (.int x2), some (.int x3), some (.int x4), some (.int x5), none, none]) (pc' := 152) (st' := [.int x2, .int x4]) (by decide +kernel) rfl rfl ⟨trivial, trivial, trivial⟩ ?_
    refine zr_callS (c_X12_has l G x4 x2 q1 e1) (WW' := fun _ => [w_Mo G a0 s0]) (st := []) (st' := [.int q1]) [] rfl rfl (fun _ => Nat.le_of_ble_eq_true rfl) (fun _ => rfl) rfl rfl nm_X12_has zw_7_61 zw_7_62 zw_1_18 zw_7_63 rfl (Nat.le_of_ble_eq_true rfl) ⟨Nat.le_of_ble_eq_true rfl, Nat.le_of_ble_eq_true rfl⟩ (by decide +kernel) (fun _ => ?_)
    obtain ⟨h2, hf⟩ := zck_of hf
    obtain rfl := Option.some.inj hf
    exact zr_zret h2 (b0 := fun _ => 0) (by decide +kernel) rfl rfl rfl rfl rfl
  · have hf := ziff hf hc
    obtain ⟨q3, e3, hf⟩ := zbi_of hf
    refine zr_run [(.iload 4, 0, 0, 0, .null), (.iload_n 2, 0, 0, 0, .null)] [] (WW' := [w_Mo G a0 s0]) (lv' := [some (.ref (a0 0)), none, some (.int x2), some (.int x3), some (.int x4), some (.int x5), none, none]) (pc' := 16) (st' := [.int x2, .int x4]) (by decide +kernel) rfl rfl ⟨trivial, trivial, trivial⟩ ?_
    refine zr_callS (c_X12_has l G x4 x2 q3 e3) (WW' := fun _ => [w_Mo G a0 s0]) (st := []) (st' := [.int q3]) [] rfl rfl (fun _ => Nat.le_of_ble_eq_true rfl) (fun _ => rfl) rfl rfl nm_X12_has zw_7_61 zw_7_62 zw_1_18 zw_7_63 rfl (Nat.le_of_ble_eq_true rfl) ⟨Nat.le_of_ble_eq_true rfl, Nat.le_of_ble_eq_true rfl⟩ (by decide +kernel) (fun _ => ?_)
    refine zr_if_ne (off := 130) (tgt := 149) (by decide +kernel) (by decide) (fun hc => ?_) (fun hc => ?_)
    · have hf := zift hf hc
      refine zr_run [(.iload 4, 0, 0, 0, .null), (.istore 6, 0, 0, 0, .null), (.iconst 0, 0, 0, 0, .int (0 : Int32)), (.istore 7, 0, 0, 0, .null)] [5] (WW' := [w_Mo G a0 s0]) (lv' := [some (.ref (a0 0)), none, some (.int x2), some (.int x3), some (.int x4), none, some (.int x4), some (.int (0 : Int32))]) (pc' := 29) (st' := []) (by decide +kernel) rfl rfl ⟨trivial, trivial, trivial, trivial, trivial⟩ ?_
      exact t_X12_leads_L29 l G a0 W0 r s0 k8 hk8 zFU x2 x3 x4 x4 (0 : Int32) hf
    · have hf := ziff hf hc
      obtain ⟨q13, e13, hf⟩ := zbi_of hf
      refine zr_run [(.iload 4, 0, 0, 0, .null), (.iload_n 2, 0, 0, 0, .null)] [] (WW' := [w_Mo G a0 s0]) (lv' := [some (.ref (a0 0)), none, some (.int x2), some (.int x3), some (.int x4), some (.int x5), none, none]) (pc' := 152) (st' := [.int x2, .int x4]) (by decide +kernel) rfl rfl ⟨trivial, trivial, trivial⟩ ?_
      refine zr_callS (c_X12_has l G x4 x2 q13 e13) (WW' := fun _ => [w_Mo G a0 s0]) (st := []) (st' := [.int q13]) [] rfl rfl (fun _ => Nat.le_of_ble_eq_true rfl) (fun _ => rfl) rfl rfl nm_X12_has zw_7_61 zw_7_62 zw_1_18 zw_7_63 rfl (Nat.le_of_ble_eq_true rfl) ⟨Nat.le_of_ble_eq_true rfl, Nat.le_of_ble_eq_true rfl⟩ (by decide +kernel) (fun _ => ?_)
      obtain ⟨h14, hf⟩ := zck_of hf
      obtain rfl := Option.some.inj hf
      exact zr_zret h14 (b0 := fun _ => 0) (by decide +kernel) rfl rfl rfl rfl rfl
theorem t_X12_leads_L8 (l : Launch) (G : zj_G) (a0 : Nat → Nat) (W0 : List va_W) (r : Int32) (s0 : MoT)   : ∀ (n : Nat) (x2 : Int32) (x3 : Int32) (x4 : Int32) (x5 : Int32), f_X12_leads_L8 s0 n x2 x3 x4 x5 = some r → zj_J l G M_X12_leads W0 (zj_ret G M_X12_leads W0 (some (.int r)) (fun _ => [w_Mo G a0 s0])) 0 0 [w_Mo G a0 s0] [some (.ref (a0 0)), none, some (.int x2), some (.int x3), some (.int x4), some (.int x5), none, none] 8 [] := by
  intro n
  induction n with
  | zero => intro x2 x3 x4 x5 hf; exact nomatch (show none = some r from hf)
  | succ n ih => intro x2 x3 x4 x5 hf; exact t_X12_leads_H8 l G a0 W0 r s0  (f_X12_leads_L8 s0 n)  ih x2 x3 x4 x5  hf
set_option maxRecDepth 100000 in
set_option maxHeartbeats 4000000 in
theorem c_X12_leads (l : Launch) (G : zj_G) (a0 : Nat → Nat) (s0 : MoT) (x1 : Int32) (x2 : Int32) (x3 : Int32) (r : Int32) (hf : f_X12_leads s0 x1 x2 x3 = some r) : zj_C l G M_X12_leads yX12_leads [w_Mo G a0 s0] [.ref (a0 0), .int x1, .int x2, .int x3] (some (.int r)) (fun _ => [w_Mo G a0 s0]) := by
  have key : ∀ W0 : List va_W, zj_J l G M_X12_leads W0 (zj_ret G M_X12_leads W0 (some (.int r)) (fun _ => [w_Mo G a0 s0])) 0 0 [w_Mo G a0 s0] [some (.ref (a0 0)), some (.int x1), some (.int x2), some (.int x3), none, none, none, none] 0 [] := by
    intro W0
    unfold f_X12_leads at hf
    refine zr_run [(.iconst 1, 0, 0, 0, .int (1 : Int32)), (.iload_n 1, 0, 0, 0, .null), (.ishl, 0, 0, 0, .null), (.istore 4, 0, 0, 0, .null), (.iconst 1, 0, 0, 0, .int (1 : Int32)), (.istore 5, 0, 0, 0, .null)] [1] (WW' := [w_Mo G a0 s0]) (lv' := [some (.ref (a0 0)), none, some (.int x2), some (.int x3), some (.int (zr_shl (1 : Int32) x1)), some (.int (1 : Int32)), none, none]) (pc' := 8) (st' := []) (by decide +kernel) rfl rfl ⟨trivial, trivial, trivial, trivial, trivial, trivial, trivial⟩ ?_
    exact t_X12_leads_L8 l G a0 W0 r s0 zFU x2 x3 (zr_shl (1 : Int32) x1) (1 : Int32) hf
  exact zj_entry [some (.ref (a0 0)), some (.int x1), some (.int x2), some (.int x3), none, none, none, none] (by decide +kernel) rfl (by decide) (Nat.le_of_ble_eq_true rfl) rfl rfl (key _)
def M_X12_cut : zj_M := (RX12, cX12_cut, 5, (some .int), { frames := 2, cells := 0, slots := 0, locals := 48 }, false)
theorem nm_X12_cut : zj_nm yX12_cut 2 := ⟨by decide +kernel, by decide +kernel, by decide +kernel⟩
def f_X12_cut_b82  (s0 : MoT) (k30 : MoT → Int32 → Int32 → Int32 → Option (Int32 × MoT)) (k38 : MoT → Int32 → Int32 → Int32 → Int32 → Option (Int32 × MoT)) (x1 : Int32) (x2 : Int32) (x3 : Int32) (x4 : Int32) : Option (Int32 × MoT) := k38 s0 x1 x2 x3 (x4 + (1 : Int32))
def f_X12_cut_H38  (s0 : MoT) (k30 : MoT → Int32 → Int32 → Int32 → Option (Int32 × MoT)) (k38 : MoT → Int32 → Int32 → Int32 → Int32 → Option (Int32 × MoT)) (x1 : Int32) (x2 : Int32) (x3 : Int32) (x4 : Int32) : Option (Int32 × MoT) := (if x4 < (zr_shl (1 : Int32) ((Mo_now s0) (1 : Int32).toNatClampNeg)) then ((f_X12_bits x4).bind fun q4 => (if q4 = x3 then ((f_X12_leads s0 x1 x2 x4).bind fun q5 => (if q5 = 0 then (zlet (Mo_s_cutting s0 x4) fun y6 => some (x3, y6)) else f_X12_cut_b82 s0 k30 k38 x1 x2 x3 x4)) else f_X12_cut_b82 s0 k30 k38 x1 x2 x3 x4)) else k30 s0 x1 x2 (x3 + (1 : Int32)))
def f_X12_cut_L38   (k30 : MoT → Int32 → Int32 → Int32 → Option (Int32 × MoT)) : Nat → MoT → Int32 → Int32 → Int32 → Int32 → Option (Int32 × MoT)
  | 0 => fun _ _ _ _ _ => none
  | n + 1 => fun s0 x1 x2 x3 x4 => f_X12_cut_H38 s0 k30 (f_X12_cut_L38 k30 n) x1 x2 x3 x4
def f_X12_cut_H30  (s0 : MoT) (k30 : MoT → Int32 → Int32 → Int32 → Option (Int32 × MoT)) (x1 : Int32) (x2 : Int32) (x3 : Int32) : Option (Int32 × MoT) := (if (4 : Int32) < x3 then some ((-1 : Int32), s0) else f_X12_cut_L38 k30 zFU s0 x1 x2 x3 (0 : Int32))
def f_X12_cut_L30    : Nat → MoT → Int32 → Int32 → Int32 → Option (Int32 × MoT)
  | 0 => fun _ _ _ _ => none
  | n + 1 => fun s0 x1 x2 x3 => f_X12_cut_H30 s0 (f_X12_cut_L30  n) x1 x2 x3
def f_X12_cut  (s0 : MoT) (x1 : Int32) (x2 : Int32) : Option (Int32 × MoT) := (zlet (Mo_s_thrown s0 (0 : Int32)) fun y1 => ((f_X12_isPlace y1 x1).bind fun q2 => (if q2 = 0 then some ((-1 : Int32), y1) else ((f_X12_isPlace y1 x2).bind fun q3 => (if q3 = 0 then some ((-1 : Int32), y1) else (if x1 = x2 then some ((-1 : Int32), y1) else f_X12_cut_L30 zFU y1 x1 x2 (0 : Int32)))))))
set_option maxRecDepth 100000 in
set_option maxHeartbeats 4000000 in
theorem t_X12_cut_b82 (l : Launch) (G : zj_G) (a0 : Nat → Nat) (W0 : List va_W) (r : Int32 × MoT) (s0 : MoT) (k30 : MoT → Int32 → Int32 → Int32 → Option (Int32 × MoT)) (k38 : MoT → Int32 → Int32 → Int32 → Int32 → Option (Int32 × MoT)) (hk30 : ∀ (s0 : MoT) (x1 : Int32) (x2 : Int32) (x3 : Int32), k30 s0 x1 x2 x3 = some r → zj_J l G M_X12_cut W0 (zj_ret G M_X12_cut W0 (some (.int r.1)) (fun _ => [w_Mo G a0 r.2])) 0 0 [w_Mo G a0 s0] [some (.ref (a0 0)), some (.int x1), some (.int x2), some (.int x3), none] 30 []) (hk38 : ∀ (s0 : MoT) (x1 : Int32) (x2 : Int32) (x3 : Int32) (x4 : Int32), k38 s0 x1 x2 x3 x4 = some r → zj_J l G M_X12_cut W0 (zj_ret G M_X12_cut W0 (some (.int r.1)) (fun _ => [w_Mo G a0 r.2])) 0 0 [w_Mo G a0 s0] [some (.ref (a0 0)), some (.int x1), some (.int x2), some (.int x3), some (.int x4)] 38 []) (x1 : Int32) (x2 : Int32) (x3 : Int32) (x4 : Int32) (hf : f_X12_cut_b82 s0 k30 k38 x1 x2 x3 x4 = some r) : zj_J l G M_X12_cut W0 (zj_ret G M_X12_cut W0 (some (.int r.1)) (fun _ => [w_Mo G a0 r.2])) 0 0 [w_Mo G a0 s0] [some (.ref (a0 0)), some (.int x1), some (.int x2), some (.int x3), some (.int x4)] 82 [] := by
  unfold f_X12_cut_b82 at hf
  refine zr_run [(.iinc 4 1, 0, 0, 0, .int (1 : Int32))] [] (WW' := [w_Mo G a0 s0]) (lv' := [some (.ref (a0 0)), some (.int x1), some (.int x2), some (.int x3), some (.int (x4 + (1 : Int32)))]) (pc' := 85) (st' := []) (by decide +kernel) rfl rfl ⟨trivial, trivial⟩ ?_
  refine zr_goto (off := -47) (tgt := 38) (by decide +kernel) (by decide) ?_
  exact hk38 s0 x1 x2 x3 (x4 + (1 : Int32)) hf
set_option maxRecDepth 100000 in
set_option maxHeartbeats 4000000 in
theorem t_X12_cut_H38 (l : Launch) (G : zj_G) (a0 : Nat → Nat) (W0 : List va_W) (r : Int32 × MoT) (s0 : MoT) (k30 : MoT → Int32 → Int32 → Int32 → Option (Int32 × MoT)) (k38 : MoT → Int32 → Int32 → Int32 → Int32 → Option (Int32 × MoT)) (hk30 : ∀ (s0 : MoT) (x1 : Int32) (x2 : Int32) (x3 : Int32), k30 s0 x1 x2 x3 = some r → zj_J l G M_X12_cut W0 (zj_ret G M_X12_cut W0 (some (.int r.1)) (fun _ => [w_Mo G a0 r.2])) 0 0 [w_Mo G a0 s0] [some (.ref (a0 0)), some (.int x1), some (.int x2), some (.int x3), none] 30 []) (hk38 : ∀ (s0 : MoT) (x1 : Int32) (x2 : Int32) (x3 : Int32) (x4 : Int32), k38 s0 x1 x2 x3 x4 = some r → zj_J l G M_X12_cut W0 (zj_ret G M_X12_cut W0 (some (.int r.1)) (fun _ => [w_Mo G a0 r.2])) 0 0 [w_Mo G a0 s0] [some (.ref (a0 0)), some (.int x1), some (.int x2), some (.int x3), some (.int x4)] 38 []) (x1 : Int32) (x2 : Int32) (x3 : Int32) (x4 : Int32) (hf : f_X12_cut_H38 s0 k30 k38 x1 x2 x3 x4 = some r) : zj_J l G M_X12_cut W0 (zj_ret G M_X12_cut W0 (some (.int r.1)) (fun _ => [w_Mo G a0 r.2])) 0 0 [w_Mo G a0 s0] [some (.ref (a0 0)), some (.int x1), some (.int x2), some (.int x3), some (.int x4)] 38 [] := by
  unfold f_X12_cut_H38 at hf
  refine zr_run [(.iload 4, 0, 0, 0, .null), (.iconst 1, 0, 0, 0, .int (1 : Int32)), (.aload_n 0, 0, 0, 0, .null), (.getfield 13, 0, 0, 14, .null), (.iconst 1, 0, 0, 0, .int (1 : Int32)), (.iaload, 0, 2, 0, .null), (.ishl, 0, 0, 0, .null)] [] (WW' := [w_Mo G a0 s0]) (lv' := [some (.ref (a0 0)), some (.int x1), some (.int x2), some (.int x3), some (.int x4)]) (pc' := 48) (st' := [.int (zr_shl (1 : Int32) ((Mo_now s0) (1 : Int32).toNatClampNeg)), .int x4]) (by decide +kernel) rfl rfl ⟨trivial, trivial, trivial, ⟨rfl, rfl, zw_6_43⟩, trivial, ⟨rfl, rfl, (by decide)⟩, trivial, trivial⟩ ?_
  refine zr_icmp_ge (off := 40) (tgt := 88) (by decide +kernel) (by decide) (fun hc => ?_) (fun hc => ?_)
  · have hf := zift hf hc
    obtain ⟨q4, e4, hf⟩ := zbi_of hf
    refine zr_run [(.iload 4, 0, 0, 0, .null)] [] (WW' := [w_Mo G a0 s0]) (lv' := [some (.ref (a0 0)), some (.int x1), some (.int x2), some (.int x3), some (.int x4)]) (pc' := 53) (st' := [.int x4]) (by decide +kernel) rfl rfl ⟨trivial, trivial⟩ ?_
    refine zr_callS (c_X12_bits l G x4 q4 e4) (WW' := fun _ => [w_Mo G a0 s0]) (st := []) (st' := [.int q4]) [] rfl rfl (fun _ => Nat.le_of_ble_eq_true rfl) (fun _ => rfl) rfl rfl nm_X12_bits zw_8_57 zw_8_58 zw_1_18 zw_8_59 rfl (Nat.le_of_ble_eq_true rfl) ⟨Nat.le_of_ble_eq_true rfl, Nat.le_of_ble_eq_true rfl⟩ (by decide +kernel) (fun _ => ?_)
    refine zr_run [(.iload_n 3, 0, 0, 0, .null)] [] (WW' := [w_Mo G a0 s0]) (lv' := [some (.ref (a0 0)), some (.int x1), some (.int x2), some (.int x3), some (.int x4)]) (pc' := 57) (st' := [.int x3, .int q4]) (by decide +kernel) rfl rfl ⟨trivial, trivial⟩ ?_
    refine zr_icmp_ne (off := 25) (tgt := 82) (by decide +kernel) (by decide) (fun hc => ?_) (fun hc => ?_)
    · have hf := zift hf hc
      obtain ⟨q5, e5, hf⟩ := zbi_of hf
      refine zr_run [(.aload_n 0, 0, 0, 0, .null), (.iload_n 1, 0, 0, 0, .null), (.iload_n 2, 0, 0, 0, .null), (.iload 4, 0, 0, 0, .null)] [] (WW' := [w_Mo G a0 s0]) (lv' := [some (.ref (a0 0)), some (.int x1), some (.int x2), some (.int x3), some (.int x4)]) (pc' := 65) (st' := [.int x4, .int x2, .int x1, .ref (a0 0)]) (by decide +kernel) rfl rfl ⟨trivial, trivial, trivial, trivial, trivial⟩ ?_
      refine zr_callV (c_X12_leads l G a0 s0 x1 x2 x4 q5 e5) (WW' := fun _ => [w_Mo G a0 s0]) (st := []) (st' := [.int q5]) [0] rfl rfl (fun _ => Nat.le_of_ble_eq_true rfl) (fun _ => rfl) rfl rfl nm_X12_leads zw_8_60 zw_8_62 zw_0_100 zw_1_18 zw_8_63 rfl rfl rfl (Nat.le_of_ble_eq_true rfl) ⟨Nat.le_of_ble_eq_true rfl, Nat.le_of_ble_eq_true rfl⟩ (by decide +kernel) (fun _ => ?_)
      refine zr_if_eq (off := 6) (tgt := 74) (by decide +kernel) (by decide) (fun hc => ?_) (fun hc => ?_)
      · have hf := zift hf hc
        obtain ⟨y6, e6, hf⟩ := zlet_of hf
        refine zr_run [(.aload_n 0, 0, 0, 0, .null), (.iload 4, 0, 0, 0, .null), (.putfield 69, 0, 0, 40, .null)] [] (WW' := [w_Mo G a0 (Mo_s_cutting s0 x4)]) (lv' := [some (.ref (a0 0)), some (.int x1), some (.int x2), some (.int x3), some (.int x4)]) (pc' := 80) (st' := []) (by decide +kernel) rfl rfl ⟨trivial, trivial, ⟨rfl, rfl, rfl, trivial, rfl, rfl, zw_6_69⟩, trivial⟩ ?_
        refine zr_eq (WW2 := [w_Mo G a0 y6]) (lv2 := [some (.ref (a0 0)), some (.int x1), some (.int x2), some (.int x3), some (.int x4)]) (st2 := []) (by rw [e6]) rfl rfl ?_
        refine zr_run [(.iload_n 3, 0, 0, 0, .null)] [] (WW' := [w_Mo G a0 y6]) (lv' := [some (.ref (a0 0)), some (.int x1), some (.int x2), some (.int x3), some (.int x4)]) (pc' := 81) (st' := [.int x3]) (by decide +kernel) rfl rfl ⟨trivial, trivial⟩ ?_
        obtain rfl := Option.some.inj hf
        exact zr_iret (b0 := fun _ => 0) (by decide +kernel) rfl rfl rfl rfl rfl
      · have hf := ziff hf hc
        refine zr_goto (off := 11) (tgt := 82) (by decide +kernel) (by decide) ?_
        exact t_X12_cut_b82 l G a0 W0 r s0 k30 k38 hk30 hk38 x1 x2 x3 x4 hf
    · have hf := ziff hf hc
      exact t_X12_cut_b82 l G a0 W0 r s0 k30 k38 hk30 hk38 x1 x2 x3 x4 hf
  · have hf := ziff hf hc
    refine zr_run [(.iinc 3 1, 0, 0, 0, .int (1 : Int32))] [] (WW' := [w_Mo G a0 s0]) (lv' := [some (.ref (a0 0)), some (.int x1), some (.int x2), some (.int (x3 + (1 : Int32))), some (.int x4)]) (pc' := 91) (st' := []) (by decide +kernel) rfl rfl ⟨trivial, trivial⟩ ?_
    refine zr_run [] [4] (WW' := [w_Mo G a0 s0]) (lv' := [some (.ref (a0 0)), some (.int x1), some (.int x2), some (.int (x3 + (1 : Int32))), none]) (pc' := 91) (st' := []) (by decide +kernel) rfl rfl trivial ?_
    refine zr_goto (off := -61) (tgt := 30) (by decide +kernel) (by decide) ?_
    exact hk30 s0 x1 x2 (x3 + (1 : Int32)) hf
theorem t_X12_cut_L38 (l : Launch) (G : zj_G) (a0 : Nat → Nat) (W0 : List va_W) (r : Int32 × MoT)  (k30 : MoT → Int32 → Int32 → Int32 → Option (Int32 × MoT)) (hk30 : ∀ (s0 : MoT) (x1 : Int32) (x2 : Int32) (x3 : Int32), k30 s0 x1 x2 x3 = some r → zj_J l G M_X12_cut W0 (zj_ret G M_X12_cut W0 (some (.int r.1)) (fun _ => [w_Mo G a0 r.2])) 0 0 [w_Mo G a0 s0] [some (.ref (a0 0)), some (.int x1), some (.int x2), some (.int x3), none] 30 []) : ∀ (n : Nat) (s0 : MoT) (x1 : Int32) (x2 : Int32) (x3 : Int32) (x4 : Int32), f_X12_cut_L38 k30 n s0 x1 x2 x3 x4 = some r → zj_J l G M_X12_cut W0 (zj_ret G M_X12_cut W0 (some (.int r.1)) (fun _ => [w_Mo G a0 r.2])) 0 0 [w_Mo G a0 s0] [some (.ref (a0 0)), some (.int x1), some (.int x2), some (.int x3), some (.int x4)] 38 [] := by
  intro n
  induction n with
  | zero => intro s0 x1 x2 x3 x4 hf; exact nomatch (show none = some r from hf)
  | succ n ih => intro s0 x1 x2 x3 x4 hf; exact t_X12_cut_H38 l G a0 W0 r s0 k30 (f_X12_cut_L38 k30 n) hk30 ih x1 x2 x3 x4  hf
set_option maxRecDepth 100000 in
set_option maxHeartbeats 4000000 in
theorem t_X12_cut_H30 (l : Launch) (G : zj_G) (a0 : Nat → Nat) (W0 : List va_W) (r : Int32 × MoT) (s0 : MoT) (k30 : MoT → Int32 → Int32 → Int32 → Option (Int32 × MoT)) (hk30 : ∀ (s0 : MoT) (x1 : Int32) (x2 : Int32) (x3 : Int32), k30 s0 x1 x2 x3 = some r → zj_J l G M_X12_cut W0 (zj_ret G M_X12_cut W0 (some (.int r.1)) (fun _ => [w_Mo G a0 r.2])) 0 0 [w_Mo G a0 s0] [some (.ref (a0 0)), some (.int x1), some (.int x2), some (.int x3), none] 30 []) (x1 : Int32) (x2 : Int32) (x3 : Int32) (hf : f_X12_cut_H30 s0 k30 x1 x2 x3 = some r) : zj_J l G M_X12_cut W0 (zj_ret G M_X12_cut W0 (some (.int r.1)) (fun _ => [w_Mo G a0 r.2])) 0 0 [w_Mo G a0 s0] [some (.ref (a0 0)), some (.int x1), some (.int x2), some (.int x3), none] 30 [] := by
  unfold f_X12_cut_H30 at hf
  refine zr_run [(.iload_n 3, 0, 0, 0, .null), (.iconst 4, 0, 0, 0, .int (4 : Int32))] [] (WW' := [w_Mo G a0 s0]) (lv' := [some (.ref (a0 0)), some (.int x1), some (.int x2), some (.int x3), none]) (pc' := 32) (st' := [.int (4 : Int32), .int x3]) (by decide +kernel) rfl rfl ⟨trivial, trivial, trivial⟩ ?_
  refine zr_icmp_gt (off := 62) (tgt := 94) (by decide +kernel) (by decide) (fun hc => ?_) (fun hc => ?_)
  · have hf := zift hf hc
    refine zr_run [(.iconst (-1), 0, 0, 0, .int (-1 : Int32))] [] (WW' := [w_Mo G a0 s0]) (lv' := [some (.ref (a0 0)), some (.int x1), some (.int x2), some (.int x3), none]) (pc' := 95) (st' := [.int (-1 : Int32)]) (by decide +kernel) rfl rfl ⟨trivial, trivial⟩ ?_
    obtain rfl := Option.some.inj hf
    exact zr_iret (b0 := fun _ => 0) (by decide +kernel) rfl rfl rfl rfl rfl
  · have hf := ziff hf hc
    refine zr_run [(.iconst 0, 0, 0, 0, .int (0 : Int32)), (.istore 4, 0, 0, 0, .null)] [] (WW' := [w_Mo G a0 s0]) (lv' := [some (.ref (a0 0)), some (.int x1), some (.int x2), some (.int x3), some (.int (0 : Int32))]) (pc' := 38) (st' := []) (by decide +kernel) rfl rfl ⟨trivial, trivial, trivial⟩ ?_
    exact t_X12_cut_L38 l G a0 W0 r k30 hk30 zFU s0 x1 x2 x3 (0 : Int32) hf
theorem t_X12_cut_L30 (l : Launch) (G : zj_G) (a0 : Nat → Nat) (W0 : List va_W) (r : Int32 × MoT)    : ∀ (n : Nat) (s0 : MoT) (x1 : Int32) (x2 : Int32) (x3 : Int32), f_X12_cut_L30 n s0 x1 x2 x3 = some r → zj_J l G M_X12_cut W0 (zj_ret G M_X12_cut W0 (some (.int r.1)) (fun _ => [w_Mo G a0 r.2])) 0 0 [w_Mo G a0 s0] [some (.ref (a0 0)), some (.int x1), some (.int x2), some (.int x3), none] 30 [] := by
  intro n
  induction n with
  | zero => intro s0 x1 x2 x3 hf; exact nomatch (show none = some r from hf)
  | succ n ih => intro s0 x1 x2 x3 hf; exact t_X12_cut_H30 l G a0 W0 r s0  (f_X12_cut_L30 n)  ih x1 x2 x3  hf
set_option maxRecDepth 100000 in
set_option maxHeartbeats 4000000 in
theorem c_X12_cut (l : Launch) (G : zj_G) (a0 : Nat → Nat) (s0 : MoT) (x1 : Int32) (x2 : Int32) (r : Int32 × MoT) (hf : f_X12_cut s0 x1 x2 = some r) : zj_C l G M_X12_cut yX12_cut [w_Mo G a0 s0] [.ref (a0 0), .int x1, .int x2] (some (.int r.1)) (fun _ => [w_Mo G a0 r.2]) := by
  have key : ∀ W0 : List va_W, zj_J l G M_X12_cut W0 (zj_ret G M_X12_cut W0 (some (.int r.1)) (fun _ => [w_Mo G a0 r.2])) 0 0 [w_Mo G a0 s0] [some (.ref (a0 0)), some (.int x1), some (.int x2), none, none] 0 [] := by
    intro W0
    unfold f_X12_cut at hf
    obtain ⟨y1, e1, hf⟩ := zlet_of hf
    refine zr_run [(.aload_n 0, 0, 0, 0, .null), (.iconst 0, 0, 0, 0, .int (0 : Int32)), (.putfield 91, 0, 0, 0, .null)] [] (WW' := [w_Mo G a0 (Mo_s_thrown s0 (0 : Int32))]) (lv' := [some (.ref (a0 0)), some (.int x1), some (.int x2), none, none]) (pc' := 5) (st' := []) (by decide +kernel) rfl rfl ⟨trivial, trivial, ⟨rfl, rfl, rfl, trivial, rfl, rfl, zw_6_29⟩, trivial⟩ ?_
    refine zr_eq (WW2 := [w_Mo G a0 y1]) (lv2 := [some (.ref (a0 0)), some (.int x1), some (.int x2), none, none]) (st2 := []) (by rw [e1]) rfl rfl ?_
    obtain ⟨q2, e2, hf⟩ := zbi_of hf
    refine zr_run [(.aload_n 0, 0, 0, 0, .null), (.iload_n 1, 0, 0, 0, .null)] [] (WW' := [w_Mo G a0 y1]) (lv' := [some (.ref (a0 0)), some (.int x1), some (.int x2), none, none]) (pc' := 7) (st' := [.int x1, .ref (a0 0)]) (by decide +kernel) rfl rfl ⟨trivial, trivial, trivial⟩ ?_
    refine zr_callV (c_X12_isPlace l G a0 y1 x1 q2 e2) (WW' := fun _ => [w_Mo G a0 y1]) (st := []) (st' := [.int q2]) [0] rfl rfl (fun _ => Nat.le_of_ble_eq_true rfl) (fun _ => rfl) rfl rfl nm_X12_isPlace zw_7_96 zw_7_98 zw_0_70 zw_1_18 zw_7_99 rfl rfl rfl (Nat.le_of_ble_eq_true rfl) ⟨Nat.le_of_ble_eq_true rfl, Nat.le_of_ble_eq_true rfl⟩ (by decide +kernel) (fun _ => ?_)
    refine zr_if_eq (off := 16) (tgt := 26) (by decide +kernel) (by decide) (fun hc => ?_) (fun hc => ?_)
    · have hf := zift hf hc
      refine zr_run [(.iconst (-1), 0, 0, 0, .int (-1 : Int32))] [] (WW' := [w_Mo G a0 y1]) (lv' := [some (.ref (a0 0)), some (.int x1), some (.int x2), none, none]) (pc' := 27) (st' := [.int (-1 : Int32)]) (by decide +kernel) rfl rfl ⟨trivial, trivial⟩ ?_
      obtain rfl := Option.some.inj hf
      exact zr_iret (b0 := fun _ => 0) (by decide +kernel) rfl rfl rfl rfl rfl
    · have hf := ziff hf hc
      obtain ⟨q3, e3, hf⟩ := zbi_of hf
      refine zr_run [(.aload_n 0, 0, 0, 0, .null), (.iload_n 2, 0, 0, 0, .null)] [] (WW' := [w_Mo G a0 y1]) (lv' := [some (.ref (a0 0)), some (.int x1), some (.int x2), none, none]) (pc' := 15) (st' := [.int x2, .ref (a0 0)]) (by decide +kernel) rfl rfl ⟨trivial, trivial, trivial⟩ ?_
      refine zr_callV (c_X12_isPlace l G a0 y1 x2 q3 e3) (WW' := fun _ => [w_Mo G a0 y1]) (st := []) (st' := [.int q3]) [0] rfl rfl (fun _ => Nat.le_of_ble_eq_true rfl) (fun _ => rfl) rfl rfl nm_X12_isPlace zw_7_96 zw_7_98 zw_0_70 zw_1_18 zw_7_99 rfl rfl rfl (Nat.le_of_ble_eq_true rfl) ⟨Nat.le_of_ble_eq_true rfl, Nat.le_of_ble_eq_true rfl⟩ (by decide +kernel) (fun _ => ?_)
      refine zr_if_eq (off := 8) (tgt := 26) (by decide +kernel) (by decide) (fun hc => ?_) (fun hc => ?_)
      · have hf := zift hf hc
        refine zr_run [(.iconst (-1), 0, 0, 0, .int (-1 : Int32))] [] (WW' := [w_Mo G a0 y1]) (lv' := [some (.ref (a0 0)), some (.int x1), some (.int x2), none, none]) (pc' := 27) (st' := [.int (-1 : Int32)]) (by decide +kernel) rfl rfl ⟨trivial, trivial⟩ ?_
        obtain rfl := Option.some.inj hf
        exact zr_iret (b0 := fun _ => 0) (by decide +kernel) rfl rfl rfl rfl rfl
      · have hf := ziff hf hc
        refine zr_run [(.iload_n 1, 0, 0, 0, .null), (.iload_n 2, 0, 0, 0, .null)] [] (WW' := [w_Mo G a0 y1]) (lv' := [some (.ref (a0 0)), some (.int x1), some (.int x2), none, none]) (pc' := 23) (st' := [.int x2, .int x1]) (by decide +kernel) rfl rfl ⟨trivial, trivial, trivial⟩ ?_
        refine zr_icmp_ne (off := 5) (tgt := 28) (by decide +kernel) (by decide) (fun hc => ?_) (fun hc => ?_)
        · have hf := zift hf hc
          refine zr_run [(.iconst (-1), 0, 0, 0, .int (-1 : Int32))] [] (WW' := [w_Mo G a0 y1]) (lv' := [some (.ref (a0 0)), some (.int x1), some (.int x2), none, none]) (pc' := 27) (st' := [.int (-1 : Int32)]) (by decide +kernel) rfl rfl ⟨trivial, trivial⟩ ?_
          obtain rfl := Option.some.inj hf
          exact zr_iret (b0 := fun _ => 0) (by decide +kernel) rfl rfl rfl rfl rfl
        · have hf := ziff hf hc
          refine zr_run [(.iconst 0, 0, 0, 0, .int (0 : Int32)), (.istore_n 3, 0, 0, 0, .null)] [] (WW' := [w_Mo G a0 y1]) (lv' := [some (.ref (a0 0)), some (.int x1), some (.int x2), some (.int (0 : Int32)), none]) (pc' := 30) (st' := []) (by decide +kernel) rfl rfl ⟨trivial, trivial, trivial⟩ ?_
          exact t_X12_cut_L30 l G a0 W0 r zFU y1 x1 x2 (0 : Int32) hf
  exact zj_entry [some (.ref (a0 0)), some (.int x1), some (.int x2), none, none] (by decide +kernel) rfl (by decide) (Nat.le_of_ble_eq_true rfl) rfl rfl (key _)
def M_X12_cutting : zj_M := (RX12, cX12_cutting, 1, (some .int), { frames := 0, cells := 0, slots := 0, locals := 0 }, false)
theorem nm_X12_cutting : zj_nm yX12_cutting 0 := ⟨by decide +kernel, by decide +kernel, by decide +kernel⟩
def f_X12_cutting  (s0 : MoT)  : Option (Int32 × MoT) := (zlet (Mo_s_thrown s0 (0 : Int32)) fun y1 => some ((Mo_cutting y1), y1))
set_option maxRecDepth 100000 in
set_option maxHeartbeats 4000000 in
theorem c_X12_cutting (l : Launch) (G : zj_G) (a0 : Nat → Nat) (s0 : MoT)  (r : Int32 × MoT) (hf : f_X12_cutting s0 = some r) : zj_C l G M_X12_cutting yX12_cutting [w_Mo G a0 s0] [.ref (a0 0)] (some (.int r.1)) (fun _ => [w_Mo G a0 r.2]) := by
  have key : ∀ W0 : List va_W, zj_J l G M_X12_cutting W0 (zj_ret G M_X12_cutting W0 (some (.int r.1)) (fun _ => [w_Mo G a0 r.2])) 0 0 [w_Mo G a0 s0] [some (.ref (a0 0))] 0 [] := by
    intro W0
    unfold f_X12_cutting at hf
    obtain ⟨y1, e1, hf⟩ := zlet_of hf
    refine zr_run [(.aload_n 0, 0, 0, 0, .null), (.iconst 0, 0, 0, 0, .int (0 : Int32)), (.putfield 91, 0, 0, 0, .null)] [] (WW' := [w_Mo G a0 (Mo_s_thrown s0 (0 : Int32))]) (lv' := [some (.ref (a0 0))]) (pc' := 5) (st' := []) (by decide +kernel) rfl rfl ⟨trivial, trivial, ⟨rfl, rfl, rfl, trivial, rfl, rfl, zw_6_29⟩, trivial⟩ ?_
    refine zr_eq (WW2 := [w_Mo G a0 y1]) (lv2 := [some (.ref (a0 0))]) (st2 := []) (by rw [e1]) rfl rfl ?_
    refine zr_run [(.aload_n 0, 0, 0, 0, .null), (.getfield 69, 0, 0, 40, .null)] [] (WW' := [w_Mo G a0 y1]) (lv' := [some (.ref (a0 0))]) (pc' := 9) (st' := [.int (Mo_cutting y1)]) (by decide +kernel) rfl rfl ⟨trivial, ⟨rfl, rfl, zw_6_69⟩, trivial⟩ ?_
    obtain rfl := Option.some.inj hf
    exact zr_iret (b0 := fun _ => 0) (by decide +kernel) rfl rfl rfl rfl rfl
  exact zj_entry [some (.ref (a0 0))] (by decide +kernel) rfl (by decide) (Nat.le_of_ble_eq_true rfl) rfl rfl (key _)
def M_X12_ship : zj_M := (RX12, cX12_ship, 7, (some .int), { frames := 3, cells := 0, slots := 0, locals := 64 }, false)
theorem nm_X12_ship : zj_nm yX12_ship 3 := ⟨by decide +kernel, by decide +kernel, by decide +kernel⟩
def f_X12_ship_b96  (s0 : MoT)  (x4 : Int32) (x5 : Int32) (z0 : Int32) : Option (Int32 × MoT) := ((f_X12_common x5 (x5 - x4)).bind fun q10 => (if zb_nz q10 = true then some ((z0 / q10), s0) else none))
def f_X12_ship_H46  (s0 : MoT) (k46 : MoT → Int32 → Int32 → Int32 → Int32 → Int32 → Int32 → Option (Int32 × MoT)) (x1 : Int32) (x2 : Int32) (x3 : Int32) (x4 : Int32) (x5 : Int32) (x6 : Int32) : Option (Int32 × MoT) := (if x6 < x2 then (if zb_in ((14 : Int32) + x1) 758 = true then (zlet (x4 * ((12 : Int32) - ((Mo_now s0) ((14 : Int32) + x1).toNatClampNeg))) fun y9 => k46 s0 x1 x2 x3 y9 (x5 * (12 : Int32)) (x6 + (1 : Int32))) else none) else (if x3 = 0 then f_X12_ship_b96 s0 x4 x5 (x5 - x4) else f_X12_ship_b96 s0 x4 x5 x5))
def f_X12_ship_L46    : Nat → MoT → Int32 → Int32 → Int32 → Int32 → Int32 → Int32 → Option (Int32 × MoT)
  | 0 => fun _ _ _ _ _ _ _ => none
  | n + 1 => fun s0 x1 x2 x3 x4 x5 x6 => f_X12_ship_H46 s0 (f_X12_ship_L46  n) x1 x2 x3 x4 x5 x6
def f_X12_ship  (s0 : MoT) (x1 : Int32) (x2 : Int32) (x3 : Int32) : Option (Int32 × MoT) := (zlet (Mo_s_thrown s0 (0 : Int32)) fun y1 => ((f_X12_isPort y1 x1).bind fun q2 => (if q2 = 0 then ((f_X12_refuse y1).bind fun q3 => some (q3.1, q3.2)) else ((f_X12_isIn x2 (0 : Int32) (8 : Int32)).bind fun q4 => (if q4 = 0 then ((f_X12_refuse y1).bind fun q5 => some (q5.1, q5.2)) else ((f_X12_isIn x3 (0 : Int32) (1 : Int32)).bind fun q6 => (if q6 = 0 then ((f_X12_refuse y1).bind fun q7 => some (q7.1, q7.2)) else f_X12_ship_L46 zFU y1 x1 x2 x3 (1 : Int32) (1 : Int32) (0 : Int32))))))))
set_option maxRecDepth 100000 in
set_option maxHeartbeats 4000000 in
theorem t_X12_ship_b96 (l : Launch) (G : zj_G) (a0 : Nat → Nat) (W0 : List va_W) (r : Int32 × MoT) (s0 : MoT)   (x4 : Int32) (x5 : Int32) (z0 : Int32) (hf : f_X12_ship_b96 s0 x4 x5 z0 = some r) : zj_J l G M_X12_ship W0 (zj_ret G M_X12_ship W0 (some (.int r.1)) (fun _ => [w_Mo G a0 r.2])) 0 0 [w_Mo G a0 s0] [none, none, none, none, some (.int x4), some (.int x5), none] 96 [.int z0] := by
  unfold f_X12_ship_b96 at hf
  obtain ⟨q10, e10, hf⟩ := zbi_of hf
  refine zr_run [(.iload 5, 0, 0, 0, .null), (.iload 5, 0, 0, 0, .null), (.iload 4, 0, 0, 0, .null), (.isub, 0, 0, 0, .null)] [] (WW' := [w_Mo G a0 s0]) (lv' := [none, none, none, none, some (.int x4), some (.int x5), none]) (pc' := 103) (st' := [.int (x5 - x4), .int x5, .int z0]) (by decide +kernel) rfl rfl ⟨trivial, trivial, trivial, trivial, trivial⟩ ?_
  refine zr_callS (c_X12_common l G x5 (x5 - x4) q10 e10) (WW' := fun _ => [w_Mo G a0 s0]) (st := [.int z0]) (st' := [.int q10, .int z0]) [] rfl rfl (fun _ => Nat.le_of_ble_eq_true rfl) (fun _ => rfl) rfl rfl nm_X12_common zw_8_72 zw_8_73 zw_1_18 zw_8_74 rfl (Nat.le_of_ble_eq_true rfl) ⟨Nat.le_of_ble_eq_true rfl, Nat.le_of_ble_eq_true rfl⟩ (by decide +kernel) (fun _ => ?_)
  obtain ⟨h11, hf⟩ := zck_of hf
  refine zr_run [(.idiv, 0, 0, 0, .null)] [] (WW' := [w_Mo G a0 s0]) (lv' := [none, none, none, none, some (.int x4), some (.int x5), none]) (pc' := 107) (st' := [.int (z0 / q10)]) (by decide +kernel) rfl rfl ⟨h11, trivial⟩ ?_
  obtain rfl := Option.some.inj hf
  exact zr_iret (b0 := fun _ => 0) (by decide +kernel) rfl rfl rfl rfl rfl
set_option maxRecDepth 100000 in
set_option maxHeartbeats 4000000 in
theorem t_X12_ship_H46 (l : Launch) (G : zj_G) (a0 : Nat → Nat) (W0 : List va_W) (r : Int32 × MoT) (s0 : MoT) (k46 : MoT → Int32 → Int32 → Int32 → Int32 → Int32 → Int32 → Option (Int32 × MoT)) (hk46 : ∀ (s0 : MoT) (x1 : Int32) (x2 : Int32) (x3 : Int32) (x4 : Int32) (x5 : Int32) (x6 : Int32), k46 s0 x1 x2 x3 x4 x5 x6 = some r → zj_J l G M_X12_ship W0 (zj_ret G M_X12_ship W0 (some (.int r.1)) (fun _ => [w_Mo G a0 r.2])) 0 0 [w_Mo G a0 s0] [some (.ref (a0 0)), some (.int x1), some (.int x2), some (.int x3), some (.int x4), some (.int x5), some (.int x6)] 46 []) (x1 : Int32) (x2 : Int32) (x3 : Int32) (x4 : Int32) (x5 : Int32) (x6 : Int32) (hf : f_X12_ship_H46 s0 k46 x1 x2 x3 x4 x5 x6 = some r) : zj_J l G M_X12_ship W0 (zj_ret G M_X12_ship W0 (some (.int r.1)) (fun _ => [w_Mo G a0 r.2])) 0 0 [w_Mo G a0 s0] [some (.ref (a0 0)), some (.int x1), some (.int x2), some (.int x3), some (.int x4), some (.int x5), some (.int x6)] 46 [] := by
  unfold f_X12_ship_H46 at hf
  refine zr_run [(.iload 6, 0, 0, 0, .null), (.iload_n 2, 0, 0, 0, .null)] [] (WW' := [w_Mo G a0 s0]) (lv' := [some (.ref (a0 0)), some (.int x1), some (.int x2), some (.int x3), some (.int x4), some (.int x5), some (.int x6)]) (pc' := 49) (st' := [.int x2, .int x6]) (by decide +kernel) rfl rfl ⟨trivial, trivial, trivial⟩ ?_
  refine zr_icmp_ge (off := 33) (tgt := 82) (by decide +kernel) (by decide) (fun hc => ?_) (fun hc => ?_)
  · have hf := zift hf hc
    obtain ⟨h8, hf⟩ := zck_of hf
    obtain ⟨y9, e9, hf⟩ := zlet_of hf
    refine zr_run [(.iload 4, 0, 0, 0, .null), (.bipush 12, 0, 0, 0, .int (12 : Int32)), (.aload_n 0, 0, 0, 0, .null), (.getfield 13, 0, 0, 14, .null), (.bipush 14, 0, 0, 0, .int (14 : Int32)), (.iload_n 1, 0, 0, 0, .null), (.iadd, 0, 0, 0, .null), (.iaload, 0, 2, 0, .null), (.isub, 0, 0, 0, .null), (.imul, 0, 0, 0, .null), (.istore 4, 0, 0, 0, .null)] [] (WW' := [w_Mo G a0 s0]) (lv' := [some (.ref (a0 0)), some (.int x1), some (.int x2), some (.int x3), some (.int (x4 * ((12 : Int32) - ((Mo_now s0) ((14 : Int32) + x1).toNatClampNeg)))), some (.int x5), some (.int x6)]) (pc' := 69) (st' := []) (by decide +kernel) rfl rfl ⟨trivial, trivial, trivial, ⟨rfl, rfl, zw_6_43⟩, trivial, trivial, trivial, ⟨rfl, rfl, h8⟩, trivial, trivial, trivial, trivial⟩ ?_
    refine zr_eq (WW2 := [w_Mo G a0 s0]) (lv2 := [some (.ref (a0 0)), some (.int x1), some (.int x2), some (.int x3), some (.int y9), some (.int x5), some (.int x6)]) (st2 := []) rfl (by rw [e9]) rfl ?_
    refine zr_run [(.iload 5, 0, 0, 0, .null), (.bipush 12, 0, 0, 0, .int (12 : Int32)), (.imul, 0, 0, 0, .null), (.istore 5, 0, 0, 0, .null), (.iinc 6 1, 0, 0, 0, .int (1 : Int32))] [] (WW' := [w_Mo G a0 s0]) (lv' := [some (.ref (a0 0)), some (.int x1), some (.int x2), some (.int x3), some (.int y9), some (.int (x5 * (12 : Int32))), some (.int (x6 + (1 : Int32)))]) (pc' := 79) (st' := []) (by decide +kernel) rfl rfl ⟨trivial, trivial, trivial, trivial, trivial, trivial⟩ ?_
    refine zr_goto (off := -33) (tgt := 46) (by decide +kernel) (by decide) ?_
    exact hk46 s0 x1 x2 x3 y9 (x5 * (12 : Int32)) (x6 + (1 : Int32)) hf
  · have hf := ziff hf hc
    refine zr_run [(.iload_n 3, 0, 0, 0, .null)] [] (WW' := [w_Mo G a0 s0]) (lv' := [some (.ref (a0 0)), some (.int x1), some (.int x2), some (.int x3), some (.int x4), some (.int x5), some (.int x6)]) (pc' := 83) (st' := [.int x3]) (by decide +kernel) rfl rfl ⟨trivial, trivial⟩ ?_
    refine zr_if_ne (off := 11) (tgt := 94) (by decide +kernel) (by decide) (fun hc => ?_) (fun hc => ?_)
    · have hf := zift hf hc
      refine zr_run [(.iload 5, 0, 0, 0, .null), (.iload 4, 0, 0, 0, .null), (.isub, 0, 0, 0, .null)] [] (WW' := [w_Mo G a0 s0]) (lv' := [some (.ref (a0 0)), some (.int x1), some (.int x2), some (.int x3), some (.int x4), some (.int x5), some (.int x6)]) (pc' := 91) (st' := [.int (x5 - x4)]) (by decide +kernel) rfl rfl ⟨trivial, trivial, trivial, trivial⟩ ?_
      refine zr_goto (off := 5) (tgt := 96) (by decide +kernel) (by decide) ?_
      refine zr_run [] [0, 1, 2, 3, 6] (WW' := [w_Mo G a0 s0]) (lv' := [none, none, none, none, some (.int x4), some (.int x5), none]) (pc' := 96) (st' := [.int (x5 - x4)]) (by decide +kernel) rfl rfl trivial ?_
      exact t_X12_ship_b96 l G a0 W0 r s0 x4 x5 (x5 - x4) hf
    · have hf := ziff hf hc
      refine zr_run [(.iload 5, 0, 0, 0, .null)] [0, 1, 2, 3, 6] (WW' := [w_Mo G a0 s0]) (lv' := [none, none, none, none, some (.int x4), some (.int x5), none]) (pc' := 96) (st' := [.int x5]) (by decide +kernel) rfl rfl ⟨trivial, trivial⟩ ?_
      exact t_X12_ship_b96 l G a0 W0 r s0 x4 x5 x5 hf
theorem t_X12_ship_L46 (l : Launch) (G : zj_G) (a0 : Nat → Nat) (W0 : List va_W) (r : Int32 × MoT)    : ∀ (n : Nat) (s0 : MoT) (x1 : Int32) (x2 : Int32) (x3 : Int32) (x4 : Int32) (x5 : Int32) (x6 : Int32), f_X12_ship_L46 n s0 x1 x2 x3 x4 x5 x6 = some r → zj_J l G M_X12_ship W0 (zj_ret G M_X12_ship W0 (some (.int r.1)) (fun _ => [w_Mo G a0 r.2])) 0 0 [w_Mo G a0 s0] [some (.ref (a0 0)), some (.int x1), some (.int x2), some (.int x3), some (.int x4), some (.int x5), some (.int x6)] 46 [] := by
  intro n
  induction n with
  | zero => intro s0 x1 x2 x3 x4 x5 x6 hf; exact nomatch (show none = some r from hf)
  | succ n ih => intro s0 x1 x2 x3 x4 x5 x6 hf; exact t_X12_ship_H46 l G a0 W0 r s0  (f_X12_ship_L46 n)  ih x1 x2 x3 x4 x5 x6  hf
set_option maxRecDepth 100000 in
set_option maxHeartbeats 4000000 in
theorem c_X12_ship (l : Launch) (G : zj_G) (a0 : Nat → Nat) (s0 : MoT) (x1 : Int32) (x2 : Int32) (x3 : Int32) (r : Int32 × MoT) (hf : f_X12_ship s0 x1 x2 x3 = some r) : zj_C l G M_X12_ship yX12_ship [w_Mo G a0 s0] [.ref (a0 0), .int x1, .int x2, .int x3] (some (.int r.1)) (fun _ => [w_Mo G a0 r.2]) := by
  have key : ∀ W0 : List va_W, zj_J l G M_X12_ship W0 (zj_ret G M_X12_ship W0 (some (.int r.1)) (fun _ => [w_Mo G a0 r.2])) 0 0 [w_Mo G a0 s0] [some (.ref (a0 0)), some (.int x1), some (.int x2), some (.int x3), none, none, none] 0 [] := by
    intro W0
    unfold f_X12_ship at hf
    obtain ⟨y1, e1, hf⟩ := zlet_of hf
    refine zr_run [(.aload_n 0, 0, 0, 0, .null), (.iconst 0, 0, 0, 0, .int (0 : Int32)), (.putfield 91, 0, 0, 0, .null)] [] (WW' := [w_Mo G a0 (Mo_s_thrown s0 (0 : Int32))]) (lv' := [some (.ref (a0 0)), some (.int x1), some (.int x2), some (.int x3), none, none, none]) (pc' := 5) (st' := []) (by decide +kernel) rfl rfl ⟨trivial, trivial, ⟨rfl, rfl, rfl, trivial, rfl, rfl, zw_6_29⟩, trivial⟩ ?_
    refine zr_eq (WW2 := [w_Mo G a0 y1]) (lv2 := [some (.ref (a0 0)), some (.int x1), some (.int x2), some (.int x3), none, none, none]) (st2 := []) (by rw [e1]) rfl rfl ?_
    obtain ⟨q2, e2, hf⟩ := zbi_of hf
    refine zr_run [(.aload_n 0, 0, 0, 0, .null), (.iload_n 1, 0, 0, 0, .null)] [] (WW' := [w_Mo G a0 y1]) (lv' := [some (.ref (a0 0)), some (.int x1), some (.int x2), some (.int x3), none, none, none]) (pc' := 7) (st' := [.int x1, .ref (a0 0)]) (by decide +kernel) rfl rfl ⟨trivial, trivial, trivial⟩ ?_
    refine zr_callV (c_X12_isPort l G a0 y1 x1 q2 e2) (WW' := fun _ => [w_Mo G a0 y1]) (st := []) (st' := [.int q2]) [0] rfl rfl (fun _ => Nat.le_of_ble_eq_true rfl) (fun _ => rfl) rfl rfl nm_X12_isPort zw_7_152 zw_7_154 zw_0_80 zw_1_18 zw_7_155 rfl rfl rfl (Nat.le_of_ble_eq_true rfl) ⟨Nat.le_of_ble_eq_true rfl, Nat.le_of_ble_eq_true rfl⟩ (by decide +kernel) (fun _ => ?_)
    refine zr_if_eq (off := 22) (tgt := 32) (by decide +kernel) (by decide) (fun hc => ?_) (fun hc => ?_)
    · have hf := zift hf hc
      obtain ⟨q3, e3, hf⟩ := zbi_of hf
      refine zr_run [(.aload_n 0, 0, 0, 0, .null)] [] (WW' := [w_Mo G a0 y1]) (lv' := [some (.ref (a0 0)), some (.int x1), some (.int x2), some (.int x3), none, none, none]) (pc' := 33) (st' := [.ref (a0 0)]) (by decide +kernel) rfl rfl ⟨trivial, trivial⟩ ?_
      refine zr_callV (c_X12_refuse l G a0 y1 q3 e3) (WW' := fun _ => [w_Mo G a0 q3.2]) (st := []) (st' := [.int q3.1]) [0] rfl rfl (fun _ => Nat.le_of_ble_eq_true rfl) (fun _ => rfl) rfl rfl nm_X12_refuse zw_7_132 zw_7_134 zw_0_77 zw_1_18 zw_7_135 rfl rfl rfl (Nat.le_of_ble_eq_true rfl) ⟨Nat.le_of_ble_eq_true rfl, Nat.le_of_ble_eq_true rfl⟩ (by decide +kernel) (fun _ => ?_)
      obtain rfl := Option.some.inj hf
      exact zr_iret (b0 := fun _ => 0) (by decide +kernel) rfl rfl rfl rfl rfl
    · have hf := ziff hf hc
      obtain ⟨q4, e4, hf⟩ := zbi_of hf
      refine zr_run [(.iload_n 2, 0, 0, 0, .null), (.iconst 0, 0, 0, 0, .int (0 : Int32)), (.bipush 8, 0, 0, 0, .int (8 : Int32))] [] (WW' := [w_Mo G a0 y1]) (lv' := [some (.ref (a0 0)), some (.int x1), some (.int x2), some (.int x3), none, none, none]) (pc' := 17) (st' := [.int (8 : Int32), .int (0 : Int32), .int x2]) (by decide +kernel) rfl rfl ⟨trivial, trivial, trivial, trivial⟩ ?_
      refine zr_callS (c_X12_isIn l G x2 (0 : Int32) (8 : Int32) q4 e4) (WW' := fun _ => [w_Mo G a0 y1]) (st := []) (st' := [.int q4]) [] rfl rfl (fun _ => Nat.le_of_ble_eq_true rfl) (fun _ => rfl) rfl rfl nm_X12_isIn zw_7_38 zw_7_39 zw_1_18 zw_7_40 rfl (Nat.le_of_ble_eq_true rfl) ⟨Nat.le_of_ble_eq_true rfl, Nat.le_of_ble_eq_true rfl⟩ (by decide +kernel) (fun _ => ?_)
      refine zr_if_eq (off := 12) (tgt := 32) (by decide +kernel) (by decide) (fun hc => ?_) (fun hc => ?_)
      · have hf := zift hf hc
        obtain ⟨q5, e5, hf⟩ := zbi_of hf
        refine zr_run [(.aload_n 0, 0, 0, 0, .null)] [] (WW' := [w_Mo G a0 y1]) (lv' := [some (.ref (a0 0)), some (.int x1), some (.int x2), some (.int x3), none, none, none]) (pc' := 33) (st' := [.ref (a0 0)]) (by decide +kernel) rfl rfl ⟨trivial, trivial⟩ ?_
        refine zr_callV (c_X12_refuse l G a0 y1 q5 e5) (WW' := fun _ => [w_Mo G a0 q5.2]) (st := []) (st' := [.int q5.1]) [0] rfl rfl (fun _ => Nat.le_of_ble_eq_true rfl) (fun _ => rfl) rfl rfl nm_X12_refuse zw_7_132 zw_7_134 zw_0_77 zw_1_18 zw_7_135 rfl rfl rfl (Nat.le_of_ble_eq_true rfl) ⟨Nat.le_of_ble_eq_true rfl, Nat.le_of_ble_eq_true rfl⟩ (by decide +kernel) (fun _ => ?_)
        obtain rfl := Option.some.inj hf
        exact zr_iret (b0 := fun _ => 0) (by decide +kernel) rfl rfl rfl rfl rfl
      · have hf := ziff hf hc
        obtain ⟨q6, e6, hf⟩ := zbi_of hf
        refine zr_run [(.iload_n 3, 0, 0, 0, .null), (.iconst 0, 0, 0, 0, .int (0 : Int32)), (.iconst 1, 0, 0, 0, .int (1 : Int32))] [] (WW' := [w_Mo G a0 y1]) (lv' := [some (.ref (a0 0)), some (.int x1), some (.int x2), some (.int x3), none, none, none]) (pc' := 26) (st' := [.int (1 : Int32), .int (0 : Int32), .int x3]) (by decide +kernel) rfl rfl ⟨trivial, trivial, trivial, trivial⟩ ?_
        refine zr_callS (c_X12_isIn l G x3 (0 : Int32) (1 : Int32) q6 e6) (WW' := fun _ => [w_Mo G a0 y1]) (st := []) (st' := [.int q6]) [] rfl rfl (fun _ => Nat.le_of_ble_eq_true rfl) (fun _ => rfl) rfl rfl nm_X12_isIn zw_7_38 zw_7_39 zw_1_18 zw_7_40 rfl (Nat.le_of_ble_eq_true rfl) ⟨Nat.le_of_ble_eq_true rfl, Nat.le_of_ble_eq_true rfl⟩ (by decide +kernel) (fun _ => ?_)
        refine zr_if_ne (off := 8) (tgt := 37) (by decide +kernel) (by decide) (fun hc => ?_) (fun hc => ?_)
        · have hf := zift hf hc
          obtain ⟨q7, e7, hf⟩ := zbi_of hf
          refine zr_run [(.aload_n 0, 0, 0, 0, .null)] [] (WW' := [w_Mo G a0 y1]) (lv' := [some (.ref (a0 0)), some (.int x1), some (.int x2), some (.int x3), none, none, none]) (pc' := 33) (st' := [.ref (a0 0)]) (by decide +kernel) rfl rfl ⟨trivial, trivial⟩ ?_
          refine zr_callV (c_X12_refuse l G a0 y1 q7 e7) (WW' := fun _ => [w_Mo G a0 q7.2]) (st := []) (st' := [.int q7.1]) [0] rfl rfl (fun _ => Nat.le_of_ble_eq_true rfl) (fun _ => rfl) rfl rfl nm_X12_refuse zw_7_132 zw_7_134 zw_0_77 zw_1_18 zw_7_135 rfl rfl rfl (Nat.le_of_ble_eq_true rfl) ⟨Nat.le_of_ble_eq_true rfl, Nat.le_of_ble_eq_true rfl⟩ (by decide +kernel) (fun _ => ?_)
          obtain rfl := Option.some.inj hf
          exact zr_iret (b0 := fun _ => 0) (by decide +kernel) rfl rfl rfl rfl rfl
        · have hf := ziff hf hc
          refine zr_run [(.iconst 1, 0, 0, 0, .int (1 : Int32)), (.istore 4, 0, 0, 0, .null), (.iconst 1, 0, 0, 0, .int (1 : Int32)), (.istore 5, 0, 0, 0, .null), (.iconst 0, 0, 0, 0, .int (0 : Int32)), (.istore 6, 0, 0, 0, .null)] [] (WW' := [w_Mo G a0 y1]) (lv' := [some (.ref (a0 0)), some (.int x1), some (.int x2), some (.int x3), some (.int (1 : Int32)), some (.int (1 : Int32)), some (.int (0 : Int32))]) (pc' := 46) (st' := []) (by decide +kernel) rfl rfl ⟨trivial, trivial, trivial, trivial, trivial, trivial, trivial⟩ ?_
          exact t_X12_ship_L46 l G a0 W0 r zFU y1 x1 x2 x3 (1 : Int32) (1 : Int32) (0 : Int32) hf
  exact zj_entry [some (.ref (a0 0)), some (.int x1), some (.int x2), some (.int x3), none, none, none] (by decide +kernel) rfl (by decide) (Nat.le_of_ble_eq_true rfl) rfl rfl (key _)
def M_X12_turns : zj_M := (RX12, cX12_turns, 7, (some .boolean), { frames := 1, cells := 0, slots := 0, locals := 22 }, false)
theorem nm_X12_turns : zj_nm yX12_turns 4 := ⟨by decide +kernel, by decide +kernel, by decide +kernel⟩
def f_X12_turns_b78  (s0 : MoT) (k3 : Int32 → Int32 → Int32 → Int32 → Int32 → Option (Int32)) (x1 : Int32) (x2 : Int32) (x3 : Int32) (x4 : Int32) (x5 : Int32) : Option (Int32) := k3 x1 x2 x3 x4 (x5 + (1 : Int32))
def f_X12_turns_b63  (s0 : MoT) (k3 : Int32 → Int32 → Int32 → Int32 → Int32 → Option (Int32)) (x1 : Int32) (x2 : Int32) (x3 : Int32) (x4 : Int32) (x5 : Int32) (z0 : Int32) : Option (Int32) := ((f_X12_isIn z0 (0 : Int32) x4).bind fun q3 => (if q3 = 0 then some (0 : Int32) else f_X12_turns_b78 s0 k3 x1 x2 x3 x4 x5))
def f_X12_turns_b134  (s0 : MoT)   : Option (Int32) := some (0 : Int32)
def f_X12_turns_H3  (s0 : MoT) (k3 : Int32 → Int32 → Int32 → Int32 → Int32 → Option (Int32)) (x1 : Int32) (x2 : Int32) (x3 : Int32) (x4 : Int32) (x5 : Int32) : Option (Int32) := (if (x5 + (1 : Int32)) < x1 then (if x5 = x2 then f_X12_turns_b78 s0 k3 x1 x2 x3 x4 x5 else (if x5 < x2 then (if zb_in (x5 + (1 : Int32)) 940 = true then (if zb_in x5 940 = true then f_X12_turns_b63 s0 k3 x1 x2 x3 x4 x5 (((Mo_tape s0) (x5 + (1 : Int32)).toNatClampNeg) - ((Mo_tape s0) x5.toNatClampNeg)) else none) else none) else (if zb_in x5 940 = true then (if zb_in (x5 + (1 : Int32)) 940 = true then f_X12_turns_b63 s0 k3 x1 x2 x3 x4 x5 (((Mo_tape s0) x5.toNatClampNeg) - ((Mo_tape s0) (x5 + (1 : Int32)).toNatClampNeg)) else none) else none))) else (if zb_in x2 940 = true then (if x3 < ((Mo_tape s0) x2.toNatClampNeg) then f_X12_turns_b134 s0 else (if zb_in (x2 + (1 : Int32)) 940 = true then (if x3 < ((Mo_tape s0) (x2 + (1 : Int32)).toNatClampNeg) then f_X12_turns_b134 s0 else (if zb_in x2 940 = true then (if zb_in (x2 + (1 : Int32)) 940 = true then (if x4 < ((((2 : Int32) * x3) - ((Mo_tape s0) x2.toNatClampNeg)) - ((Mo_tape s0) (x2 + (1 : Int32)).toNatClampNeg)) then f_X12_turns_b134 s0 else some (1 : Int32)) else none) else none)) else none)) else none))
def f_X12_turns_L3  (s0 : MoT)  : Nat → Int32 → Int32 → Int32 → Int32 → Int32 → Option (Int32)
  | 0 => fun _ _ _ _ _ => none
  | n + 1 => fun x1 x2 x3 x4 x5 => f_X12_turns_H3 s0 (f_X12_turns_L3 s0 n) x1 x2 x3 x4 x5
def f_X12_turns  (s0 : MoT) (x1 : Int32) (x2 : Int32) (x3 : Int32) (x4 : Int32) : Option (Int32) := f_X12_turns_L3 s0 zFU x1 x2 x3 x4 (0 : Int32)
set_option maxRecDepth 100000 in
set_option maxHeartbeats 4000000 in
theorem t_X12_turns_b78 (l : Launch) (G : zj_G) (a0 : Nat → Nat) (W0 : List va_W) (r : Int32) (s0 : MoT) (k3 : Int32 → Int32 → Int32 → Int32 → Int32 → Option (Int32)) (hk3 : ∀ (x1 : Int32) (x2 : Int32) (x3 : Int32) (x4 : Int32) (x5 : Int32), k3 x1 x2 x3 x4 x5 = some r → zj_J l G M_X12_turns W0 (zj_ret G M_X12_turns W0 (some (.int r)) (fun _ => [w_Mo G a0 s0])) 0 0 [w_Mo G a0 s0] [some (.ref (a0 0)), some (.int x1), some (.int x2), some (.int x3), some (.int x4), some (.int x5), none] 3 []) (x1 : Int32) (x2 : Int32) (x3 : Int32) (x4 : Int32) (x5 : Int32) (hf : f_X12_turns_b78 s0 k3 x1 x2 x3 x4 x5 = some r) : zj_J l G M_X12_turns W0 (zj_ret G M_X12_turns W0 (some (.int r)) (fun _ => [w_Mo G a0 s0])) 0 0 [w_Mo G a0 s0] [some (.ref (a0 0)), some (.int x1), some (.int x2), some (.int x3), some (.int x4), some (.int x5), none] 78 [] := by
  unfold f_X12_turns_b78 at hf
  refine zr_run [(.iinc 5 1, 0, 0, 0, .int (1 : Int32))] [] (WW' := [w_Mo G a0 s0]) (lv' := [some (.ref (a0 0)), some (.int x1), some (.int x2), some (.int x3), some (.int x4), some (.int (x5 + (1 : Int32))), none]) (pc' := 81) (st' := []) (by decide +kernel) rfl rfl ⟨trivial, trivial⟩ ?_
  refine zr_goto (off := -78) (tgt := 3) (by decide +kernel) (by decide) ?_
  exact hk3 x1 x2 x3 x4 (x5 + (1 : Int32)) hf
set_option maxRecDepth 100000 in
set_option maxHeartbeats 4000000 in
theorem t_X12_turns_b63 (l : Launch) (G : zj_G) (a0 : Nat → Nat) (W0 : List va_W) (r : Int32) (s0 : MoT) (k3 : Int32 → Int32 → Int32 → Int32 → Int32 → Option (Int32)) (hk3 : ∀ (x1 : Int32) (x2 : Int32) (x3 : Int32) (x4 : Int32) (x5 : Int32), k3 x1 x2 x3 x4 x5 = some r → zj_J l G M_X12_turns W0 (zj_ret G M_X12_turns W0 (some (.int r)) (fun _ => [w_Mo G a0 s0])) 0 0 [w_Mo G a0 s0] [some (.ref (a0 0)), some (.int x1), some (.int x2), some (.int x3), some (.int x4), some (.int x5), none] 3 []) (x1 : Int32) (x2 : Int32) (x3 : Int32) (x4 : Int32) (x5 : Int32) (z0 : Int32) (hf : f_X12_turns_b63 s0 k3 x1 x2 x3 x4 x5 z0 = some r) : zj_J l G M_X12_turns W0 (zj_ret G M_X12_turns W0 (some (.int r)) (fun _ => [w_Mo G a0 s0])) 0 0 [w_Mo G a0 s0] [some (.ref (a0 0)), some (.int x1), some (.int x2), some (.int x3), some (.int x4), some (.int x5), none] 63 [.int z0] := by
  unfold f_X12_turns_b63 at hf
  obtain ⟨q3, e3, hf⟩ := zbi_of hf
  refine zr_run [(.istore 6, 0, 0, 0, .null), (.iload 6, 0, 0, 0, .null), (.iconst 0, 0, 0, 0, .int (0 : Int32)), (.iload 4, 0, 0, 0, .null)] [] (WW' := [w_Mo G a0 s0]) (lv' := [some (.ref (a0 0)), some (.int x1), some (.int x2), some (.int x3), some (.int x4), some (.int x5), some (.int z0)]) (pc' := 70) (st' := [.int x4, .int (0 : Int32), .int z0]) (by decide +kernel) rfl rfl ⟨trivial, trivial, trivial, trivial, trivial⟩ ?_
  refine zr_callS (c_X12_isIn l G z0 (0 : Int32) x4 q3 e3) (WW' := fun _ => [w_Mo G a0 s0]) (st := []) (st' := [.int q3]) [] rfl rfl (fun _ => Nat.le_of_ble_eq_true rfl) (fun _ => rfl) rfl rfl nm_X12_isIn zw_7_38 zw_7_39 zw_1_18 zw_7_40 rfl (Nat.le_of_ble_eq_true rfl) ⟨Nat.le_of_ble_eq_true rfl, Nat.le_of_ble_eq_true rfl⟩ (by decide +kernel) (fun _ => ?_)
  refine zr_if_ne (off := 5) (tgt := 78) (by decide +kernel) (by decide) (fun hc => ?_) (fun hc => ?_)
  · have hf := zift hf hc
    refine zr_run [(.iconst 0, 0, 0, 0, .int (0 : Int32))] [] (WW' := [w_Mo G a0 s0]) (lv' := [some (.ref (a0 0)), some (.int x1), some (.int x2), some (.int x3), some (.int x4), some (.int x5), some (.int z0)]) (pc' := 77) (st' := [.int (0 : Int32)]) (by decide +kernel) rfl rfl ⟨trivial, trivial⟩ ?_
    obtain rfl := Option.some.inj hf
    exact zr_zret (by decide) (b0 := fun _ => 0) (by decide +kernel) rfl rfl rfl rfl rfl
  · have hf := ziff hf hc
    refine zr_run [] [6] (WW' := [w_Mo G a0 s0]) (lv' := [some (.ref (a0 0)), some (.int x1), some (.int x2), some (.int x3), some (.int x4), some (.int x5), none]) (pc' := 78) (st' := []) (by decide +kernel) rfl rfl trivial ?_
    exact t_X12_turns_b78 l G a0 W0 r s0 k3 hk3 x1 x2 x3 x4 x5 hf
set_option maxRecDepth 100000 in
set_option maxHeartbeats 4000000 in
theorem t_X12_turns_b134 (l : Launch) (G : zj_G) (a0 : Nat → Nat) (W0 : List va_W) (r : Int32) (s0 : MoT)    (hf : f_X12_turns_b134 s0 = some r) : zj_J l G M_X12_turns W0 (zj_ret G M_X12_turns W0 (some (.int r)) (fun _ => [w_Mo G a0 s0])) 0 0 [w_Mo G a0 s0] [none, none, none, none, none, none, none] 134 [] := by
  unfold f_X12_turns_b134 at hf
  refine zr_run [(.iconst 0, 0, 0, 0, .int (0 : Int32))] [] (WW' := [w_Mo G a0 s0]) (lv' := [none, none, none, none, none, none, none]) (pc' := 135) (st' := [.int (0 : Int32)]) (by decide +kernel) rfl rfl ⟨trivial, trivial⟩ ?_
  obtain rfl := Option.some.inj hf
  exact zr_zret (by decide) (b0 := fun _ => 0) (by decide +kernel) rfl rfl rfl rfl rfl
set_option maxRecDepth 100000 in
set_option maxHeartbeats 4000000 in
theorem t_X12_turns_H3 (l : Launch) (G : zj_G) (a0 : Nat → Nat) (W0 : List va_W) (r : Int32) (s0 : MoT) (k3 : Int32 → Int32 → Int32 → Int32 → Int32 → Option (Int32)) (hk3 : ∀ (x1 : Int32) (x2 : Int32) (x3 : Int32) (x4 : Int32) (x5 : Int32), k3 x1 x2 x3 x4 x5 = some r → zj_J l G M_X12_turns W0 (zj_ret G M_X12_turns W0 (some (.int r)) (fun _ => [w_Mo G a0 s0])) 0 0 [w_Mo G a0 s0] [some (.ref (a0 0)), some (.int x1), some (.int x2), some (.int x3), some (.int x4), some (.int x5), none] 3 []) (x1 : Int32) (x2 : Int32) (x3 : Int32) (x4 : Int32) (x5 : Int32) (hf : f_X12_turns_H3 s0 k3 x1 x2 x3 x4 x5 = some r) : zj_J l G M_X12_turns W0 (zj_ret G M_X12_turns W0 (some (.int r)) (fun _ => [w_Mo G a0 s0])) 0 0 [w_Mo G a0 s0] [some (.ref (a0 0)), some (.int x1), some (.int x2), some (.int x3), some (.int x4), some (.int x5), none] 3 [] := by
  unfold f_X12_turns_H3 at hf
  refine zr_run [(.iload 5, 0, 0, 0, .null), (.iconst 1, 0, 0, 0, .int (1 : Int32)), (.iadd, 0, 0, 0, .null), (.iload_n 1, 0, 0, 0, .null)] [] (WW' := [w_Mo G a0 s0]) (lv' := [some (.ref (a0 0)), some (.int x1), some (.int x2), some (.int x3), some (.int x4), some (.int x5), none]) (pc' := 8) (st' := [.int x1, .int (x5 + (1 : Int32))]) (by decide +kernel) rfl rfl ⟨trivial, trivial, trivial, trivial, trivial⟩ ?_
  refine zr_icmp_ge (off := 76) (tgt := 84) (by decide +kernel) (by decide) (fun hc => ?_) (fun hc => ?_)
  · have hf := zift hf hc
    refine zr_run [(.iload 5, 0, 0, 0, .null), (.iload_n 2, 0, 0, 0, .null)] [] (WW' := [w_Mo G a0 s0]) (lv' := [some (.ref (a0 0)), some (.int x1), some (.int x2), some (.int x3), some (.int x4), some (.int x5), none]) (pc' := 14) (st' := [.int x2, .int x5]) (by decide +kernel) rfl rfl ⟨trivial, trivial, trivial⟩ ?_
    refine zr_icmp_ne (off := 6) (tgt := 20) (by decide +kernel) (by decide) (fun hc => ?_) (fun hc => ?_)
    · have hf := zift hf hc
      refine zr_goto (off := 61) (tgt := 78) (by decide +kernel) (by decide) ?_
      exact t_X12_turns_b78 l G a0 W0 r s0 k3 hk3 x1 x2 x3 x4 x5 hf
    · have hf := ziff hf hc
      refine zr_run [(.iload 5, 0, 0, 0, .null), (.iload_n 2, 0, 0, 0, .null)] [] (WW' := [w_Mo G a0 s0]) (lv' := [some (.ref (a0 0)), some (.int x1), some (.int x2), some (.int x3), some (.int x4), some (.int x5), none]) (pc' := 23) (st' := [.int x2, .int x5]) (by decide +kernel) rfl rfl ⟨trivial, trivial, trivial⟩ ?_
      refine zr_icmp_ge (off := 23) (tgt := 46) (by decide +kernel) (by decide) (fun hc => ?_) (fun hc => ?_)
      · have hf := zift hf hc
        obtain ⟨h1, hf⟩ := zck_of hf
        obtain ⟨h2, hf⟩ := zck_of hf
        refine zr_run [(.aload_n 0, 0, 0, 0, .null), (.getfield 7, 0, 0, 1, .null), (.iload 5, 0, 0, 0, .null), (.iconst 1, 0, 0, 0, .int (1 : Int32)), (.iadd, 0, 0, 0, .null), (.iaload, 0, 1, 0, .null), (.aload_n 0, 0, 0, 0, .null), (.getfield 7, 0, 0, 1, .null), (.iload 5, 0, 0, 0, .null), (.iaload, 0, 1, 0, .null), (.isub, 0, 0, 0, .null)] [] (WW' := [w_Mo G a0 s0]) (lv' := [some (.ref (a0 0)), some (.int x1), some (.int x2), some (.int x3), some (.int x4), some (.int x5), none]) (pc' := 43) (st' := [.int (((Mo_tape s0) (x5 + (1 : Int32)).toNatClampNeg) - ((Mo_tape s0) x5.toNatClampNeg))]) (by decide +kernel) rfl rfl ⟨trivial, ⟨rfl, rfl, zw_6_30⟩, trivial, trivial, trivial, ⟨rfl, rfl, h1⟩, trivial, ⟨rfl, rfl, zw_6_30⟩, trivial, ⟨rfl, rfl, h2⟩, trivial, trivial⟩ ?_
        refine zr_goto (off := 20) (tgt := 63) (by decide +kernel) (by decide) ?_
        exact t_X12_turns_b63 l G a0 W0 r s0 k3 hk3 x1 x2 x3 x4 x5 (((Mo_tape s0) (x5 + (1 : Int32)).toNatClampNeg) - ((Mo_tape s0) x5.toNatClampNeg)) hf
      · have hf := ziff hf hc
        obtain ⟨h4, hf⟩ := zck_of hf
        obtain ⟨h5, hf⟩ := zck_of hf
        refine zr_run [(.aload_n 0, 0, 0, 0, .null), (.getfield 7, 0, 0, 1, .null), (.iload 5, 0, 0, 0, .null), (.iaload, 0, 1, 0, .null), (.aload_n 0, 0, 0, 0, .null), (.getfield 7, 0, 0, 1, .null), (.iload 5, 0, 0, 0, .null), (.iconst 1, 0, 0, 0, .int (1 : Int32)), (.iadd, 0, 0, 0, .null), (.iaload, 0, 1, 0, .null), (.isub, 0, 0, 0, .null)] [] (WW' := [w_Mo G a0 s0]) (lv' := [some (.ref (a0 0)), some (.int x1), some (.int x2), some (.int x3), some (.int x4), some (.int x5), none]) (pc' := 63) (st' := [.int (((Mo_tape s0) x5.toNatClampNeg) - ((Mo_tape s0) (x5 + (1 : Int32)).toNatClampNeg))]) (by decide +kernel) rfl rfl ⟨trivial, ⟨rfl, rfl, zw_6_30⟩, trivial, ⟨rfl, rfl, h4⟩, trivial, ⟨rfl, rfl, zw_6_30⟩, trivial, trivial, trivial, ⟨rfl, rfl, h5⟩, trivial, trivial⟩ ?_
        exact t_X12_turns_b63 l G a0 W0 r s0 k3 hk3 x1 x2 x3 x4 x5 (((Mo_tape s0) x5.toNatClampNeg) - ((Mo_tape s0) (x5 + (1 : Int32)).toNatClampNeg)) hf
  · have hf := ziff hf hc
    obtain ⟨h6, hf⟩ := zck_of hf
    refine zr_run [(.iload_n 3, 0, 0, 0, .null), (.aload_n 0, 0, 0, 0, .null), (.getfield 7, 0, 0, 1, .null), (.iload_n 2, 0, 0, 0, .null), (.iaload, 0, 1, 0, .null)] [] (WW' := [w_Mo G a0 s0]) (lv' := [some (.ref (a0 0)), some (.int x1), some (.int x2), some (.int x3), some (.int x4), some (.int x5), none]) (pc' := 91) (st' := [.int ((Mo_tape s0) x2.toNatClampNeg), .int x3]) (by decide +kernel) rfl rfl ⟨trivial, trivial, ⟨rfl, rfl, zw_6_30⟩, trivial, ⟨rfl, rfl, h6⟩, trivial⟩ ?_
    refine zr_icmp_lt (off := 43) (tgt := 134) (by decide +kernel) (by decide) (fun hc => ?_) (fun hc => ?_)
    · have hf := zift hf hc
      refine zr_run [] [0, 1, 2, 3, 4, 5] (WW' := [w_Mo G a0 s0]) (lv' := [none, none, none, none, none, none, none]) (pc' := 134) (st' := []) (by decide +kernel) rfl rfl trivial ?_
      exact t_X12_turns_b134 l G a0 W0 r s0 hf
    · have hf := ziff hf hc
      obtain ⟨h7, hf⟩ := zck_of hf
      refine zr_run [(.iload_n 3, 0, 0, 0, .null), (.aload_n 0, 0, 0, 0, .null), (.getfield 7, 0, 0, 1, .null), (.iload_n 2, 0, 0, 0, .null), (.iconst 1, 0, 0, 0, .int (1 : Int32)), (.iadd, 0, 0, 0, .null), (.iaload, 0, 1, 0, .null)] [] (WW' := [w_Mo G a0 s0]) (lv' := [some (.ref (a0 0)), some (.int x1), some (.int x2), some (.int x3), some (.int x4), some (.int x5), none]) (pc' := 103) (st' := [.int ((Mo_tape s0) (x2 + (1 : Int32)).toNatClampNeg), .int x3]) (by decide +kernel) rfl rfl ⟨trivial, trivial, ⟨rfl, rfl, zw_6_30⟩, trivial, trivial, trivial, ⟨rfl, rfl, h7⟩, trivial⟩ ?_
      refine zr_icmp_lt (off := 31) (tgt := 134) (by decide +kernel) (by decide) (fun hc => ?_) (fun hc => ?_)
      · have hf := zift hf hc
        refine zr_run [] [0, 1, 2, 3, 4, 5] (WW' := [w_Mo G a0 s0]) (lv' := [none, none, none, none, none, none, none]) (pc' := 134) (st' := []) (by decide +kernel) rfl rfl trivial ?_
        exact t_X12_turns_b134 l G a0 W0 r s0 hf
      · have hf := ziff hf hc
        obtain ⟨h8, hf⟩ := zck_of hf
        obtain ⟨h9, hf⟩ := zck_of hf
        refine zr_run [(.iconst 2, 0, 0, 0, .int (2 : Int32)), (.iload_n 3, 0, 0, 0, .null), (.imul, 0, 0, 0, .null), (.aload_n 0, 0, 0, 0, .null), (.getfield 7, 0, 0, 1, .null), (.iload_n 2, 0, 0, 0, .null), (.iaload, 0, 1, 0, .null), (.isub, 0, 0, 0, .null), (.aload_n 0, 0, 0, 0, .null), (.getfield 7, 0, 0, 1, .null), (.iload_n 2, 0, 0, 0, .null), (.iconst 1, 0, 0, 0, .int (1 : Int32)), (.iadd, 0, 0, 0, .null), (.iaload, 0, 1, 0, .null), (.isub, 0, 0, 0, .null), (.iload 4, 0, 0, 0, .null)] [] (WW' := [w_Mo G a0 s0]) (lv' := [some (.ref (a0 0)), some (.int x1), some (.int x2), some (.int x3), some (.int x4), some (.int x5), none]) (pc' := 127) (st' := [.int x4, .int ((((2 : Int32) * x3) - ((Mo_tape s0) x2.toNatClampNeg)) - ((Mo_tape s0) (x2 + (1 : Int32)).toNatClampNeg))]) (by decide +kernel) rfl rfl ⟨trivial, trivial, trivial, trivial, ⟨rfl, rfl, zw_6_30⟩, trivial, ⟨rfl, rfl, h8⟩, trivial, trivial, ⟨rfl, rfl, zw_6_30⟩, trivial, trivial, trivial, ⟨rfl, rfl, h9⟩, trivial, trivial, trivial⟩ ?_
        refine zr_icmp_gt (off := 7) (tgt := 134) (by decide +kernel) (by decide) (fun hc => ?_) (fun hc => ?_)
        · have hf := zift hf hc
          refine zr_run [] [0, 1, 2, 3, 4, 5] (WW' := [w_Mo G a0 s0]) (lv' := [none, none, none, none, none, none, none]) (pc' := 134) (st' := []) (by decide +kernel) rfl rfl trivial ?_
          exact t_X12_turns_b134 l G a0 W0 r s0 hf
        · have hf := ziff hf hc
          refine zr_run [(.iconst 1, 0, 0, 0, .int (1 : Int32))] [] (WW' := [w_Mo G a0 s0]) (lv' := [some (.ref (a0 0)), some (.int x1), some (.int x2), some (.int x3), some (.int x4), some (.int x5), none]) (pc' := 131) (st' := [.int (1 : Int32)]) (by decide +kernel) rfl rfl ⟨trivial, trivial⟩ ?_
          refine zr_goto (off := 4) (tgt := 135) (by decide +kernel) (by decide) ?_
          obtain rfl := Option.some.inj hf
          exact zr_zret (by decide) (b0 := fun _ => 0) (by decide +kernel) rfl rfl rfl rfl rfl
theorem t_X12_turns_L3 (l : Launch) (G : zj_G) (a0 : Nat → Nat) (W0 : List va_W) (r : Int32) (s0 : MoT)   : ∀ (n : Nat) (x1 : Int32) (x2 : Int32) (x3 : Int32) (x4 : Int32) (x5 : Int32), f_X12_turns_L3 s0 n x1 x2 x3 x4 x5 = some r → zj_J l G M_X12_turns W0 (zj_ret G M_X12_turns W0 (some (.int r)) (fun _ => [w_Mo G a0 s0])) 0 0 [w_Mo G a0 s0] [some (.ref (a0 0)), some (.int x1), some (.int x2), some (.int x3), some (.int x4), some (.int x5), none] 3 [] := by
  intro n
  induction n with
  | zero => intro x1 x2 x3 x4 x5 hf; exact nomatch (show none = some r from hf)
  | succ n ih => intro x1 x2 x3 x4 x5 hf; exact t_X12_turns_H3 l G a0 W0 r s0  (f_X12_turns_L3 s0 n)  ih x1 x2 x3 x4 x5  hf
set_option maxRecDepth 100000 in
set_option maxHeartbeats 4000000 in
theorem c_X12_turns (l : Launch) (G : zj_G) (a0 : Nat → Nat) (s0 : MoT) (x1 : Int32) (x2 : Int32) (x3 : Int32) (x4 : Int32) (r : Int32) (hf : f_X12_turns s0 x1 x2 x3 x4 = some r) : zj_C l G M_X12_turns yX12_turns [w_Mo G a0 s0] [.ref (a0 0), .int x1, .int x2, .int x3, .int x4] (some (.int r)) (fun _ => [w_Mo G a0 s0]) := by
  have key : ∀ W0 : List va_W, zj_J l G M_X12_turns W0 (zj_ret G M_X12_turns W0 (some (.int r)) (fun _ => [w_Mo G a0 s0])) 0 0 [w_Mo G a0 s0] [some (.ref (a0 0)), some (.int x1), some (.int x2), some (.int x3), some (.int x4), none, none] 0 [] := by
    intro W0
    unfold f_X12_turns at hf
    refine zr_run [(.iconst 0, 0, 0, 0, .int (0 : Int32)), (.istore 5, 0, 0, 0, .null)] [] (WW' := [w_Mo G a0 s0]) (lv' := [some (.ref (a0 0)), some (.int x1), some (.int x2), some (.int x3), some (.int x4), some (.int (0 : Int32)), none]) (pc' := 3) (st' := []) (by decide +kernel) rfl rfl ⟨trivial, trivial, trivial⟩ ?_
    exact t_X12_turns_L3 l G a0 W0 r s0 zFU x1 x2 x3 x4 (0 : Int32) hf
  exact zj_entry [some (.ref (a0 0)), some (.int x1), some (.int x2), some (.int x3), some (.int x4), none, none] (by decide +kernel) rfl (by decide) (Nat.le_of_ble_eq_true rfl) rfl rfl (key _)
def M_X12_turned : zj_M := (RX12, cX12_turned, 8, (some .int), { frames := 2, cells := 0, slots := 0, locals := 48 }, false)
theorem nm_X12_turned : zj_nm yX12_turned 1 := ⟨by decide +kernel, by decide +kernel, by decide +kernel⟩
def f_X12_turned_b169  (s0 : MoT) (k89 : MoT → Int32 → Int32 → Int32 → Int32 → Int32 → Option (Int32 × MoT)) (x1 : Int32) (x2 : Int32) (x3 : Int32) (x4 : Int32) (x5 : Int32) : Option (Int32 × MoT) := k89 s0 x1 x2 x3 x4 (x5 + (1 : Int32))
def f_X12_turned_b160  (s0 : MoT) (k89 : MoT → Int32 → Int32 → Int32 → Int32 → Int32 → Option (Int32 × MoT)) (x1 : Int32) (x2 : Int32) (x3 : Int32) (x4 : Int32) (x5 : Int32) : Option (Int32 × MoT) := (zlet (Mo_s_turnedGreatest s0 x5) fun y11 => f_X12_turned_b169 y11 k89 x1 x2 x3 (x4 + (1 : Int32)) x5)
def f_X12_turned_b141  (s0 : MoT) (k89 : MoT → Int32 → Int32 → Int32 → Int32 → Int32 → Option (Int32 × MoT)) (x1 : Int32) (x2 : Int32) (x3 : Int32) (x4 : Int32) (x5 : Int32) (x6 : Int32) : Option (Int32 × MoT) := (if x6 = 0 then f_X12_turned_b169 s0 k89 x1 x2 x3 x4 x5 else (if x4 = 0 then (zlet (Mo_s_turnedLeast s0 x5) fun y10 => f_X12_turned_b160 y10 k89 x1 x2 x3 x4 x5) else f_X12_turned_b160 s0 k89 x1 x2 x3 x4 x5))
def f_X12_turned_H101  (s0 : MoT) (k89 : MoT → Int32 → Int32 → Int32 → Int32 → Int32 → Option (Int32 × MoT)) (k101 : MoT → Int32 → Int32 → Int32 → Int32 → Int32 → Int32 → Int32 → Option (Int32 × MoT)) (x1 : Int32) (x2 : Int32) (x3 : Int32) (x4 : Int32) (x5 : Int32) (x6 : Int32) (x7 : Int32) : Option (Int32 × MoT) := (if (x7 + (1 : Int32)) < x2 then (if x6 = 0 then (if zb_in ((230 : Int32) + x1) 758 = true then ((f_X12_turns s0 x2 x7 x5 ((Mo_now s0) ((230 : Int32) + x1).toNatClampNeg)).bind fun q9 => k101 s0 x1 x2 x3 x4 x5 q9 (x7 + (1 : Int32))) else none) else f_X12_turned_b141 s0 k89 x1 x2 x3 x4 x5 x6) else f_X12_turned_b141 s0 k89 x1 x2 x3 x4 x5 x6)
def f_X12_turned_L101   (k89 : MoT → Int32 → Int32 → Int32 → Int32 → Int32 → Option (Int32 × MoT)) : Nat → MoT → Int32 → Int32 → Int32 → Int32 → Int32 → Int32 → Int32 → Option (Int32 × MoT)
  | 0 => fun _ _ _ _ _ _ _ _ => none
  | n + 1 => fun s0 x1 x2 x3 x4 x5 x6 x7 => f_X12_turned_H101 s0 k89 (f_X12_turned_L101 k89 n) x1 x2 x3 x4 x5 x6 x7
def f_X12_turned_H89  (s0 : MoT) (k89 : MoT → Int32 → Int32 → Int32 → Int32 → Int32 → Option (Int32 × MoT)) (x1 : Int32) (x2 : Int32) (x3 : Int32) (x4 : Int32) (x5 : Int32) : Option (Int32 × MoT) := (if x3 < x5 then some (x4, s0) else f_X12_turned_L101 k89 zFU s0 x1 x2 x3 x4 x5 (0 : Int32) (0 : Int32))
def f_X12_turned_L89    : Nat → MoT → Int32 → Int32 → Int32 → Int32 → Int32 → Option (Int32 × MoT)
  | 0 => fun _ _ _ _ _ _ => none
  | n + 1 => fun s0 x1 x2 x3 x4 x5 => f_X12_turned_H89 s0 (f_X12_turned_L89  n) x1 x2 x3 x4 x5
def f_X12_turned_H58  (s0 : MoT) (k58 : MoT → Int32 → Int32 → Int32 → Int32 → Option (Int32 × MoT)) (x1 : Int32) (x2 : Int32) (x3 : Int32) (x4 : Int32) : Option (Int32 × MoT) := (if x4 < x2 then (if zb_in x4 940 = true then (if x3 < ((Mo_tape s0) x4.toNatClampNeg) then some ((-1 : Int32), s0) else k58 s0 x1 x2 x3 (x4 + (1 : Int32))) else none) else f_X12_turned_L89 zFU s0 x1 x2 x3 (0 : Int32) (0 : Int32))
def f_X12_turned_L58    : Nat → MoT → Int32 → Int32 → Int32 → Int32 → Option (Int32 × MoT)
  | 0 => fun _ _ _ _ _ => none
  | n + 1 => fun s0 x1 x2 x3 x4 => f_X12_turned_H58 s0 (f_X12_turned_L58  n) x1 x2 x3 x4
def f_X12_turned  (s0 : MoT) (x1 : Int32) : Option (Int32 × MoT) := (zlet (Mo_s_thrown s0 (0 : Int32)) fun y1 => ((f_X12_take y1).bind fun q2 => ((f_X12_isMan q2.2 x1).bind fun q3 => (if q3 = 0 then some ((-1 : Int32), q2.2) else (if zb_in ((444 : Int32) + x1) 758 = true then (if ((Mo_now q2.2) ((444 : Int32) + x1).toNatClampNeg) = (1 : Int32) then ((f_X12_isIn q2.1 (2 : Int32) (20 : Int32)).bind fun q5 => (if q5 = 0 then some ((-1 : Int32), q2.2) else (if zb_in ((480 : Int32) + x1) 758 = true then f_X12_turned_L58 zFU q2.2 x1 q2.1 ((Mo_now q2.2) ((480 : Int32) + x1).toNatClampNeg) (0 : Int32) else none))) else some ((-1 : Int32), q2.2)) else none)))))
set_option maxRecDepth 100000 in
set_option maxHeartbeats 4000000 in
theorem t_X12_turned_b169 (l : Launch) (G : zj_G) (a0 : Nat → Nat) (W0 : List va_W) (r : Int32 × MoT) (s0 : MoT) (k89 : MoT → Int32 → Int32 → Int32 → Int32 → Int32 → Option (Int32 × MoT)) (hk89 : ∀ (s0 : MoT) (x1 : Int32) (x2 : Int32) (x3 : Int32) (x4 : Int32) (x5 : Int32), k89 s0 x1 x2 x3 x4 x5 = some r → zj_J l G M_X12_turned W0 (zj_ret G M_X12_turned W0 (some (.int r.1)) (fun _ => [w_Mo G a0 r.2])) 0 0 [w_Mo G a0 s0] [some (.ref (a0 0)), some (.int x1), some (.int x2), some (.int x3), some (.int x4), some (.int x5), none, none] 89 []) (x1 : Int32) (x2 : Int32) (x3 : Int32) (x4 : Int32) (x5 : Int32) (hf : f_X12_turned_b169 s0 k89 x1 x2 x3 x4 x5 = some r) : zj_J l G M_X12_turned W0 (zj_ret G M_X12_turned W0 (some (.int r.1)) (fun _ => [w_Mo G a0 r.2])) 0 0 [w_Mo G a0 s0] [some (.ref (a0 0)), some (.int x1), some (.int x2), some (.int x3), some (.int x4), some (.int x5), none, none] 169 [] := by
  unfold f_X12_turned_b169 at hf
  refine zr_run [(.iinc 5 1, 0, 0, 0, .int (1 : Int32))] [] (WW' := [w_Mo G a0 s0]) (lv' := [some (.ref (a0 0)), some (.int x1), some (.int x2), some (.int x3), some (.int x4), some (.int (x5 + (1 : Int32))), none, none]) (pc' := 172) (st' := []) (by decide +kernel) rfl rfl ⟨trivial, trivial⟩ ?_
  refine zr_goto (off := -83) (tgt := 89) (by decide +kernel) (by decide) ?_
  exact hk89 s0 x1 x2 x3 x4 (x5 + (1 : Int32)) hf
set_option maxRecDepth 100000 in
set_option maxHeartbeats 4000000 in
theorem t_X12_turned_b160 (l : Launch) (G : zj_G) (a0 : Nat → Nat) (W0 : List va_W) (r : Int32 × MoT) (s0 : MoT) (k89 : MoT → Int32 → Int32 → Int32 → Int32 → Int32 → Option (Int32 × MoT)) (hk89 : ∀ (s0 : MoT) (x1 : Int32) (x2 : Int32) (x3 : Int32) (x4 : Int32) (x5 : Int32), k89 s0 x1 x2 x3 x4 x5 = some r → zj_J l G M_X12_turned W0 (zj_ret G M_X12_turned W0 (some (.int r.1)) (fun _ => [w_Mo G a0 r.2])) 0 0 [w_Mo G a0 s0] [some (.ref (a0 0)), some (.int x1), some (.int x2), some (.int x3), some (.int x4), some (.int x5), none, none] 89 []) (x1 : Int32) (x2 : Int32) (x3 : Int32) (x4 : Int32) (x5 : Int32) (hf : f_X12_turned_b160 s0 k89 x1 x2 x3 x4 x5 = some r) : zj_J l G M_X12_turned W0 (zj_ret G M_X12_turned W0 (some (.int r.1)) (fun _ => [w_Mo G a0 r.2])) 0 0 [w_Mo G a0 s0] [some (.ref (a0 0)), some (.int x1), some (.int x2), some (.int x3), some (.int x4), some (.int x5), none, none] 160 [] := by
  unfold f_X12_turned_b160 at hf
  obtain ⟨y11, e11, hf⟩ := zlet_of hf
  refine zr_run [(.aload_n 0, 0, 0, 0, .null), (.iload 5, 0, 0, 0, .null), (.putfield 76, 0, 0, 42, .null)] [] (WW' := [w_Mo G a0 (Mo_s_turnedGreatest s0 x5)]) (lv' := [some (.ref (a0 0)), some (.int x1), some (.int x2), some (.int x3), some (.int x4), some (.int x5), none, none]) (pc' := 166) (st' := []) (by decide +kernel) rfl rfl ⟨trivial, trivial, ⟨rfl, rfl, rfl, trivial, rfl, rfl, zw_6_71⟩, trivial⟩ ?_
  refine zr_eq (WW2 := [w_Mo G a0 y11]) (lv2 := [some (.ref (a0 0)), some (.int x1), some (.int x2), some (.int x3), some (.int x4), some (.int x5), none, none]) (st2 := []) (by rw [e11]) rfl rfl ?_
  refine zr_run [(.iinc 4 1, 0, 0, 0, .int (1 : Int32))] [] (WW' := [w_Mo G a0 y11]) (lv' := [some (.ref (a0 0)), some (.int x1), some (.int x2), some (.int x3), some (.int (x4 + (1 : Int32))), some (.int x5), none, none]) (pc' := 169) (st' := []) (by decide +kernel) rfl rfl ⟨trivial, trivial⟩ ?_
  exact t_X12_turned_b169 l G a0 W0 r y11 k89 hk89 x1 x2 x3 (x4 + (1 : Int32)) x5 hf
set_option maxRecDepth 100000 in
set_option maxHeartbeats 4000000 in
theorem t_X12_turned_b141 (l : Launch) (G : zj_G) (a0 : Nat → Nat) (W0 : List va_W) (r : Int32 × MoT) (s0 : MoT) (k89 : MoT → Int32 → Int32 → Int32 → Int32 → Int32 → Option (Int32 × MoT)) (hk89 : ∀ (s0 : MoT) (x1 : Int32) (x2 : Int32) (x3 : Int32) (x4 : Int32) (x5 : Int32), k89 s0 x1 x2 x3 x4 x5 = some r → zj_J l G M_X12_turned W0 (zj_ret G M_X12_turned W0 (some (.int r.1)) (fun _ => [w_Mo G a0 r.2])) 0 0 [w_Mo G a0 s0] [some (.ref (a0 0)), some (.int x1), some (.int x2), some (.int x3), some (.int x4), some (.int x5), none, none] 89 []) (x1 : Int32) (x2 : Int32) (x3 : Int32) (x4 : Int32) (x5 : Int32) (x6 : Int32) (hf : f_X12_turned_b141 s0 k89 x1 x2 x3 x4 x5 x6 = some r) : zj_J l G M_X12_turned W0 (zj_ret G M_X12_turned W0 (some (.int r.1)) (fun _ => [w_Mo G a0 r.2])) 0 0 [w_Mo G a0 s0] [some (.ref (a0 0)), some (.int x1), some (.int x2), some (.int x3), some (.int x4), some (.int x5), some (.int x6), none] 141 [] := by
  unfold f_X12_turned_b141 at hf
  refine zr_run [(.iload 6, 0, 0, 0, .null)] [] (WW' := [w_Mo G a0 s0]) (lv' := [some (.ref (a0 0)), some (.int x1), some (.int x2), some (.int x3), some (.int x4), some (.int x5), some (.int x6), none]) (pc' := 143) (st' := [.int x6]) (by decide +kernel) rfl rfl ⟨trivial, trivial⟩ ?_
  refine zr_if_ne (off := 6) (tgt := 149) (by decide +kernel) (by decide) (fun hc => ?_) (fun hc => ?_)
  · have hf := zift hf hc
    refine zr_goto (off := 23) (tgt := 169) (by decide +kernel) (by decide) ?_
    refine zr_run [] [6] (WW' := [w_Mo G a0 s0]) (lv' := [some (.ref (a0 0)), some (.int x1), some (.int x2), some (.int x3), some (.int x4), some (.int x5), none, none]) (pc' := 169) (st' := []) (by decide +kernel) rfl rfl trivial ?_
    exact t_X12_turned_b169 l G a0 W0 r s0 k89 hk89 x1 x2 x3 x4 x5 hf
  · have hf := ziff hf hc
    refine zr_run [(.iload 4, 0, 0, 0, .null)] [] (WW' := [w_Mo G a0 s0]) (lv' := [some (.ref (a0 0)), some (.int x1), some (.int x2), some (.int x3), some (.int x4), some (.int x5), some (.int x6), none]) (pc' := 151) (st' := [.int x4]) (by decide +kernel) rfl rfl ⟨trivial, trivial⟩ ?_
    refine zr_if_ne (off := 9) (tgt := 160) (by decide +kernel) (by decide) (fun hc => ?_) (fun hc => ?_)
    · have hf := zift hf hc
      obtain ⟨y10, e10, hf⟩ := zlet_of hf
      refine zr_run [(.aload_n 0, 0, 0, 0, .null), (.iload 5, 0, 0, 0, .null), (.putfield 73, 0, 0, 41, .null)] [] (WW' := [w_Mo G a0 (Mo_s_turnedLeast s0 x5)]) (lv' := [some (.ref (a0 0)), some (.int x1), some (.int x2), some (.int x3), some (.int x4), some (.int x5), some (.int x6), none]) (pc' := 160) (st' := []) (by decide +kernel) rfl rfl ⟨trivial, trivial, ⟨rfl, rfl, rfl, trivial, rfl, rfl, zw_6_70⟩, trivial⟩ ?_
      refine zr_eq (WW2 := [w_Mo G a0 y10]) (lv2 := [some (.ref (a0 0)), some (.int x1), some (.int x2), some (.int x3), some (.int x4), some (.int x5), some (.int x6), none]) (st2 := []) (by rw [e10]) rfl rfl ?_
      refine zr_run [] [6] (WW' := [w_Mo G a0 y10]) (lv' := [some (.ref (a0 0)), some (.int x1), some (.int x2), some (.int x3), some (.int x4), some (.int x5), none, none]) (pc' := 160) (st' := []) (by decide +kernel) rfl rfl trivial ?_
      exact t_X12_turned_b160 l G a0 W0 r y10 k89 hk89 x1 x2 x3 x4 x5 hf
    · have hf := ziff hf hc
      refine zr_run [] [6] (WW' := [w_Mo G a0 s0]) (lv' := [some (.ref (a0 0)), some (.int x1), some (.int x2), some (.int x3), some (.int x4), some (.int x5), none, none]) (pc' := 160) (st' := []) (by decide +kernel) rfl rfl trivial ?_
      exact t_X12_turned_b160 l G a0 W0 r s0 k89 hk89 x1 x2 x3 x4 x5 hf
set_option maxRecDepth 100000 in
set_option maxHeartbeats 4000000 in
theorem t_X12_turned_H101 (l : Launch) (G : zj_G) (a0 : Nat → Nat) (W0 : List va_W) (r : Int32 × MoT) (s0 : MoT) (k89 : MoT → Int32 → Int32 → Int32 → Int32 → Int32 → Option (Int32 × MoT)) (k101 : MoT → Int32 → Int32 → Int32 → Int32 → Int32 → Int32 → Int32 → Option (Int32 × MoT)) (hk89 : ∀ (s0 : MoT) (x1 : Int32) (x2 : Int32) (x3 : Int32) (x4 : Int32) (x5 : Int32), k89 s0 x1 x2 x3 x4 x5 = some r → zj_J l G M_X12_turned W0 (zj_ret G M_X12_turned W0 (some (.int r.1)) (fun _ => [w_Mo G a0 r.2])) 0 0 [w_Mo G a0 s0] [some (.ref (a0 0)), some (.int x1), some (.int x2), some (.int x3), some (.int x4), some (.int x5), none, none] 89 []) (hk101 : ∀ (s0 : MoT) (x1 : Int32) (x2 : Int32) (x3 : Int32) (x4 : Int32) (x5 : Int32) (x6 : Int32) (x7 : Int32), k101 s0 x1 x2 x3 x4 x5 x6 x7 = some r → zj_J l G M_X12_turned W0 (zj_ret G M_X12_turned W0 (some (.int r.1)) (fun _ => [w_Mo G a0 r.2])) 0 0 [w_Mo G a0 s0] [some (.ref (a0 0)), some (.int x1), some (.int x2), some (.int x3), some (.int x4), some (.int x5), some (.int x6), some (.int x7)] 101 []) (x1 : Int32) (x2 : Int32) (x3 : Int32) (x4 : Int32) (x5 : Int32) (x6 : Int32) (x7 : Int32) (hf : f_X12_turned_H101 s0 k89 k101 x1 x2 x3 x4 x5 x6 x7 = some r) : zj_J l G M_X12_turned W0 (zj_ret G M_X12_turned W0 (some (.int r.1)) (fun _ => [w_Mo G a0 r.2])) 0 0 [w_Mo G a0 s0] [some (.ref (a0 0)), some (.int x1), some (.int x2), some (.int x3), some (.int x4), some (.int x5), some (.int x6), some (.int x7)] 101 [] := by
  unfold f_X12_turned_H101 at hf
  refine zr_run [(.iload 7, 0, 0, 0, .null), (.iconst 1, 0, 0, 0, .int (1 : Int32)), (.iadd, 0, 0, 0, .null), (.iload_n 2, 0, 0, 0, .null)] [] (WW' := [w_Mo G a0 s0]) (lv' := [some (.ref (a0 0)), some (.int x1), some (.int x2), some (.int x3), some (.int x4), some (.int x5), some (.int x6), some (.int x7)]) (pc' := 106) (st' := [.int x2, .int (x7 + (1 : Int32))]) (by decide +kernel) rfl rfl ⟨trivial, trivial, trivial, trivial, trivial⟩ ?_
  refine zr_icmp_ge (off := 35) (tgt := 141) (by decide +kernel) (by decide) (fun hc => ?_) (fun hc => ?_)
  · have hf := zift hf hc
    refine zr_run [(.iload 6, 0, 0, 0, .null)] [] (WW' := [w_Mo G a0 s0]) (lv' := [some (.ref (a0 0)), some (.int x1), some (.int x2), some (.int x3), some (.int x4), some (.int x5), some (.int x6), some (.int x7)]) (pc' := 111) (st' := [.int x6]) (by decide +kernel) rfl rfl ⟨trivial, trivial⟩ ?_
    refine zr_if_ne (off := 30) (tgt := 141) (by decide +kernel) (by decide) (fun hc => ?_) (fun hc => ?_)
    · have hf := zift hf hc
      obtain ⟨h8, hf⟩ := zck_of hf
      obtain ⟨q9, e9, hf⟩ := zbi_of hf
      refine zr_run [(.aload_n 0, 0, 0, 0, .null), (.iload_n 2, 0, 0, 0, .null), (.iload 7, 0, 0, 0, .null), (.iload 5, 0, 0, 0, .null), (.aload_n 0, 0, 0, 0, .null), (.getfield 13, 0, 0, 14, .null), (.sipush 230, 0, 0, 0, .int (230 : Int32)), (.iload_n 1, 0, 0, 0, .null), (.iadd, 0, 0, 0, .null), (.iaload, 0, 2, 0, .null)] [] (WW' := [w_Mo G a0 s0]) (lv' := [some (.ref (a0 0)), some (.int x1), some (.int x2), some (.int x3), some (.int x4), some (.int x5), some (.int x6), some (.int x7)]) (pc' := 130) (st' := [.int ((Mo_now s0) ((230 : Int32) + x1).toNatClampNeg), .int x5, .int x7, .int x2, .ref (a0 0)]) (by decide +kernel) rfl rfl ⟨trivial, trivial, trivial, trivial, trivial, ⟨rfl, rfl, zw_6_43⟩, trivial, trivial, trivial, ⟨rfl, rfl, h8⟩, trivial⟩ ?_
      refine zr_callV (c_X12_turns l G a0 s0 x2 x7 x5 ((Mo_now s0) ((230 : Int32) + x1).toNatClampNeg) q9 e9) (WW' := fun _ => [w_Mo G a0 s0]) (st := []) (st' := [.int q9]) [0] rfl rfl (fun _ => Nat.le_of_ble_eq_true rfl) (fun _ => rfl) rfl rfl nm_X12_turns zw_8_79 zw_8_81 zw_0_101 zw_1_18 zw_8_82 rfl rfl rfl (Nat.le_of_ble_eq_true rfl) ⟨Nat.le_of_ble_eq_true rfl, Nat.le_of_ble_eq_true rfl⟩ (by decide +kernel) (fun _ => ?_)
      refine zr_run [(.istore 6, 0, 0, 0, .null), (.iinc 7 1, 0, 0, 0, .int (1 : Int32))] [] (WW' := [w_Mo G a0 s0]) (lv' := [some (.ref (a0 0)), some (.int x1), some (.int x2), some (.int x3), some (.int x4), some (.int x5), some (.int q9), some (.int (x7 + (1 : Int32)))]) (pc' := 138) (st' := []) (by decide +kernel) rfl rfl ⟨trivial, trivial, trivial⟩ ?_
      refine zr_goto (off := -37) (tgt := 101) (by decide +kernel) (by decide) ?_
      exact hk101 s0 x1 x2 x3 x4 x5 q9 (x7 + (1 : Int32)) hf
    · have hf := ziff hf hc
      refine zr_run [] [7] (WW' := [w_Mo G a0 s0]) (lv' := [some (.ref (a0 0)), some (.int x1), some (.int x2), some (.int x3), some (.int x4), some (.int x5), some (.int x6), none]) (pc' := 141) (st' := []) (by decide +kernel) rfl rfl trivial ?_
      exact t_X12_turned_b141 l G a0 W0 r s0 k89 hk89 x1 x2 x3 x4 x5 x6 hf
  · have hf := ziff hf hc
    refine zr_run [] [7] (WW' := [w_Mo G a0 s0]) (lv' := [some (.ref (a0 0)), some (.int x1), some (.int x2), some (.int x3), some (.int x4), some (.int x5), some (.int x6), none]) (pc' := 141) (st' := []) (by decide +kernel) rfl rfl trivial ?_
    exact t_X12_turned_b141 l G a0 W0 r s0 k89 hk89 x1 x2 x3 x4 x5 x6 hf
theorem t_X12_turned_L101 (l : Launch) (G : zj_G) (a0 : Nat → Nat) (W0 : List va_W) (r : Int32 × MoT)  (k89 : MoT → Int32 → Int32 → Int32 → Int32 → Int32 → Option (Int32 × MoT)) (hk89 : ∀ (s0 : MoT) (x1 : Int32) (x2 : Int32) (x3 : Int32) (x4 : Int32) (x5 : Int32), k89 s0 x1 x2 x3 x4 x5 = some r → zj_J l G M_X12_turned W0 (zj_ret G M_X12_turned W0 (some (.int r.1)) (fun _ => [w_Mo G a0 r.2])) 0 0 [w_Mo G a0 s0] [some (.ref (a0 0)), some (.int x1), some (.int x2), some (.int x3), some (.int x4), some (.int x5), none, none] 89 []) : ∀ (n : Nat) (s0 : MoT) (x1 : Int32) (x2 : Int32) (x3 : Int32) (x4 : Int32) (x5 : Int32) (x6 : Int32) (x7 : Int32), f_X12_turned_L101 k89 n s0 x1 x2 x3 x4 x5 x6 x7 = some r → zj_J l G M_X12_turned W0 (zj_ret G M_X12_turned W0 (some (.int r.1)) (fun _ => [w_Mo G a0 r.2])) 0 0 [w_Mo G a0 s0] [some (.ref (a0 0)), some (.int x1), some (.int x2), some (.int x3), some (.int x4), some (.int x5), some (.int x6), some (.int x7)] 101 [] := by
  intro n
  induction n with
  | zero => intro s0 x1 x2 x3 x4 x5 x6 x7 hf; exact nomatch (show none = some r from hf)
  | succ n ih => intro s0 x1 x2 x3 x4 x5 x6 x7 hf; exact t_X12_turned_H101 l G a0 W0 r s0 k89 (f_X12_turned_L101 k89 n) hk89 ih x1 x2 x3 x4 x5 x6 x7  hf
set_option maxRecDepth 100000 in
set_option maxHeartbeats 4000000 in
theorem t_X12_turned_H89 (l : Launch) (G : zj_G) (a0 : Nat → Nat) (W0 : List va_W) (r : Int32 × MoT) (s0 : MoT) (k89 : MoT → Int32 → Int32 → Int32 → Int32 → Int32 → Option (Int32 × MoT)) (hk89 : ∀ (s0 : MoT) (x1 : Int32) (x2 : Int32) (x3 : Int32) (x4 : Int32) (x5 : Int32), k89 s0 x1 x2 x3 x4 x5 = some r → zj_J l G M_X12_turned W0 (zj_ret G M_X12_turned W0 (some (.int r.1)) (fun _ => [w_Mo G a0 r.2])) 0 0 [w_Mo G a0 s0] [some (.ref (a0 0)), some (.int x1), some (.int x2), some (.int x3), some (.int x4), some (.int x5), none, none] 89 []) (x1 : Int32) (x2 : Int32) (x3 : Int32) (x4 : Int32) (x5 : Int32) (hf : f_X12_turned_H89 s0 k89 x1 x2 x3 x4 x5 = some r) : zj_J l G M_X12_turned W0 (zj_ret G M_X12_turned W0 (some (.int r.1)) (fun _ => [w_Mo G a0 r.2])) 0 0 [w_Mo G a0 s0] [some (.ref (a0 0)), some (.int x1), some (.int x2), some (.int x3), some (.int x4), some (.int x5), none, none] 89 [] := by
  unfold f_X12_turned_H89 at hf
  refine zr_run [(.iload 5, 0, 0, 0, .null), (.iload_n 3, 0, 0, 0, .null)] [] (WW' := [w_Mo G a0 s0]) (lv' := [some (.ref (a0 0)), some (.int x1), some (.int x2), some (.int x3), some (.int x4), some (.int x5), none, none]) (pc' := 92) (st' := [.int x3, .int x5]) (by decide +kernel) rfl rfl ⟨trivial, trivial, trivial⟩ ?_
  refine zr_icmp_gt (off := 83) (tgt := 175) (by decide +kernel) (by decide) (fun hc => ?_) (fun hc => ?_)
  · have hf := zift hf hc
    refine zr_run [(.iload 4, 0, 0, 0, .null)] [] (WW' := [w_Mo G a0 s0]) (lv' := [some (.ref (a0 0)), some (.int x1), some (.int x2), some (.int x3), some (.int x4), some (.int x5), none, none]) (pc' := 177) (st' := [.int x4]) (by decide +kernel) rfl rfl ⟨trivial, trivial⟩ ?_
    obtain rfl := Option.some.inj hf
    exact zr_iret (b0 := fun _ => 0) (by decide +kernel) rfl rfl rfl rfl rfl
  · have hf := ziff hf hc
    refine zr_run [(.iconst 0, 0, 0, 0, .int (0 : Int32)), (.istore 6, 0, 0, 0, .null), (.iconst 0, 0, 0, 0, .int (0 : Int32)), (.istore 7, 0, 0, 0, .null)] [] (WW' := [w_Mo G a0 s0]) (lv' := [some (.ref (a0 0)), some (.int x1), some (.int x2), some (.int x3), some (.int x4), some (.int x5), some (.int (0 : Int32)), some (.int (0 : Int32))]) (pc' := 101) (st' := []) (by decide +kernel) rfl rfl ⟨trivial, trivial, trivial, trivial, trivial⟩ ?_
    exact t_X12_turned_L101 l G a0 W0 r k89 hk89 zFU s0 x1 x2 x3 x4 x5 (0 : Int32) (0 : Int32) hf
theorem t_X12_turned_L89 (l : Launch) (G : zj_G) (a0 : Nat → Nat) (W0 : List va_W) (r : Int32 × MoT)    : ∀ (n : Nat) (s0 : MoT) (x1 : Int32) (x2 : Int32) (x3 : Int32) (x4 : Int32) (x5 : Int32), f_X12_turned_L89 n s0 x1 x2 x3 x4 x5 = some r → zj_J l G M_X12_turned W0 (zj_ret G M_X12_turned W0 (some (.int r.1)) (fun _ => [w_Mo G a0 r.2])) 0 0 [w_Mo G a0 s0] [some (.ref (a0 0)), some (.int x1), some (.int x2), some (.int x3), some (.int x4), some (.int x5), none, none] 89 [] := by
  intro n
  induction n with
  | zero => intro s0 x1 x2 x3 x4 x5 hf; exact nomatch (show none = some r from hf)
  | succ n ih => intro s0 x1 x2 x3 x4 x5 hf; exact t_X12_turned_H89 l G a0 W0 r s0  (f_X12_turned_L89 n)  ih x1 x2 x3 x4 x5  hf
set_option maxRecDepth 100000 in
set_option maxHeartbeats 4000000 in
theorem t_X12_turned_H58 (l : Launch) (G : zj_G) (a0 : Nat → Nat) (W0 : List va_W) (r : Int32 × MoT) (s0 : MoT) (k58 : MoT → Int32 → Int32 → Int32 → Int32 → Option (Int32 × MoT)) (hk58 : ∀ (s0 : MoT) (x1 : Int32) (x2 : Int32) (x3 : Int32) (x4 : Int32), k58 s0 x1 x2 x3 x4 = some r → zj_J l G M_X12_turned W0 (zj_ret G M_X12_turned W0 (some (.int r.1)) (fun _ => [w_Mo G a0 r.2])) 0 0 [w_Mo G a0 s0] [some (.ref (a0 0)), some (.int x1), some (.int x2), some (.int x3), some (.int x4), none, none, none] 58 []) (x1 : Int32) (x2 : Int32) (x3 : Int32) (x4 : Int32) (hf : f_X12_turned_H58 s0 k58 x1 x2 x3 x4 = some r) : zj_J l G M_X12_turned W0 (zj_ret G M_X12_turned W0 (some (.int r.1)) (fun _ => [w_Mo G a0 r.2])) 0 0 [w_Mo G a0 s0] [some (.ref (a0 0)), some (.int x1), some (.int x2), some (.int x3), some (.int x4), none, none, none] 58 [] := by
  unfold f_X12_turned_H58 at hf
  refine zr_run [(.iload 4, 0, 0, 0, .null), (.iload_n 2, 0, 0, 0, .null)] [] (WW' := [w_Mo G a0 s0]) (lv' := [some (.ref (a0 0)), some (.int x1), some (.int x2), some (.int x3), some (.int x4), none, none, none]) (pc' := 61) (st' := [.int x2, .int x4]) (by decide +kernel) rfl rfl ⟨trivial, trivial, trivial⟩ ?_
  refine zr_icmp_ge (off := 22) (tgt := 83) (by decide +kernel) (by decide) (fun hc => ?_) (fun hc => ?_)
  · have hf := zift hf hc
    obtain ⟨h7, hf⟩ := zck_of hf
    refine zr_run [(.aload_n 0, 0, 0, 0, .null), (.getfield 7, 0, 0, 1, .null), (.iload 4, 0, 0, 0, .null), (.iaload, 0, 1, 0, .null), (.iload_n 3, 0, 0, 0, .null)] [] (WW' := [w_Mo G a0 s0]) (lv' := [some (.ref (a0 0)), some (.int x1), some (.int x2), some (.int x3), some (.int x4), none, none, none]) (pc' := 72) (st' := [.int x3, .int ((Mo_tape s0) x4.toNatClampNeg)]) (by decide +kernel) rfl rfl ⟨trivial, ⟨rfl, rfl, zw_6_30⟩, trivial, ⟨rfl, rfl, h7⟩, trivial, trivial⟩ ?_
    refine zr_icmp_le (off := 5) (tgt := 77) (by decide +kernel) (by decide) (fun hc => ?_) (fun hc => ?_)
    · have hf := zift hf hc
      refine zr_run [(.iconst (-1), 0, 0, 0, .int (-1 : Int32))] [] (WW' := [w_Mo G a0 s0]) (lv' := [some (.ref (a0 0)), some (.int x1), some (.int x2), some (.int x3), some (.int x4), none, none, none]) (pc' := 76) (st' := [.int (-1 : Int32)]) (by decide +kernel) rfl rfl ⟨trivial, trivial⟩ ?_
      obtain rfl := Option.some.inj hf
      exact zr_iret (b0 := fun _ => 0) (by decide +kernel) rfl rfl rfl rfl rfl
    · have hf := ziff hf hc
      refine zr_run [(.iinc 4 1, 0, 0, 0, .int (1 : Int32))] [] (WW' := [w_Mo G a0 s0]) (lv' := [some (.ref (a0 0)), some (.int x1), some (.int x2), some (.int x3), some (.int (x4 + (1 : Int32))), none, none, none]) (pc' := 80) (st' := []) (by decide +kernel) rfl rfl ⟨trivial, trivial⟩ ?_
      refine zr_goto (off := -22) (tgt := 58) (by decide +kernel) (by decide) ?_
      exact hk58 s0 x1 x2 x3 (x4 + (1 : Int32)) hf
  · have hf := ziff hf hc
    refine zr_run [(.iconst 0, 0, 0, 0, .int (0 : Int32)), (.istore 4, 0, 0, 0, .null), (.iconst 0, 0, 0, 0, .int (0 : Int32)), (.istore 5, 0, 0, 0, .null)] [] (WW' := [w_Mo G a0 s0]) (lv' := [some (.ref (a0 0)), some (.int x1), some (.int x2), some (.int x3), some (.int (0 : Int32)), some (.int (0 : Int32)), none, none]) (pc' := 89) (st' := []) (by decide +kernel) rfl rfl ⟨trivial, trivial, trivial, trivial, trivial⟩ ?_
    exact t_X12_turned_L89 l G a0 W0 r zFU s0 x1 x2 x3 (0 : Int32) (0 : Int32) hf
theorem t_X12_turned_L58 (l : Launch) (G : zj_G) (a0 : Nat → Nat) (W0 : List va_W) (r : Int32 × MoT)    : ∀ (n : Nat) (s0 : MoT) (x1 : Int32) (x2 : Int32) (x3 : Int32) (x4 : Int32), f_X12_turned_L58 n s0 x1 x2 x3 x4 = some r → zj_J l G M_X12_turned W0 (zj_ret G M_X12_turned W0 (some (.int r.1)) (fun _ => [w_Mo G a0 r.2])) 0 0 [w_Mo G a0 s0] [some (.ref (a0 0)), some (.int x1), some (.int x2), some (.int x3), some (.int x4), none, none, none] 58 [] := by
  intro n
  induction n with
  | zero => intro s0 x1 x2 x3 x4 hf; exact nomatch (show none = some r from hf)
  | succ n ih => intro s0 x1 x2 x3 x4 hf; exact t_X12_turned_H58 l G a0 W0 r s0  (f_X12_turned_L58 n)  ih x1 x2 x3 x4  hf
set_option maxRecDepth 100000 in
set_option maxHeartbeats 4000000 in
theorem c_X12_turned (l : Launch) (G : zj_G) (a0 : Nat → Nat) (s0 : MoT) (x1 : Int32) (r : Int32 × MoT) (hf : f_X12_turned s0 x1 = some r) : zj_C l G M_X12_turned yX12_turned [w_Mo G a0 s0] [.ref (a0 0), .int x1] (some (.int r.1)) (fun _ => [w_Mo G a0 r.2]) := by
  have key : ∀ W0 : List va_W, zj_J l G M_X12_turned W0 (zj_ret G M_X12_turned W0 (some (.int r.1)) (fun _ => [w_Mo G a0 r.2])) 0 0 [w_Mo G a0 s0] [some (.ref (a0 0)), some (.int x1), none, none, none, none, none, none] 0 [] := by
    intro W0
    unfold f_X12_turned at hf
    obtain ⟨y1, e1, hf⟩ := zlet_of hf
    refine zr_run [(.aload_n 0, 0, 0, 0, .null), (.iconst 0, 0, 0, 0, .int (0 : Int32)), (.putfield 91, 0, 0, 0, .null)] [] (WW' := [w_Mo G a0 (Mo_s_thrown s0 (0 : Int32))]) (lv' := [some (.ref (a0 0)), some (.int x1), none, none, none, none, none, none]) (pc' := 5) (st' := []) (by decide +kernel) rfl rfl ⟨trivial, trivial, ⟨rfl, rfl, rfl, trivial, rfl, rfl, zw_6_29⟩, trivial⟩ ?_
    refine zr_eq (WW2 := [w_Mo G a0 y1]) (lv2 := [some (.ref (a0 0)), some (.int x1), none, none, none, none, none, none]) (st2 := []) (by rw [e1]) rfl rfl ?_
    obtain ⟨q2, e2, hf⟩ := zbi_of hf
    refine zr_run [(.aload_n 0, 0, 0, 0, .null)] [] (WW' := [w_Mo G a0 y1]) (lv' := [some (.ref (a0 0)), some (.int x1), none, none, none, none, none, none]) (pc' := 6) (st' := [.ref (a0 0)]) (by decide +kernel) rfl rfl ⟨trivial, trivial⟩ ?_
    refine zr_callV (c_X12_take l G a0 y1 q2 e2) (WW' := fun _ => [w_Mo G a0 q2.2]) (st := []) (st' := [.int q2.1]) [0] rfl rfl (fun _ => Nat.le_of_ble_eq_true rfl) (fun _ => rfl) rfl rfl nm_X12_take zw_6_217 zw_6_219 zw_0_49 zw_1_18 zw_6_220 rfl rfl rfl (Nat.le_of_ble_eq_true rfl) ⟨Nat.le_of_ble_eq_true rfl, Nat.le_of_ble_eq_true rfl⟩ (by decide +kernel) (fun _ => ?_)
    obtain ⟨q3, e3, hf⟩ := zbi_of hf
    refine zr_run [(.istore_n 2, 0, 0, 0, .null), (.aload_n 0, 0, 0, 0, .null), (.iload_n 1, 0, 0, 0, .null)] [] (WW' := [w_Mo G a0 q2.2]) (lv' := [some (.ref (a0 0)), some (.int x1), some (.int q2.1), none, none, none, none, none]) (pc' := 12) (st' := [.int x1, .ref (a0 0)]) (by decide +kernel) rfl rfl ⟨trivial, trivial, trivial, trivial⟩ ?_
    refine zr_callV (c_X12_isMan l G a0 q2.2 x1 q3 e3) (WW' := fun _ => [w_Mo G a0 q2.2]) (st := []) (st' := [.int q3]) [0] rfl rfl (fun _ => Nat.le_of_ble_eq_true rfl) (fun _ => rfl) rfl rfl nm_X12_isMan zw_7_128 zw_7_130 zw_0_76 zw_1_18 zw_7_131 rfl rfl rfl (Nat.le_of_ble_eq_true rfl) ⟨Nat.le_of_ble_eq_true rfl, Nat.le_of_ble_eq_true rfl⟩ (by decide +kernel) (fun _ => ?_)
    refine zr_if_eq (off := 27) (tgt := 42) (by decide +kernel) (by decide) (fun hc => ?_) (fun hc => ?_)
    · have hf := zift hf hc
      refine zr_run [(.iconst (-1), 0, 0, 0, .int (-1 : Int32))] [] (WW' := [w_Mo G a0 q2.2]) (lv' := [some (.ref (a0 0)), some (.int x1), some (.int q2.1), none, none, none, none, none]) (pc' := 43) (st' := [.int (-1 : Int32)]) (by decide +kernel) rfl rfl ⟨trivial, trivial⟩ ?_
      obtain rfl := Option.some.inj hf
      exact zr_iret (b0 := fun _ => 0) (by decide +kernel) rfl rfl rfl rfl rfl
    · have hf := ziff hf hc
      obtain ⟨h4, hf⟩ := zck_of hf
      refine zr_run [(.aload_n 0, 0, 0, 0, .null), (.getfield 13, 0, 0, 14, .null), (.sipush 444, 0, 0, 0, .int (444 : Int32)), (.iload_n 1, 0, 0, 0, .null), (.iadd, 0, 0, 0, .null), (.iaload, 0, 2, 0, .null), (.iconst 1, 0, 0, 0, .int (1 : Int32))] [] (WW' := [w_Mo G a0 q2.2]) (lv' := [some (.ref (a0 0)), some (.int x1), some (.int q2.1), none, none, none, none, none]) (pc' := 29) (st' := [.int (1 : Int32), .int ((Mo_now q2.2) ((444 : Int32) + x1).toNatClampNeg)]) (by decide +kernel) rfl rfl ⟨trivial, ⟨rfl, rfl, zw_6_43⟩, trivial, trivial, trivial, ⟨rfl, rfl, h4⟩, trivial, trivial⟩ ?_
      refine zr_icmp_ne (off := 13) (tgt := 42) (by decide +kernel) (by decide) (fun hc => ?_) (fun hc => ?_)
      · have hf := zift hf hc
        obtain ⟨q5, e5, hf⟩ := zbi_of hf
        refine zr_run [(.iload_n 2, 0, 0, 0, .null), (.iconst 2, 0, 0, 0, .int (2 : Int32)), (.bipush 20, 0, 0, 0, .int (20 : Int32))] [] (WW' := [w_Mo G a0 q2.2]) (lv' := [some (.ref (a0 0)), some (.int x1), some (.int q2.1), none, none, none, none, none]) (pc' := 36) (st' := [.int (20 : Int32), .int (2 : Int32), .int q2.1]) (by decide +kernel) rfl rfl ⟨trivial, trivial, trivial, trivial⟩ ?_
        refine zr_callS (c_X12_isIn l G q2.1 (2 : Int32) (20 : Int32) q5 e5) (WW' := fun _ => [w_Mo G a0 q2.2]) (st := []) (st' := [.int q5]) [] rfl rfl (fun _ => Nat.le_of_ble_eq_true rfl) (fun _ => rfl) rfl rfl nm_X12_isIn zw_7_38 zw_7_39 zw_1_18 zw_7_40 rfl (Nat.le_of_ble_eq_true rfl) ⟨Nat.le_of_ble_eq_true rfl, Nat.le_of_ble_eq_true rfl⟩ (by decide +kernel) (fun _ => ?_)
        refine zr_if_ne (off := 5) (tgt := 44) (by decide +kernel) (by decide) (fun hc => ?_) (fun hc => ?_)
        · have hf := zift hf hc
          refine zr_run [(.iconst (-1), 0, 0, 0, .int (-1 : Int32))] [] (WW' := [w_Mo G a0 q2.2]) (lv' := [some (.ref (a0 0)), some (.int x1), some (.int q2.1), none, none, none, none, none]) (pc' := 43) (st' := [.int (-1 : Int32)]) (by decide +kernel) rfl rfl ⟨trivial, trivial⟩ ?_
          obtain rfl := Option.some.inj hf
          exact zr_iret (b0 := fun _ => 0) (by decide +kernel) rfl rfl rfl rfl rfl
        · have hf := ziff hf hc
          obtain ⟨h6, hf⟩ := zck_of hf
          refine zr_run [(.aload_n 0, 0, 0, 0, .null), (.getfield 13, 0, 0, 14, .null), (.sipush 480, 0, 0, 0, .int (480 : Int32)), (.iload_n 1, 0, 0, 0, .null), (.iadd, 0, 0, 0, .null), (.iaload, 0, 2, 0, .null), (.istore_n 3, 0, 0, 0, .null), (.iconst 0, 0, 0, 0, .int (0 : Int32)), (.istore 4, 0, 0, 0, .null)] [] (WW' := [w_Mo G a0 q2.2]) (lv' := [some (.ref (a0 0)), some (.int x1), some (.int q2.1), some (.int ((Mo_now q2.2) ((480 : Int32) + x1).toNatClampNeg)), some (.int (0 : Int32)), none, none, none]) (pc' := 58) (st' := []) (by decide +kernel) rfl rfl ⟨trivial, ⟨rfl, rfl, zw_6_43⟩, trivial, trivial, trivial, ⟨rfl, rfl, h6⟩, trivial, trivial, trivial, trivial⟩ ?_
          exact t_X12_turned_L58 l G a0 W0 r zFU q2.2 x1 q2.1 ((Mo_now q2.2) ((480 : Int32) + x1).toNatClampNeg) (0 : Int32) hf
      · have hf := ziff hf hc
        refine zr_run [(.iconst (-1), 0, 0, 0, .int (-1 : Int32))] [] (WW' := [w_Mo G a0 q2.2]) (lv' := [some (.ref (a0 0)), some (.int x1), some (.int q2.1), none, none, none, none, none]) (pc' := 43) (st' := [.int (-1 : Int32)]) (by decide +kernel) rfl rfl ⟨trivial, trivial⟩ ?_
        obtain rfl := Option.some.inj hf
        exact zr_iret (b0 := fun _ => 0) (by decide +kernel) rfl rfl rfl rfl rfl
  exact zj_entry [some (.ref (a0 0)), some (.int x1), none, none, none, none, none, none] (by decide +kernel) rfl (by decide) (Nat.le_of_ble_eq_true rfl) rfl rfl (key _)
