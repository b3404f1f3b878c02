/-- two objects' addresses, changed for each other -/
def zsw (A : Nat → Nat → Nat) (i j : Nat) : Nat → Nat → Nat := fun k => if k = i then A j else if k = j then A i else A k
def zsf (c : Bool) (A : Nat → Nat → Nat) (i j : Nat) : Nat → Nat → Nat := match c with
  | true => zsw A i j
  | false => A
def M_X8_sign : zj_M := (RX8, cX8_sign, 2, none, { frames := 0, cells := 0, slots := 0, locals := 0 }, false)
theorem nm_X8_sign : zj_nm yX8_sign 1 := ⟨by decide +kernel, by decide +kernel, by decide +kernel⟩
def f_X8_sign  (s0 : ScT) (x1 : Int32) : Option (ScT) := (if (Sc_length s0) < (32 : Int32) then (if zb_in (Sc_length s0) 32 = true then (zlet (Sc_s_text s0 ((upd (Sc_text s0) (Sc_length s0).toNatClampNeg (vp_nar .byte x1.toInt8.toInt32)))) fun y2 => (zlet (Sc_s_length y2 ((Sc_length y2) + (1 : Int32))) fun y3 => some y3)) else none) else some s0)
set_option maxRecDepth 100000 in
set_option maxHeartbeats 4000000 in
theorem c_X8_sign (l : Launch) (G : zj_G) (a0 : Nat → Nat) (s0 : ScT) (x1 : Int32) (r : ScT) (hf : f_X8_sign s0 x1 = some r) : zj_C l G M_X8_sign yX8_sign [w_Sc G a0 s0] [.ref (a0 0), .int x1] (none) (fun _ => [w_Sc G a0 r]) := by
  have key : ∀ W0 : List va_W, zj_J l G M_X8_sign W0 (zj_ret G M_X8_sign W0 (none) (fun _ => [w_Sc G a0 r])) 0 0 [w_Sc G a0 s0] [some (.ref (a0 0)), some (.int x1)] 0 [] := by
    intro W0
    unfold f_X8_sign at hf
    refine zr_run [(.aload_n 0, 0, 0, 0, .null), (.getfield 15, 0, 0, 1, .null), (.bipush 32, 0, 0, 0, .int (32 : Int32))] [] (WW' := [w_Sc G a0 s0]) (lv' := [some (.ref (a0 0)), some (.int x1)]) (pc' := 6) (st' := [.int (32 : Int32), .int (Sc_length s0)]) (by decide +kernel) rfl rfl ⟨trivial, ⟨rfl, rfl, zw_2_121⟩, trivial, trivial⟩ ?_
    refine zr_icmp_ge (off := 24) (tgt := 30) (by decide +kernel) (by decide) (fun hc => ?_) (fun hc => ?_)
    · have hf := zift hf hc
      obtain ⟨h1, hf⟩ := zck_of hf
      obtain ⟨y2, e2, hf⟩ := zlet_of hf
      refine zr_run [(.aload_n 0, 0, 0, 0, .null), (.getfield 11, 0, 0, 0, .null), (.aload_n 0, 0, 0, 0, .null), (.getfield 15, 0, 0, 1, .null), (.iload_n 1, 0, 0, 0, .null), (.i2b, 0, 0, 0, .null), (.bastore, 0, 1, 0, .null)] [] (WW' := [w_Sc G a0 (Sc_s_text s0 ((upd (Sc_text s0) (Sc_length s0).toNatClampNeg (vp_nar .byte x1.toInt8.toInt32))))]) (lv' := [some (.ref (a0 0)), some (.int x1)]) (pc' := 20) (st' := []) (by decide +kernel) rfl rfl ⟨trivial, ⟨rfl, rfl, zw_2_119⟩, trivial, ⟨rfl, rfl, zw_2_121⟩, trivial, trivial, ⟨rfl, rfl, h1⟩, trivial⟩ ?_
      refine zr_eq (WW2 := [w_Sc G a0 y2]) (lv2 := [some (.ref (a0 0)), some (.int x1)]) (st2 := []) (by rw [e2]) rfl rfl ?_
      obtain ⟨y3, e3, hf⟩ := zlet_of hf
      refine zr_run [(.aload_n 0, 0, 0, 0, .null), (.dup, 0, 0, 0, .null), (.getfield 15, 0, 0, 1, .null), (.iconst 1, 0, 0, 0, .int (1 : Int32)), (.iadd, 0, 0, 0, .null), (.putfield 15, 0, 0, 1, .null)] [] (WW' := [w_Sc G a0 (Sc_s_length y2 ((Sc_length y2) + (1 : Int32)))]) (lv' := [some (.ref (a0 0)), some (.int x1)]) (pc' := 30) (st' := []) (by decide +kernel) rfl rfl ⟨trivial, trivial, ⟨rfl, rfl, zw_2_121⟩, trivial, trivial, ⟨rfl, rfl, rfl, trivial, rfl, rfl, zw_2_121⟩, trivial⟩ ?_
      refine zr_eq (WW2 := [w_Sc G a0 y3]) (lv2 := [some (.ref (a0 0)), some (.int x1)]) (st2 := []) (by rw [e3]) rfl rfl ?_
      obtain rfl := Option.some.inj hf
      exact zr_vret (b0 := fun _ => 0) (by decide +kernel) rfl rfl rfl rfl rfl
    · have hf := ziff hf hc
      obtain rfl := Option.some.inj hf
      exact zr_vret (b0 := fun _ => 0) (by decide +kernel) rfl rfl rfl rfl rfl
  exact zj_entry [some (.ref (a0 0)), some (.int x1)] (by decide +kernel) rfl (by decide) (Nat.le_of_ble_eq_true rfl) rfl rfl (key _)
def M_X8_name : zj_M := (RX8, cX8_name, 5, none, { frames := 1, cells := 0, slots := 0, locals := 21 }, false)
theorem nm_X8_name : zj_nm yX8_name 1 := ⟨by decide +kernel, by decide +kernel, by decide +kernel⟩
def f_X8_name_b32  (s0 : ScT) (k3 : ScT → Int64 → Int32 → Option (ScT)) (x1 : Int64) (x3 : Int32) : Option (ScT) := k3 s0 x1 (x3 + (-5 : Int32))
def f_X8_name_H3  (s0 : ScT) (k3 : ScT → Int64 → Int32 → Option (ScT)) (x1 : Int64) (x3 : Int32) : Option (ScT) := (if x3 < 0 then some s0 else (if ((zr_ushrl x1 x3).toInt32 &&& (31 : Int32)) = 0 then f_X8_name_b32 s0 k3 x1 x3 else ((f_X8_sign s0 (((97 : Int32) + ((zr_ushrl x1 x3).toInt32 &&& (31 : Int32))) - (1 : Int32))).bind fun q1 => f_X8_name_b32 q1 k3 x1 x3)))
def f_X8_name_L3    : Nat → ScT → Int64 → Int32 → Option (ScT)
  | 0 => fun _ _ _ => none
  | n + 1 => fun s0 x1 x3 => f_X8_name_H3 s0 (f_X8_name_L3  n) x1 x3
def f_X8_name  (s0 : ScT) (x1 : Int64) : Option (ScT) := f_X8_name_L3 zFU s0 x1 (30 : Int32)
set_option maxRecDepth 100000 in
set_option maxHeartbeats 4000000 in
theorem t_X8_name_b32 (l : Launch) (G : zj_G) (a0 : Nat → Nat) (W0 : List va_W) (r : ScT) (s0 : ScT) (k3 : ScT → Int64 → Int32 → Option (ScT)) (hk3 : ∀ (s0 : ScT) (x1 : Int64) (x3 : Int32), k3 s0 x1 x3 = some r → zj_J l G M_X8_name W0 (zj_ret G M_X8_name W0 (none) (fun _ => [w_Sc G a0 r])) 0 0 [w_Sc G a0 s0] [some (.ref (a0 0)), some (.long x1), none, some (.int x3), none] 3 []) (x1 : Int64) (x3 : Int32) (hf : f_X8_name_b32 s0 k3 x1 x3 = some r) : zj_J l G M_X8_name W0 (zj_ret G M_X8_name W0 (none) (fun _ => [w_Sc G a0 r])) 0 0 [w_Sc G a0 s0] [some (.ref (a0 0)), some (.long x1), none, some (.int x3), none] 32 [] := by
  unfold f_X8_name_b32 at hf
  refine zr_run [(.iinc 3 (-5), 0, 0, 0, .int (-5 : Int32))] [] (WW' := [w_Sc G a0 s0]) (lv' := [some (.ref (a0 0)), some (.long x1), none, some (.int (x3 + (-5 : Int32))), none]) (pc' := 35) (st' := []) (by decide +kernel) rfl rfl ⟨trivial, trivial⟩ ?_
  refine zr_goto (off := -32) (tgt := 3) (by decide +kernel) (by decide) ?_
  exact hk3 s0 x1 (x3 + (-5 : Int32)) hf
set_option maxRecDepth 100000 in
set_option maxHeartbeats 4000000 in
theorem t_X8_name_H3 (l : Launch) (G : zj_G) (a0 : Nat → Nat) (W0 : List va_W) (r : ScT) (s0 : ScT) (k3 : ScT → Int64 → Int32 → Option (ScT)) (hk3 : ∀ (s0 : ScT) (x1 : Int64) (x3 : Int32), k3 s0 x1 x3 = some r → zj_J l G M_X8_name W0 (zj_ret G M_X8_name W0 (none) (fun _ => [w_Sc G a0 r])) 0 0 [w_Sc G a0 s0] [some (.ref (a0 0)), some (.long x1), none, some (.int x3), none] 3 []) (x1 : Int64) (x3 : Int32) (hf : f_X8_name_H3 s0 k3 x1 x3 = some r) : zj_J l G M_X8_name W0 (zj_ret G M_X8_name W0 (none) (fun _ => [w_Sc G a0 r])) 0 0 [w_Sc G a0 s0] [some (.ref (a0 0)), some (.long x1), none, some (.int x3), none] 3 [] := by
  unfold f_X8_name_H3 at hf
  refine zr_run [(.iload_n 3, 0, 0, 0, .null)] [] (WW' := [w_Sc G a0 s0]) (lv' := [some (.ref (a0 0)), some (.long x1), none, some (.int x3), none]) (pc' := 4) (st' := [.int x3]) (by decide +kernel) rfl rfl ⟨trivial, trivial⟩ ?_
  refine zr_if_lt (off := 34) (tgt := 38) (by decide +kernel) (by decide) (fun hc => ?_) (fun hc => ?_)
  · have hf := zift hf hc
    obtain rfl := Option.some.inj hf
    exact zr_vret (b0 := fun _ => 0) (by decide +kernel) rfl rfl rfl rfl rfl
  · have hf := ziff hf hc
    refine zr_run [(.lload_n 1, 0, 0, 0, .null), (.iload_n 3, 0, 0, 0, .null), (.lushr, 0, 0, 0, .null), (.l2i, 0, 0, 0, .null), (.bipush 31, 0, 0, 0, .int (31 : Int32)), (.iand, 0, 0, 0, .null), (.istore 4, 0, 0, 0, .null), (.iload 4, 0, 0, 0, .null)] [] (WW' := [w_Sc G a0 s0]) (lv' := [some (.ref (a0 0)), some (.long x1), none, some (.int x3), some (.int ((zr_ushrl x1 x3).toInt32 &&& (31 : Int32)))]) (pc' := 18) (st' := [.int ((zr_ushrl x1 x3).toInt32 &&& (31 : Int32))]) (by decide +kernel) rfl rfl ⟨trivial, trivial, trivial, trivial, trivial, trivial, trivial, trivial, trivial⟩ ?_
    refine zr_if_eq (off := 14) (tgt := 32) (by decide +kernel) (by decide) (fun hc => ?_) (fun hc => ?_)
    · have hf := zift hf hc
      refine zr_run [] [4] (WW' := [w_Sc G a0 s0]) (lv' := [some (.ref (a0 0)), some (.long x1), none, some (.int x3), none]) (pc' := 32) (st' := []) (by decide +kernel) rfl rfl trivial ?_
      exact t_X8_name_b32 l G a0 W0 r s0 k3 hk3 x1 x3 hf
    · have hf := ziff hf hc
      obtain ⟨q1, e1, hf⟩ := zbi_of hf
      refine zr_run [(.aload_n 0, 0, 0, 0, .null), (.bipush 97, 0, 0, 0, .int (97 : Int32)), (.iload 4, 0, 0, 0, .null), (.iadd, 0, 0, 0, .null), (.iconst 1, 0, 0, 0, .int (1 : Int32)), (.isub, 0, 0, 0, .null)] [] (WW' := [w_Sc G a0 s0]) (lv' := [some (.ref (a0 0)), some (.long x1), none, some (.int x3), some (.int ((zr_ushrl x1 x3).toInt32 &&& (31 : Int32)))]) (pc' := 29) (st' := [.int (((97 : Int32) + ((zr_ushrl x1 x3).toInt32 &&& (31 : Int32))) - (1 : Int32)), .ref (a0 0)]) (by decide +kernel) rfl rfl ⟨trivial, trivial, trivial, trivial, trivial, trivial, trivial⟩ ?_
      refine zr_callV (c_X8_sign l G a0 s0 (((97 : Int32) + ((zr_ushrl x1 x3).toInt32 &&& (31 : Int32))) - (1 : Int32)) q1 e1) (WW' := fun _ => [w_Sc G a0 q1]) (st := []) (st' := []) [0] rfl rfl (fun _ => Nat.le_of_ble_eq_true rfl) (fun _ => rfl) rfl rfl nm_X8_sign zw_4_225 zw_4_227 zw_0_30 zw_1_16 zw_4_228 rfl rfl rfl (Nat.le_of_ble_eq_true rfl) ⟨Nat.le_of_ble_eq_true rfl, Nat.le_of_ble_eq_true rfl⟩ (by decide +kernel) (fun _ => ?_)
      refine zr_run [] [4] (WW' := [w_Sc G a0 q1]) (lv' := [some (.ref (a0 0)), some (.long x1), none, some (.int x3), none]) (pc' := 32) (st' := []) (by decide +kernel) rfl rfl trivial ?_
      exact t_X8_name_b32 l G a0 W0 r q1 k3 hk3 x1 x3 hf
theorem t_X8_name_L3 (l : Launch) (G : zj_G) (a0 : Nat → Nat) (W0 : List va_W) (r : ScT)    : ∀ (n : Nat) (s0 : ScT) (x1 : Int64) (x3 : Int32), f_X8_name_L3 n s0 x1 x3 = some r → zj_J l G M_X8_name W0 (zj_ret G M_X8_name W0 (none) (fun _ => [w_Sc G a0 r])) 0 0 [w_Sc G a0 s0] [some (.ref (a0 0)), some (.long x1), none, some (.int x3), none] 3 [] := by
  intro n
  induction n with
  | zero => intro s0 x1 x3 hf; exact nomatch (show none = some r from hf)
  | succ n ih => intro s0 x1 x3 hf; exact t_X8_name_H3 l G a0 W0 r s0  (f_X8_name_L3 n)  ih x1 x3  hf
set_option maxRecDepth 100000 in
set_option maxHeartbeats 4000000 in
theorem c_X8_name (l : Launch) (G : zj_G) (a0 : Nat → Nat) (s0 : ScT) (x1 : Int64) (r : ScT) (hf : f_X8_name s0 x1 = some r) : zj_C l G M_X8_name yX8_name [w_Sc G a0 s0] [.ref (a0 0), .long x1] (none) (fun _ => [w_Sc G a0 r]) := by
  have key : ∀ W0 : List va_W, zj_J l G M_X8_name W0 (zj_ret G M_X8_name W0 (none) (fun _ => [w_Sc G a0 r])) 0 0 [w_Sc G a0 s0] [some (.ref (a0 0)), some (.long x1), none, none, none] 0 [] := by
    intro W0
    unfold f_X8_name at hf
    refine zr_run [(.bipush 30, 0, 0, 0, .int (30 : Int32)), (.istore_n 3, 0, 0, 0, .null)] [] (WW' := [w_Sc G a0 s0]) (lv' := [some (.ref (a0 0)), some (.long x1), none, some (.int (30 : Int32)), none]) (pc' := 3) (st' := []) (by decide +kernel) rfl rfl ⟨trivial, trivial, trivial⟩ ?_
    exact t_X8_name_L3 l G a0 W0 r zFU s0 x1 (30 : Int32) hf
  exact zj_entry [some (.ref (a0 0)), some (.long x1), none, none, none] (by decide +kernel) rfl (by decide) (Nat.le_of_ble_eq_true rfl) rfl rfl (key _)
def M_X8_words : zj_M := (RX8, cX8_words, 3, none, { frames := 4, cells := 0, slots := 0, locals := 141 }, false)
theorem nm_X8_words : zj_nm yX8_words 1 := ⟨by decide +kernel, by decide +kernel, by decide +kernel⟩
def f_X8_words_H2 (j1 : Nat) (s0 : ScT) (k2 : ScT → Int32 → Option (ScT)) (x2 : Int32) : Option (ScT) := (if x2 < (nI (zj_slen.getD j1 0)) then (if zb_in x2 (zj_slen.getD j1 0) = true then ((f_X8_sign s0 (zj_ch j1 x2)).bind fun q2 => k2 q2 (x2 + (1 : Int32))) else none) else some s0)
def f_X8_words_L2 (j1 : Nat)   : Nat → ScT → Int32 → Option (ScT)
  | 0 => fun _ _ => none
  | n + 1 => fun s0 x2 => f_X8_words_H2 j1 s0 (f_X8_words_L2 j1  n) x2
def f_X8_words (j1 : Nat) (s0 : ScT)  : Option (ScT) := f_X8_words_L2 j1 zFU s0 (0 : Int32)
set_option maxRecDepth 100000 in
set_option maxHeartbeats 4000000 in
theorem t_X8_words_H2 (l : Launch) (G : zj_G) (j1 : Nat) (hj1 : j1 < 8) (a0 : Nat → Nat) (W0 : List va_W) (r : ScT) (s0 : ScT) (k2 : ScT → Int32 → Option (ScT)) (hk2 : ∀ (s0 : ScT) (x2 : Int32), k2 s0 x2 = some r → zj_J l G M_X8_words W0 (zj_ret G M_X8_words W0 (none) (fun _ => [w_Sc G a0 r])) 0 0 [w_Sc G a0 s0] [some (.ref (a0 0)), some (.ref (G.2.2.1 j1)), some (.int x2)] 2 []) (x2 : Int32) (hf : f_X8_words_H2 j1 s0 k2 x2 = some r) : zj_J l G M_X8_words W0 (zj_ret G M_X8_words W0 (none) (fun _ => [w_Sc G a0 r])) 0 0 [w_Sc G a0 s0] [some (.ref (a0 0)), some (.ref (G.2.2.1 j1)), some (.int x2)] 2 [] := by
  unfold f_X8_words_H2 at hf
  refine zr_run [(.iload_n 2, 0, 0, 0, .null), (.aload_n 1, 0, 0, 0, .null)] [] (WW' := [w_Sc G a0 s0]) (lv' := [some (.ref (a0 0)), some (.ref (G.2.2.1 j1)), some (.int x2)]) (pc' := 4) (st' := [.ref (G.2.2.1 j1), .int x2]) (by decide +kernel) rfl rfl ⟨trivial, trivial, trivial⟩ ?_
  refine zr_callX (c_J0_length_8abf5 l G j1 hj1) hj1 rfl (st := [.int x2]) (st' := [.int (nI (zj_slen.getD j1 0)), .int x2]) rfl rfl nm_J0_length_8abf5 zw_4_235 zw_1_42 zw_1_43 zw_1_3 zw_1_44 rfl (Nat.le_of_ble_eq_true rfl) ⟨Nat.le_of_ble_eq_true rfl, Nat.le_of_ble_eq_true rfl⟩ (by decide +kernel) ?_
  refine zr_icmp_ge (off := 18) (tgt := 25) (by decide +kernel) (by decide) (fun hc => ?_) (fun hc => ?_)
  · have hf := zift hf hc
    obtain ⟨h1, hf⟩ := zck_of hf
    refine zr_run [(.aload_n 0, 0, 0, 0, .null), (.aload_n 1, 0, 0, 0, .null), (.iload_n 2, 0, 0, 0, .null)] [] (WW' := [w_Sc G a0 s0]) (lv' := [some (.ref (a0 0)), some (.ref (G.2.2.1 j1)), some (.int x2)]) (pc' := 13) (st' := [.int x2, .ref (G.2.2.1 j1), .ref (a0 0)]) (by decide +kernel) rfl rfl ⟨trivial, trivial, trivial, trivial⟩ ?_
    refine zr_callX (c_J0_charAt_5068e l G j1 x2 hj1 h1) hj1 rfl (st := [.ref (a0 0)]) (st' := [.int (zj_ch j1 x2), .ref (a0 0)]) rfl rfl nm_J0_charAt_5068e zw_4_236 zw_1_52 zw_1_53 zw_1_3 zw_1_54 rfl (Nat.le_of_ble_eq_true rfl) ⟨Nat.le_of_ble_eq_true rfl, Nat.le_of_ble_eq_true rfl⟩ (by decide +kernel) ?_
    obtain ⟨q2, e2, hf⟩ := zbi_of hf
    refine zr_callV (c_X8_sign l G a0 s0 (zj_ch j1 x2) q2 e2) (WW' := fun _ => [w_Sc G a0 q2]) (st := []) (st' := []) [0] rfl rfl (fun _ => Nat.le_of_ble_eq_true rfl) (fun _ => rfl) rfl rfl nm_X8_sign zw_4_225 zw_4_227 zw_0_30 zw_1_16 zw_4_228 rfl rfl rfl (Nat.le_of_ble_eq_true rfl) ⟨Nat.le_of_ble_eq_true rfl, Nat.le_of_ble_eq_true rfl⟩ (by decide +kernel) (fun _ => ?_)
    refine zr_run [(.iinc 2 1, 0, 0, 0, .int (1 : Int32))] [] (WW' := [w_Sc G a0 q2]) (lv' := [some (.ref (a0 0)), some (.ref (G.2.2.1 j1)), some (.int (x2 + (1 : Int32)))]) (pc' := 22) (st' := []) (by decide +kernel) rfl rfl ⟨trivial, trivial⟩ ?_
    refine zr_goto (off := -20) (tgt := 2) (by decide +kernel) (by decide) ?_
    exact hk2 q2 (x2 + (1 : Int32)) hf
  · have hf := ziff hf hc
    obtain rfl := Option.some.inj hf
    exact zr_vret (b0 := fun _ => 0) (by decide +kernel) rfl rfl rfl rfl rfl
theorem t_X8_words_L2 (l : Launch) (G : zj_G) (j1 : Nat) (hj1 : j1 < 8) (a0 : Nat → Nat) (W0 : List va_W) (r : ScT)    : ∀ (n : Nat) (s0 : ScT) (x2 : Int32), f_X8_words_L2 j1 n s0 x2 = some r → zj_J l G M_X8_words W0 (zj_ret G M_X8_words W0 (none) (fun _ => [w_Sc G a0 r])) 0 0 [w_Sc G a0 s0] [some (.ref (a0 0)), some (.ref (G.2.2.1 j1)), some (.int x2)] 2 [] := by
  intro n
  induction n with
  | zero => intro s0 x2 hf; exact nomatch (show none = some r from hf)
  | succ n ih => intro s0 x2 hf; exact t_X8_words_H2 l G j1 hj1 a0 W0 r s0  (f_X8_words_L2 j1 n)  ih x2  hf
set_option maxRecDepth 100000 in
set_option maxHeartbeats 4000000 in
theorem c_X8_words (l : Launch) (G : zj_G) (j1 : Nat) (hj1 : j1 < 8) (a0 : Nat → Nat) (s0 : ScT)  (r : ScT) (hf : f_X8_words j1 s0 = some r) : zj_C l G M_X8_words yX8_words [w_Sc G a0 s0] [.ref (a0 0), .ref (G.2.2.1 j1)] (none) (fun _ => [w_Sc G a0 r]) := by
  have key : ∀ W0 : List va_W, zj_J l G M_X8_words W0 (zj_ret G M_X8_words W0 (none) (fun _ => [w_Sc G a0 r])) 0 0 [w_Sc G a0 s0] [some (.ref (a0 0)), some (.ref (G.2.2.1 j1)), none] 0 [] := by
    intro W0
    unfold f_X8_words at hf
    refine zr_run [(.iconst 0, 0, 0, 0, .int (0 : Int32)), (.istore_n 2, 0, 0, 0, .null)] [] (WW' := [w_Sc G a0 s0]) (lv' := [some (.ref (a0 0)), some (.ref (G.2.2.1 j1)), some (.int (0 : Int32))]) (pc' := 2) (st' := []) (by decide +kernel) rfl rfl ⟨trivial, trivial, trivial⟩ ?_
    exact t_X8_words_L2 l G j1 hj1 a0 W0 r zFU s0 (0 : Int32) hf
  exact zj_entry [some (.ref (a0 0)), some (.ref (G.2.2.1 j1)), none] (by decide +kernel) rfl (by decide) (Nat.le_of_ble_eq_true rfl) rfl rfl (key _)
def M_X8_digits : zj_M := (RX8, cX8_digits, 2, none, { frames := 1, cells := 0, slots := 0, locals := 21 }, false)
theorem nm_X8_digits : zj_nm yX8_digits 1 := ⟨by decide +kernel, by decide +kernel, by decide +kernel⟩
def f_X8_digits_b17  (s0 : ScT)  (x1 : Int32) : Option (ScT) := ((f_X8_sign s0 ((48 : Int32) + (zr_rem x1 (10 : Int32)))).bind fun q1 => some q1)
def f_X8_digits  (s0 : ScT) (x1 : Int32) : Option (ScT) := (if x1 < (10 : Int32) then f_X8_digits_b17 s0 x1 else ((f_X8_sign s0 ((48 : Int32) + (x1 / (10 : Int32)))).bind fun q2 => f_X8_digits_b17 q2 x1))
set_option maxRecDepth 100000 in
set_option maxHeartbeats 4000000 in
theorem t_X8_digits_b17 (l : Launch) (G : zj_G) (a0 : Nat → Nat) (W0 : List va_W) (r : ScT) (s0 : ScT)   (x1 : Int32) (hf : f_X8_digits_b17 s0 x1 = some r) : zj_J l G M_X8_digits W0 (zj_ret G M_X8_digits W0 (none) (fun _ => [w_Sc G a0 r])) 0 0 [w_Sc G a0 s0] [some (.ref (a0 0)), some (.int x1)] 17 [] := by
  unfold f_X8_digits_b17 at hf
  obtain ⟨q1, e1, hf⟩ := zbi_of hf
  refine zr_run [(.aload_n 0, 0, 0, 0, .null), (.bipush 48, 0, 0, 0, .int (48 : Int32)), (.iload_n 1, 0, 0, 0, .null), (.bipush 10, 0, 0, 0, .int (10 : Int32)), (.irem, 0, 0, 0, .null), (.iadd, 0, 0, 0, .null)] [] (WW' := [w_Sc G a0 s0]) (lv' := [some (.ref (a0 0)), some (.int x1)]) (pc' := 25) (st' := [.int ((48 : Int32) + (zr_rem x1 (10 : Int32))), .ref (a0 0)]) (by decide +kernel) rfl rfl ⟨trivial, trivial, trivial, trivial, (by decide), trivial, trivial⟩ ?_
  refine zr_callV (c_X8_sign l G a0 s0 ((48 : Int32) + (zr_rem x1 (10 : Int32))) q1 e1) (WW' := fun _ => [w_Sc G a0 q1]) (st := []) (st' := []) [0] rfl rfl (fun _ => Nat.le_of_ble_eq_true rfl) (fun _ => rfl) rfl rfl nm_X8_sign zw_4_225 zw_4_227 zw_0_30 zw_1_16 zw_4_228 rfl rfl rfl (Nat.le_of_ble_eq_true rfl) ⟨Nat.le_of_ble_eq_true rfl, Nat.le_of_ble_eq_true rfl⟩ (by decide +kernel) (fun _ => ?_)
  obtain rfl := Option.some.inj hf
  exact zr_vret (b0 := fun _ => 0) (by decide +kernel) rfl rfl rfl rfl rfl
set_option maxRecDepth 100000 in
set_option maxHeartbeats 4000000 in
theorem c_X8_digits (l : Launch) (G : zj_G) (a0 : Nat → Nat) (s0 : ScT) (x1 : Int32) (r : ScT) (hf : f_X8_digits s0 x1 = some r) : zj_C l G M_X8_digits yX8_digits [w_Sc G a0 s0] [.ref (a0 0), .int x1] (none) (fun _ => [w_Sc G a0 r]) := by
  have key : ∀ W0 : List va_W, zj_J l G M_X8_digits W0 (zj_ret G M_X8_digits W0 (none) (fun _ => [w_Sc G a0 r])) 0 0 [w_Sc G a0 s0] [some (.ref (a0 0)), some (.int x1)] 0 [] := by
    intro W0
    unfold f_X8_digits at hf
    refine zr_run [(.iload_n 1, 0, 0, 0, .null), (.bipush 10, 0, 0, 0, .int (10 : Int32))] [] (WW' := [w_Sc G a0 s0]) (lv' := [some (.ref (a0 0)), some (.int x1)]) (pc' := 3) (st' := [.int (10 : Int32), .int x1]) (by decide +kernel) rfl rfl ⟨trivial, trivial, trivial⟩ ?_
    refine zr_icmp_lt (off := 14) (tgt := 17) (by decide +kernel) (by decide) (fun hc => ?_) (fun hc => ?_)
    · have hf := zift hf hc
      exact t_X8_digits_b17 l G a0 W0 r s0 x1 hf
    · have hf := ziff hf hc
      obtain ⟨q2, e2, hf⟩ := zbi_of hf
      refine zr_run [(.aload_n 0, 0, 0, 0, .null), (.bipush 48, 0, 0, 0, .int (48 : Int32)), (.iload_n 1, 0, 0, 0, .null), (.bipush 10, 0, 0, 0, .int (10 : Int32)), (.idiv, 0, 0, 0, .null), (.iadd, 0, 0, 0, .null)] [] (WW' := [w_Sc G a0 s0]) (lv' := [some (.ref (a0 0)), some (.int x1)]) (pc' := 14) (st' := [.int ((48 : Int32) + (x1 / (10 : Int32))), .ref (a0 0)]) (by decide +kernel) rfl rfl ⟨trivial, trivial, trivial, trivial, (by decide), trivial, trivial⟩ ?_
      refine zr_callV (c_X8_sign l G a0 s0 ((48 : Int32) + (x1 / (10 : Int32))) q2 e2) (WW' := fun _ => [w_Sc G a0 q2]) (st := []) (st' := []) [0] rfl rfl (fun _ => Nat.le_of_ble_eq_true rfl) (fun _ => rfl) rfl rfl nm_X8_sign zw_4_225 zw_4_227 zw_0_30 zw_1_16 zw_4_228 rfl rfl rfl (Nat.le_of_ble_eq_true rfl) ⟨Nat.le_of_ble_eq_true rfl, Nat.le_of_ble_eq_true rfl⟩ (by decide +kernel) (fun _ => ?_)
      exact t_X8_digits_b17 l G a0 W0 r q2 x1 hf
  exact zj_entry [some (.ref (a0 0)), some (.int x1)] (by decide +kernel) rfl (by decide) (Nat.le_of_ble_eq_true rfl) rfl rfl (key _)
def M_X8_write : zj_M := (RX8, cX8_write, 4, (some .int), { frames := 5, cells := 0, slots := 0, locals := 163 }, false)
theorem nm_X8_write : zj_nm yX8_write 3 := ⟨by decide +kernel, by decide +kernel, by decide +kernel⟩
def f_X8_write  (s0 : ScT) (s1 : LdT) (s2 : FkT) (x3 : Int32) : Option (Int32 × ScT) := (zlet (Sc_s_length s0 (0 : Int32)) fun y1 => ((f_X3_nameOfMan s1 x3).bind fun q2 => ((f_X8_name y1 q2).bind fun q3 => ((f_X1_of s2 x3 (0 : Int32)).bind fun q4 => (if q4 = (0 : Int32) then ((f_X8_words 1 q3).bind fun q5 => ((f_X1_of s2 x3 (4 : Int32)).bind fun q6 => ((f_X3_nameOfPlace s1 q6).bind fun q7 => ((f_X8_name q5 q7).bind fun q8 => some ((Sc_length q8), q8))))) else (if q4 = (1 : Int32) then ((f_X8_words 2 q3).bind fun q9 => ((f_X1_of s2 x3 (3 : Int32)).bind fun q10 => ((f_X3_nameOfPlace s1 q10).bind fun q11 => ((f_X8_name q9 q11).bind fun q12 => ((f_X8_words 3 q12).bind fun q13 => ((f_X1_daysYet s2 x3).bind fun q14 => ((f_X8_digits q13 q14).bind fun q15 => some ((Sc_length q15), q15)))))))) else (if q4 = (2 : Int32) then ((f_X8_words 4 q3).bind fun q16 => some ((Sc_length q16), q16)) else (if q4 = (3 : Int32) then ((f_X8_words 5 q3).bind fun q17 => some ((Sc_length q17), q17)) else (if q4 = (4 : Int32) then ((f_X8_words 6 q3).bind fun q18 => some ((Sc_length q18), q18)) else ((f_X8_words 7 q3).bind fun q19 => some ((Sc_length q19), q19)))))))))))
set_option maxRecDepth 100000 in
set_option maxHeartbeats 4000000 in
theorem c_X8_write (l : Launch) (G : zj_G) (a0 : Nat → Nat) (a1 : Nat → Nat) (a2 : Nat → Nat) (s0 : ScT) (s1 : LdT) (s2 : FkT) (x3 : Int32) (r : Int32 × ScT) (hf : f_X8_write s0 s1 s2 x3 = some r) : zj_C l G M_X8_write yX8_write [w_Sc G a0 s0, w_Ld G a1 s1, w_Fk G a2 s2] [.ref (a0 0), .ref (a1 0), .ref (a2 0), .int x3] (some (.int r.1)) (fun _ => [w_Sc G a0 r.2, w_Ld G a1 s1, w_Fk G a2 s2]) := by
  have key : ∀ W0 : List va_W, zj_J l G M_X8_write W0 (zj_ret G M_X8_write W0 (some (.int r.1)) (fun _ => [w_Sc G a0 r.2, w_Ld G a1 s1, w_Fk G a2 s2])) 0 0 [w_Sc G a0 s0, w_Ld G a1 s1, w_Fk G a2 s2] [some (.ref (a0 0)), some (.ref (a1 0)), some (.ref (a2 0)), some (.int x3)] 0 [] := by
    intro W0
    unfold f_X8_write at hf
    obtain ⟨y1, e1, hf⟩ := zlet_of hf
    refine zr_run [(.aload_n 0, 0, 0, 0, .null), (.iconst 0, 0, 0, 0, .int (0 : Int32)), (.putfield 15, 0, 0, 1, .null)] [] (WW' := [w_Sc G a0 (Sc_s_length s0 (0 : Int32)), w_Ld G a1 s1, w_Fk G a2 s2]) (lv' := [some (.ref (a0 0)), some (.ref (a1 0)), some (.ref (a2 0)), some (.int x3)]) (pc' := 5) (st' := []) (by decide +kernel) rfl rfl ⟨trivial, trivial, ⟨rfl, rfl, rfl, trivial, rfl, rfl, zw_2_121⟩, trivial⟩ ?_
    refine zr_eq (WW2 := [w_Sc G a0 y1, w_Ld G a1 s1, w_Fk G a2 s2]) (lv2 := [some (.ref (a0 0)), some (.ref (a1 0)), some (.ref (a2 0)), some (.int x3)]) (st2 := []) (by rw [e1]) rfl rfl ?_
    obtain ⟨q2, e2, hf⟩ := zbi_of hf
    refine zr_run [(.aload_n 0, 0, 0, 0, .null), (.aload_n 1, 0, 0, 0, .null), (.iload_n 3, 0, 0, 0, .null)] [] (WW' := [w_Sc G a0 y1, w_Ld G a1 s1, w_Fk G a2 s2]) (lv' := [some (.ref (a0 0)), some (.ref (a1 0)), some (.ref (a2 0)), some (.int x3)]) (pc' := 8) (st' := [.int x3, .ref (a1 0), .ref (a0 0)]) (by decide +kernel) rfl rfl ⟨trivial, trivial, trivial, trivial⟩ ?_
    refine zr_callV (c_X3_nameOfMan l G a1 s1 x3 q2 e2) (WW' := fun _ => [w_Sc G a0 y1, w_Ld G a1 s1, w_Fk G a2 s2]) (st := [.ref (a0 0)]) (st' := [.long q2, .ref (a0 0)]) [1] rfl rfl (fun _ => Nat.le_of_ble_eq_true rfl) (fun _ => rfl) rfl rfl nm_X3_nameOfMan zw_4_219n zw_4_220n zw_4_221n zw_1_7 zw_4_222 rfl rfl rfl (Nat.le_of_ble_eq_true rfl) ⟨Nat.le_of_ble_eq_true rfl, Nat.le_of_ble_eq_true rfl⟩ (by decide +kernel) (fun _ => ?_)
    obtain ⟨q3, e3, hf⟩ := zbi_of hf
    refine zr_callV (c_X8_name l G a0 y1 q2 q3 e3) (WW' := fun _ => [w_Sc G a0 q3, w_Ld G a1 s1, w_Fk G a2 s2]) (st := []) (st' := []) [0] rfl rfl (fun _ => Nat.le_of_ble_eq_true rfl) (fun _ => rfl) rfl rfl nm_X8_name zw_4_221 zw_4_223 zw_0_29 zw_1_16 zw_4_224 rfl rfl rfl (Nat.le_of_ble_eq_true rfl) ⟨Nat.le_of_ble_eq_true rfl, Nat.le_of_ble_eq_true rfl⟩ (by decide +kernel) (fun _ => ?_)
    obtain ⟨q4, e4, hf⟩ := zbi_of hf
    refine zr_run [(.aload_n 2, 0, 0, 0, .null), (.iload_n 3, 0, 0, 0, .null), (.iconst 0, 0, 0, 0, .int (0 : Int32))] [] (WW' := [w_Sc G a0 q3, w_Ld G a1 s1, w_Fk G a2 s2]) (lv' := [some (.ref (a0 0)), some (.ref (a1 0)), some (.ref (a2 0)), some (.int x3)]) (pc' := 17) (st' := [.int (0 : Int32), .int x3, .ref (a2 0)]) (by decide +kernel) rfl rfl ⟨trivial, trivial, trivial, trivial⟩ ?_
    refine zr_callV (c_X1_of l G a2 s2 x3 (0 : Int32) q4 e4) (WW' := fun _ => [w_Sc G a0 q3, w_Ld G a1 s1, w_Fk G a2 s2]) (st := []) (st' := [.int q4]) [2] rfl rfl (fun _ => Nat.le_of_ble_eq_true rfl) (fun _ => rfl) rfl rfl nm_X1_of zw_4_229 zw_3_142 zw_3_143 zw_1_8 zw_3_142n rfl rfl rfl (Nat.le_of_ble_eq_true rfl) ⟨Nat.le_of_ble_eq_true rfl, Nat.le_of_ble_eq_true rfl⟩ (by decide +kernel) (fun _ => ?_)
    by_cases hc0 : q4 = (0 : Int32)
    · have hf := zift hf hc0
      refine zr_tabIn (v := (0 : Int32)) (tgt := 56) (dflt := 124) (lo := 0) (hi := 4) (offs := #[36, 59, 97, 106, 115]) (len := 36) (off := 36) hc0 (by decide +kernel) (by decide) (by decide) (by decide) ?_
      refine zr_run [(.aload_n 0, 0, 0, 0, .null)] [] (WW' := [w_Sc G a0 q3, w_Ld G a1 s1, w_Fk G a2 s2]) (lv' := [some (.ref (a0 0)), some (.ref (a1 0)), some (.ref (a2 0)), some (.int x3)]) (pc' := 57) (st' := [.ref (a0 0)]) (by decide +kernel) rfl rfl ⟨trivial, trivial⟩ ?_
      refine zr_ldcS (i := 1) rfl (by decide +kernel) ?_
      obtain ⟨q5, e5, hf⟩ := zbi_of hf
      refine zr_callV (c_X8_words l G 1 (by decide) a0 q3 q5 e5) (WW' := fun _ => [w_Sc G a0 q5, w_Ld G a1 s1, w_Fk G a2 s2]) (st := []) (st' := []) [0] rfl rfl (fun _ => Nat.le_of_ble_eq_true rfl) (fun _ => rfl) rfl rfl nm_X8_words zw_4_231 zw_4_233 zw_0_31 zw_1_16 zw_4_234 rfl rfl rfl (Nat.le_of_ble_eq_true rfl) ⟨Nat.le_of_ble_eq_true rfl, Nat.le_of_ble_eq_true rfl⟩ (by decide +kernel) (fun _ => ?_)
      obtain ⟨q6, e6, hf⟩ := zbi_of hf
      refine zr_run [(.aload_n 0, 0, 0, 0, .null), (.aload_n 1, 0, 0, 0, .null), (.aload_n 2, 0, 0, 0, .null), (.iload_n 3, 0, 0, 0, .null), (.iconst 4, 0, 0, 0, .int (4 : Int32))] [] (WW' := [w_Sc G a0 q5, w_Ld G a1 s1, w_Fk G a2 s2]) (lv' := [some (.ref (a0 0)), some (.ref (a1 0)), some (.ref (a2 0)), some (.int x3)]) (pc' := 67) (st' := [.int (4 : Int32), .int x3, .ref (a2 0), .ref (a1 0), .ref (a0 0)]) (by decide +kernel) rfl rfl ⟨trivial, trivial, trivial, trivial, trivial, trivial⟩ ?_
      refine zr_callV (c_X1_of l G a2 s2 x3 (4 : Int32) q6 e6) (WW' := fun _ => [w_Sc G a0 q5, w_Ld G a1 s1, w_Fk G a2 s2]) (st := [.ref (a1 0), .ref (a0 0)]) (st' := [.int q6, .ref (a1 0), .ref (a0 0)]) [2] rfl rfl (fun _ => Nat.le_of_ble_eq_true rfl) (fun _ => rfl) rfl rfl nm_X1_of zw_4_229 zw_3_142 zw_3_143 zw_1_8 zw_3_142n rfl rfl rfl (Nat.le_of_ble_eq_true rfl) ⟨Nat.le_of_ble_eq_true rfl, Nat.le_of_ble_eq_true rfl⟩ (by decide +kernel) (fun _ => ?_)
      obtain ⟨q7, e7, hf⟩ := zbi_of hf
      refine zr_callV (c_X3_nameOfPlace l G a1 s1 q6 q7 e7) (WW' := fun _ => [w_Sc G a0 q5, w_Ld G a1 s1, w_Fk G a2 s2]) (st := [.ref (a0 0)]) (st' := [.long q7, .ref (a0 0)]) [1] rfl rfl (fun _ => Nat.le_of_ble_eq_true rfl) (fun _ => rfl) rfl rfl nm_X3_nameOfPlace zw_4_239n zw_5_0n zw_5_1 zw_1_7 zw_5_2n rfl rfl rfl (Nat.le_of_ble_eq_true rfl) ⟨Nat.le_of_ble_eq_true rfl, Nat.le_of_ble_eq_true rfl⟩ (by decide +kernel) (fun _ => ?_)
      obtain ⟨q8, e8, hf⟩ := zbi_of hf
      refine zr_callV (c_X8_name l G a0 q5 q7 q8 e8) (WW' := fun _ => [w_Sc G a0 q8, w_Ld G a1 s1, w_Fk G a2 s2]) (st := []) (st' := []) [0] rfl rfl (fun _ => Nat.le_of_ble_eq_true rfl) (fun _ => rfl) rfl rfl nm_X8_name zw_4_221 zw_4_223 zw_0_29 zw_1_16 zw_4_224 rfl rfl rfl (Nat.le_of_ble_eq_true rfl) ⟨Nat.le_of_ble_eq_true rfl, Nat.le_of_ble_eq_true rfl⟩ (by decide +kernel) (fun _ => ?_)
      refine zr_goto (off := 74) (tgt := 150) (by decide +kernel) (by decide) ?_
      refine zr_run [(.aload_n 0, 0, 0, 0, .null), (.getfield 15, 0, 0, 1, .null)] [] (WW' := [w_Sc G a0 q8, w_Ld G a1 s1, w_Fk G a2 s2]) (lv' := [some (.ref (a0 0)), some (.ref (a1 0)), some (.ref (a2 0)), some (.int x3)]) (pc' := 154) (st' := [.int (Sc_length q8)]) (by decide +kernel) rfl rfl ⟨trivial, ⟨rfl, rfl, zw_2_121⟩, trivial⟩ ?_
      obtain rfl := Option.some.inj hf
      exact zr_iret (b0 := fun _ => 0) (by decide +kernel) rfl rfl rfl rfl rfl
    · have hf := ziff hf hc0
      by_cases hc1 : q4 = (1 : Int32)
      · have hf := zift hf hc1
        refine zr_tabIn (v := (1 : Int32)) (tgt := 79) (dflt := 124) (lo := 0) (hi := 4) (offs := #[36, 59, 97, 106, 115]) (len := 36) (off := 59) hc1 (by decide +kernel) (by decide) (by decide) (by decide) ?_
        refine zr_run [(.aload_n 0, 0, 0, 0, .null)] [] (WW' := [w_Sc G a0 q3, w_Ld G a1 s1, w_Fk G a2 s2]) (lv' := [some (.ref (a0 0)), some (.ref (a1 0)), some (.ref (a2 0)), some (.int x3)]) (pc' := 80) (st' := [.ref (a0 0)]) (by decide +kernel) rfl rfl ⟨trivial, trivial⟩ ?_
        refine zr_ldcS (i := 2) rfl (by decide +kernel) ?_
        obtain ⟨q9, e9, hf⟩ := zbi_of hf
        refine zr_callV (c_X8_words l G 2 (by decide) a0 q3 q9 e9) (WW' := fun _ => [w_Sc G a0 q9, w_Ld G a1 s1, w_Fk G a2 s2]) (st := []) (st' := []) [0] rfl rfl (fun _ => Nat.le_of_ble_eq_true rfl) (fun _ => rfl) rfl rfl nm_X8_words zw_4_231 zw_4_233 zw_0_31 zw_1_16 zw_4_234 rfl rfl rfl (Nat.le_of_ble_eq_true rfl) ⟨Nat.le_of_ble_eq_true rfl, Nat.le_of_ble_eq_true rfl⟩ (by decide +kernel) (fun _ => ?_)
        obtain ⟨q10, e10, hf⟩ := zbi_of hf
        refine zr_run [(.aload_n 0, 0, 0, 0, .null), (.aload_n 1, 0, 0, 0, .null), (.aload_n 2, 0, 0, 0, .null), (.iload_n 3, 0, 0, 0, .null), (.iconst 3, 0, 0, 0, .int (3 : Int32))] [] (WW' := [w_Sc G a0 q9, w_Ld G a1 s1, w_Fk G a2 s2]) (lv' := [some (.ref (a0 0)), some (.ref (a1 0)), some (.ref (a2 0)), some (.int x3)]) (pc' := 90) (st' := [.int (3 : Int32), .int x3, .ref (a2 0), .ref (a1 0), .ref (a0 0)]) (by decide +kernel) rfl rfl ⟨trivial, trivial, trivial, trivial, trivial, trivial⟩ ?_
        refine zr_callV (c_X1_of l G a2 s2 x3 (3 : Int32) q10 e10) (WW' := fun _ => [w_Sc G a0 q9, w_Ld G a1 s1, w_Fk G a2 s2]) (st := [.ref (a1 0), .ref (a0 0)]) (st' := [.int q10, .ref (a1 0), .ref (a0 0)]) [2] rfl rfl (fun _ => Nat.le_of_ble_eq_true rfl) (fun _ => rfl) rfl rfl nm_X1_of zw_4_229 zw_3_142 zw_3_143 zw_1_8 zw_3_142n rfl rfl rfl (Nat.le_of_ble_eq_true rfl) ⟨Nat.le_of_ble_eq_true rfl, Nat.le_of_ble_eq_true rfl⟩ (by decide +kernel) (fun _ => ?_)
        obtain ⟨q11, e11, hf⟩ := zbi_of hf
        refine zr_callV (c_X3_nameOfPlace l G a1 s1 q10 q11 e11) (WW' := fun _ => [w_Sc G a0 q9, w_Ld G a1 s1, w_Fk G a2 s2]) (st := [.ref (a0 0)]) (st' := [.long q11, .ref (a0 0)]) [1] rfl rfl (fun _ => Nat.le_of_ble_eq_true rfl) (fun _ => rfl) rfl rfl nm_X3_nameOfPlace zw_4_239n zw_5_0n zw_5_1 zw_1_7 zw_5_2n rfl rfl rfl (Nat.le_of_ble_eq_true rfl) ⟨Nat.le_of_ble_eq_true rfl, Nat.le_of_ble_eq_true rfl⟩ (by decide +kernel) (fun _ => ?_)
        obtain ⟨q12, e12, hf⟩ := zbi_of hf
        refine zr_callV (c_X8_name l G a0 q9 q11 q12 e12) (WW' := fun _ => [w_Sc G a0 q12, w_Ld G a1 s1, w_Fk G a2 s2]) (st := []) (st' := []) [0] rfl rfl (fun _ => Nat.le_of_ble_eq_true rfl) (fun _ => rfl) rfl rfl nm_X8_name zw_4_221 zw_4_223 zw_0_29 zw_1_16 zw_4_224 rfl rfl rfl (Nat.le_of_ble_eq_true rfl) ⟨Nat.le_of_ble_eq_true rfl, Nat.le_of_ble_eq_true rfl⟩ (by decide +kernel) (fun _ => ?_)
        refine zr_run [(.aload_n 0, 0, 0, 0, .null)] [] (WW' := [w_Sc G a0 q12, w_Ld G a1 s1, w_Fk G a2 s2]) (lv' := [some (.ref (a0 0)), some (.ref (a1 0)), some (.ref (a2 0)), some (.int x3)]) (pc' := 100) (st' := [.ref (a0 0)]) (by decide +kernel) rfl rfl ⟨trivial, trivial⟩ ?_
        refine zr_ldcS (i := 3) rfl (by decide +kernel) ?_
        obtain ⟨q13, e13, hf⟩ := zbi_of hf
        refine zr_callV (c_X8_words l G 3 (by decide) a0 q12 q13 e13) (WW' := fun _ => [w_Sc G a0 q13, w_Ld G a1 s1, w_Fk G a2 s2]) (st := []) (st' := []) [0] rfl rfl (fun _ => Nat.le_of_ble_eq_true rfl) (fun _ => rfl) rfl rfl nm_X8_words zw_4_231 zw_4_233 zw_0_31 zw_1_16 zw_4_234 rfl rfl rfl (Nat.le_of_ble_eq_true rfl) ⟨Nat.le_of_ble_eq_true rfl, Nat.le_of_ble_eq_true rfl⟩ (by decide +kernel) (fun _ => ?_)
        obtain ⟨q14, e14, hf⟩ := zbi_of hf
        refine zr_run [(.aload_n 0, 0, 0, 0, .null), (.aload_n 2, 0, 0, 0, .null), (.iload_n 3, 0, 0, 0, .null)] [] (WW' := [w_Sc G a0 q13, w_Ld G a1 s1, w_Fk G a2 s2]) (lv' := [some (.ref (a0 0)), some (.ref (a1 0)), some (.ref (a2 0)), some (.int x3)]) (pc' := 108) (st' := [.int x3, .ref (a2 0), .ref (a0 0)]) (by decide +kernel) rfl rfl ⟨trivial, trivial, trivial, trivial⟩ ?_
        refine zr_callV (c_X1_daysYet l G a2 s2 x3 q14 e14) (WW' := fun _ => [w_Sc G a0 q13, w_Ld G a1 s1, w_Fk G a2 s2]) (st := [.ref (a0 0)]) (st' := [.int q14, .ref (a0 0)]) [2] rfl rfl (fun _ => Nat.le_of_ble_eq_true rfl) (fun _ => rfl) rfl rfl nm_X1_daysYet zw_4_239 zw_4_210 zw_4_211 zw_1_8 zw_4_212 rfl rfl rfl (Nat.le_of_ble_eq_true rfl) ⟨Nat.le_of_ble_eq_true rfl, Nat.le_of_ble_eq_true rfl⟩ (by decide +kernel) (fun _ => ?_)
        obtain ⟨q15, e15, hf⟩ := zbi_of hf
        refine zr_callV (c_X8_digits l G a0 q13 q14 q15 e15) (WW' := fun _ => [w_Sc G a0 q15, w_Ld G a1 s1, w_Fk G a2 s2]) (st := []) (st' := []) [0] rfl rfl (fun _ => Nat.le_of_ble_eq_true rfl) (fun _ => rfl) rfl rfl nm_X8_digits zw_5_0 zw_5_2 zw_0_32 zw_1_16 zw_5_3 rfl rfl rfl (Nat.le_of_ble_eq_true rfl) ⟨Nat.le_of_ble_eq_true rfl, Nat.le_of_ble_eq_true rfl⟩ (by decide +kernel) (fun _ => ?_)
        refine zr_goto (off := 36) (tgt := 150) (by decide +kernel) (by decide) ?_
        refine zr_run [(.aload_n 0, 0, 0, 0, .null), (.getfield 15, 0, 0, 1, .null)] [] (WW' := [w_Sc G a0 q15, w_Ld G a1 s1, w_Fk G a2 s2]) (lv' := [some (.ref (a0 0)), some (.ref (a1 0)), some (.ref (a2 0)), some (.int x3)]) (pc' := 154) (st' := [.int (Sc_length q15)]) (by decide +kernel) rfl rfl ⟨trivial, ⟨rfl, rfl, zw_2_121⟩, trivial⟩ ?_
        obtain rfl := Option.some.inj hf
        exact zr_iret (b0 := fun _ => 0) (by decide +kernel) rfl rfl rfl rfl rfl
      · have hf := ziff hf hc1
        by_cases hc2 : q4 = (2 : Int32)
        · have hf := zift hf hc2
          refine zr_tabIn (v := (2 : Int32)) (tgt := 117) (dflt := 124) (lo := 0) (hi := 4) (offs := #[36, 59, 97, 106, 115]) (len := 36) (off := 97) hc2 (by decide +kernel) (by decide) (by decide) (by decide) ?_
          refine zr_run [(.aload_n 0, 0, 0, 0, .null)] [] (WW' := [w_Sc G a0 q3, w_Ld G a1 s1, w_Fk G a2 s2]) (lv' := [some (.ref (a0 0)), some (.ref (a1 0)), some (.ref (a2 0)), some (.int x3)]) (pc' := 118) (st' := [.ref (a0 0)]) (by decide +kernel) rfl rfl ⟨trivial, trivial⟩ ?_
          refine zr_ldcS (i := 4) rfl (by decide +kernel) ?_
          obtain ⟨q16, e16, hf⟩ := zbi_of hf
          refine zr_callV (c_X8_words l G 4 (by decide) a0 q3 q16 e16) (WW' := fun _ => [w_Sc G a0 q16, w_Ld G a1 s1, w_Fk G a2 s2]) (st := []) (st' := []) [0] rfl rfl (fun _ => Nat.le_of_ble_eq_true rfl) (fun _ => rfl) rfl rfl nm_X8_words zw_4_231 zw_4_233 zw_0_31 zw_1_16 zw_4_234 rfl rfl rfl (Nat.le_of_ble_eq_true rfl) ⟨Nat.le_of_ble_eq_true rfl, Nat.le_of_ble_eq_true rfl⟩ (by decide +kernel) (fun _ => ?_)
          refine zr_goto (off := 27) (tgt := 150) (by decide +kernel) (by decide) ?_
          refine zr_run [(.aload_n 0, 0, 0, 0, .null), (.getfield 15, 0, 0, 1, .null)] [] (WW' := [w_Sc G a0 q16, w_Ld G a1 s1, w_Fk G a2 s2]) (lv' := [some (.ref (a0 0)), some (.ref (a1 0)), some (.ref (a2 0)), some (.int x3)]) (pc' := 154) (st' := [.int (Sc_length q16)]) (by decide +kernel) rfl rfl ⟨trivial, ⟨rfl, rfl, zw_2_121⟩, trivial⟩ ?_
          obtain rfl := Option.some.inj hf
          exact zr_iret (b0 := fun _ => 0) (by decide +kernel) rfl rfl rfl rfl rfl
        · have hf := ziff hf hc2
          by_cases hc3 : q4 = (3 : Int32)
          · have hf := zift hf hc3
            refine zr_tabIn (v := (3 : Int32)) (tgt := 126) (dflt := 124) (lo := 0) (hi := 4) (offs := #[36, 59, 97, 106, 115]) (len := 36) (off := 106) hc3 (by decide +kernel) (by decide) (by decide) (by decide) ?_
            refine zr_run [(.aload_n 0, 0, 0, 0, .null)] [] (WW' := [w_Sc G a0 q3, w_Ld G a1 s1, w_Fk G a2 s2]) (lv' := [some (.ref (a0 0)), some (.ref (a1 0)), some (.ref (a2 0)), some (.int x3)]) (pc' := 127) (st' := [.ref (a0 0)]) (by decide +kernel) rfl rfl ⟨trivial, trivial⟩ ?_
            refine zr_ldcS (i := 5) rfl (by decide +kernel) ?_
            obtain ⟨q17, e17, hf⟩ := zbi_of hf
            refine zr_callV (c_X8_words l G 5 (by decide) a0 q3 q17 e17) (WW' := fun _ => [w_Sc G a0 q17, w_Ld G a1 s1, w_Fk G a2 s2]) (st := []) (st' := []) [0] rfl rfl (fun _ => Nat.le_of_ble_eq_true rfl) (fun _ => rfl) rfl rfl nm_X8_words zw_4_231 zw_4_233 zw_0_31 zw_1_16 zw_4_234 rfl rfl rfl (Nat.le_of_ble_eq_true rfl) ⟨Nat.le_of_ble_eq_true rfl, Nat.le_of_ble_eq_true rfl⟩ (by decide +kernel) (fun _ => ?_)
            refine zr_goto (off := 18) (tgt := 150) (by decide +kernel) (by decide) ?_
            refine zr_run [(.aload_n 0, 0, 0, 0, .null), (.getfield 15, 0, 0, 1, .null)] [] (WW' := [w_Sc G a0 q17, w_Ld G a1 s1, w_Fk G a2 s2]) (lv' := [some (.ref (a0 0)), some (.ref (a1 0)), some (.ref (a2 0)), some (.int x3)]) (pc' := 154) (st' := [.int (Sc_length q17)]) (by decide +kernel) rfl rfl ⟨trivial, ⟨rfl, rfl, zw_2_121⟩, trivial⟩ ?_
            obtain rfl := Option.some.inj hf
            exact zr_iret (b0 := fun _ => 0) (by decide +kernel) rfl rfl rfl rfl rfl
          · have hf := ziff hf hc3
            by_cases hc4 : q4 = (4 : Int32)
            · have hf := zift hf hc4
              refine zr_tabIn (v := (4 : Int32)) (tgt := 135) (dflt := 124) (lo := 0) (hi := 4) (offs := #[36, 59, 97, 106, 115]) (len := 36) (off := 115) hc4 (by decide +kernel) (by decide) (by decide) (by decide) ?_
              refine zr_run [(.aload_n 0, 0, 0, 0, .null)] [] (WW' := [w_Sc G a0 q3, w_Ld G a1 s1, w_Fk G a2 s2]) (lv' := [some (.ref (a0 0)), some (.ref (a1 0)), some (.ref (a2 0)), some (.int x3)]) (pc' := 136) (st' := [.ref (a0 0)]) (by decide +kernel) rfl rfl ⟨trivial, trivial⟩ ?_
              refine zr_ldcS (i := 6) rfl (by decide +kernel) ?_
              obtain ⟨q18, e18, hf⟩ := zbi_of hf
              refine zr_callV (c_X8_words l G 6 (by decide) a0 q3 q18 e18) (WW' := fun _ => [w_Sc G a0 q18, w_Ld G a1 s1, w_Fk G a2 s2]) (st := []) (st' := []) [0] rfl rfl (fun _ => Nat.le_of_ble_eq_true rfl) (fun _ => rfl) rfl rfl nm_X8_words zw_4_231 zw_4_233 zw_0_31 zw_1_16 zw_4_234 rfl rfl rfl (Nat.le_of_ble_eq_true rfl) ⟨Nat.le_of_ble_eq_true rfl, Nat.le_of_ble_eq_true rfl⟩ (by decide +kernel) (fun _ => ?_)
              refine zr_goto (off := 9) (tgt := 150) (by decide +kernel) (by decide) ?_
              refine zr_run [(.aload_n 0, 0, 0, 0, .null), (.getfield 15, 0, 0, 1, .null)] [] (WW' := [w_Sc G a0 q18, w_Ld G a1 s1, w_Fk G a2 s2]) (lv' := [some (.ref (a0 0)), some (.ref (a1 0)), some (.ref (a2 0)), some (.int x3)]) (pc' := 154) (st' := [.int (Sc_length q18)]) (by decide +kernel) rfl rfl ⟨trivial, ⟨rfl, rfl, zw_2_121⟩, trivial⟩ ?_
              obtain rfl := Option.some.inj hf
              exact zr_iret (b0 := fun _ => 0) (by decide +kernel) rfl rfl rfl rfl rfl
            · have hf := ziff hf hc4
              refine zr_tabOut (tgt := 144) (dflt := 124) (lo := 0) (hi := 4) (offs := #[36, 59, 97, 106, 115]) (len := 36) (by decide +kernel) (by have q0 := lv_neT hc0 (a := 0) (by decide); have q1 := lv_neT hc1 (a := 1) (by decide); have q2 := lv_neT hc2 (a := 2) (by decide); have q3 := lv_neT hc3 (a := 3) (by decide); have q4 := lv_neT hc4 (a := 4) (by decide); omega) (by decide) ?_
              refine zr_run [(.aload_n 0, 0, 0, 0, .null)] [] (WW' := [w_Sc G a0 q3, w_Ld G a1 s1, w_Fk G a2 s2]) (lv' := [some (.ref (a0 0)), some (.ref (a1 0)), some (.ref (a2 0)), some (.int x3)]) (pc' := 145) (st' := [.ref (a0 0)]) (by decide +kernel) rfl rfl ⟨trivial, trivial⟩ ?_
              refine zr_ldcS (i := 7) rfl (by decide +kernel) ?_
              obtain ⟨q19, e19, hf⟩ := zbi_of hf
              refine zr_callV (c_X8_words l G 7 (by decide) a0 q3 q19 e19) (WW' := fun _ => [w_Sc G a0 q19, w_Ld G a1 s1, w_Fk G a2 s2]) (st := []) (st' := []) [0] rfl rfl (fun _ => Nat.le_of_ble_eq_true rfl) (fun _ => rfl) rfl rfl nm_X8_words zw_4_231 zw_4_233 zw_0_31 zw_1_16 zw_4_234 rfl rfl rfl (Nat.le_of_ble_eq_true rfl) ⟨Nat.le_of_ble_eq_true rfl, Nat.le_of_ble_eq_true rfl⟩ (by decide +kernel) (fun _ => ?_)
              refine zr_run [(.aload_n 0, 0, 0, 0, .null), (.getfield 15, 0, 0, 1, .null)] [] (WW' := [w_Sc G a0 q19, w_Ld G a1 s1, w_Fk G a2 s2]) (lv' := [some (.ref (a0 0)), some (.ref (a1 0)), some (.ref (a2 0)), some (.int x3)]) (pc' := 154) (st' := [.int (Sc_length q19)]) (by decide +kernel) rfl rfl ⟨trivial, ⟨rfl, rfl, zw_2_121⟩, trivial⟩ ?_
              obtain rfl := Option.some.inj hf
              exact zr_iret (b0 := fun _ => 0) (by decide +kernel) rfl rfl rfl rfl rfl
  exact zj_entry [some (.ref (a0 0)), some (.ref (a1 0)), some (.ref (a2 0)), some (.int x3)] (by decide +kernel) rfl (by decide) (Nat.le_of_ble_eq_true rfl) rfl rfl (key _)
