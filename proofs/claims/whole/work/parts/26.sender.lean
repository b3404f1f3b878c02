def M_X9_portOf : zj_M := (RX9, cX9_portOf, 2, (some .int), { frames := 0, cells := 0, slots := 0, locals := 0 }, false)
theorem nm_X9_portOf : zj_nm yX9_portOf 1 := ⟨by decide +kernel, by decide +kernel, by decide +kernel⟩
def f_X9_portOf_b10  (s0 : SnT)   : Option (Int32) := some (-1 : Int32)
def f_X9_portOf  (s0 : SnT) (x1 : Int32) : Option (Int32) := (if x1 < 0 then f_X9_portOf_b10 s0 else (if x1 < (6 : Int32) then (if zb_in x1 6 = true then some ((Sn_ports s0) x1.toNatClampNeg) else none) else f_X9_portOf_b10 s0))
set_option maxRecDepth 100000 in
set_option maxHeartbeats 4000000 in
theorem t_X9_portOf_b10 (l : Launch) (G : zj_G) (a0 : Nat → Nat) (W0 : List va_W) (r : Int32) (s0 : SnT)    (hf : f_X9_portOf_b10 s0 = some r) : zj_J l G M_X9_portOf W0 (zj_ret G M_X9_portOf W0 (some (.int r)) (fun _ => [w_Sn G a0 s0])) 0 0 [w_Sn G a0 s0] [none, none] 10 [] := by
  unfold f_X9_portOf_b10 at hf
  refine zr_run [(.iconst (-1), 0, 0, 0, .int (-1 : Int32))] [] (WW' := [w_Sn G a0 s0]) (lv' := [none, none]) (pc' := 11) (st' := [.int (-1 : Int32)]) (by decide +kernel) rfl rfl ⟨trivial, trivial⟩ ?_
  refine zr_goto (off := 9) (tgt := 20) (by decide +kernel) (by decide) ?_
  obtain rfl := Option.some.inj hf
  exact zr_iret (b0 := fun _ => 0) (by decide +kernel) rfl rfl rfl rfl rfl
set_option maxRecDepth 100000 in
set_option maxHeartbeats 4000000 in
theorem c_X9_portOf (l : Launch) (G : zj_G) (a0 : Nat → Nat) (s0 : SnT) (x1 : Int32) (r : Int32) (hf : f_X9_portOf s0 x1 = some r) : zj_C l G M_X9_portOf yX9_portOf [w_Sn G a0 s0] [.ref (a0 0), .int x1] (some (.int r)) (fun _ => [w_Sn G a0 s0]) := by
  have key : ∀ W0 : List va_W, zj_J l G M_X9_portOf W0 (zj_ret G M_X9_portOf W0 (some (.int r)) (fun _ => [w_Sn G a0 s0])) 0 0 [w_Sn G a0 s0] [some (.ref (a0 0)), some (.int x1)] 0 [] := by
    intro W0
    unfold f_X9_portOf at hf
    refine zr_run [(.iload_n 1, 0, 0, 0, .null)] [] (WW' := [w_Sn G a0 s0]) (lv' := [some (.ref (a0 0)), some (.int x1)]) (pc' := 1) (st' := [.int x1]) (by decide +kernel) rfl rfl ⟨trivial, trivial⟩ ?_
    refine zr_if_lt (off := 9) (tgt := 10) (by decide +kernel) (by decide) (fun hc => ?_) (fun hc => ?_)
    · have hf := zift hf hc
      refine zr_run [] [0, 1] (WW' := [w_Sn G a0 s0]) (lv' := [none, none]) (pc' := 10) (st' := []) (by decide +kernel) rfl rfl trivial ?_
      exact t_X9_portOf_b10 l G a0 W0 r s0 hf
    · have hf := ziff hf hc
      refine zr_run [(.iload_n 1, 0, 0, 0, .null), (.bipush 6, 0, 0, 0, .int (6 : Int32))] [] (WW' := [w_Sn G a0 s0]) (lv' := [some (.ref (a0 0)), some (.int x1)]) (pc' := 7) (st' := [.int (6 : Int32), .int x1]) (by decide +kernel) rfl rfl ⟨trivial, trivial, trivial⟩ ?_
      refine zr_icmp_lt (off := 7) (tgt := 14) (by decide +kernel) (by decide) (fun hc => ?_) (fun hc => ?_)
      · have hf := zift hf hc
        obtain ⟨h1, hf⟩ := zck_of hf
        refine zr_run [(.aload_n 0, 0, 0, 0, .null), (.getfield 9, 0, 0, 0, .null), (.iload_n 1, 0, 0, 0, .null), (.iaload, 0, 1, 0, .null)] [] (WW' := [w_Sn G a0 s0]) (lv' := [some (.ref (a0 0)), some (.int x1)]) (pc' := 20) (st' := [.int ((Sn_ports s0) x1.toNatClampNeg)]) (by decide +kernel) rfl rfl ⟨trivial, ⟨rfl, rfl, zw_2_83⟩, trivial, ⟨rfl, rfl, h1⟩, trivial⟩ ?_
        obtain rfl := Option.some.inj hf
        exact zr_iret (b0 := fun _ => 0) (by decide +kernel) rfl rfl rfl rfl rfl
      · have hf := ziff hf hc
        refine zr_run [] [0, 1] (WW' := [w_Sn G a0 s0]) (lv' := [none, none]) (pc' := 10) (st' := []) (by decide +kernel) rfl rfl trivial ?_
        exact t_X9_portOf_b10 l G a0 W0 r s0 hf
  exact zj_entry [some (.ref (a0 0)), some (.int x1)] (by decide +kernel) rfl (by decide) (Nat.le_of_ble_eq_true rfl) rfl rfl (key _)
def M_X9_weigh : zj_M := (RX9, cX9_weigh, 12, none, { frames := 2, cells := 0, slots := 0, locals := 45 }, false)
theorem nm_X9_weigh : zj_nm yX9_weigh 4 := ⟨by decide +kernel, by decide +kernel, by decide +kernel⟩
def f_X9_weigh_H92  (s0 : SnT) (s1 : LdT) (s2 : FkT) (k15 : SnT → Int32 → Int32 → Int64 → Int32 → Option (SnT)) (k92 : SnT → Int32 → Int32 → Int64 → Int32 → Int32 → Int64 → Int32 → Option (SnT)) (x3 : Int32) (x4 : Int32) (x5 : Int64) (x7 : Int32) (x8 : Int32) (x9 : Int64) (x11 : Int32) : Option (SnT) := (if x11 < x8 then (if zb_in x11 64 = true then (if zb_in (x11 ||| x8) 64 = true then (zlet (Sn_s_costs s0 ((vp_updL (Sn_costs s0) (x11 ||| x8).toNatClampNeg (((Sn_costs s0) x11.toNatClampNeg) + x9)))) fun y4 => k92 y4 x3 x4 x5 x7 x8 x9 (x11 + (1 : Int32))) else none) else none) else k15 s0 x3 x4 x5 (x7 + (1 : Int32)))
def f_X9_weigh_L92  (s1 : LdT) (s2 : FkT) (k15 : SnT → Int32 → Int32 → Int64 → Int32 → Option (SnT)) : Nat → SnT → Int32 → Int32 → Int64 → Int32 → Int32 → Int64 → Int32 → Option (SnT)
  | 0 => fun _ _ _ _ _ _ _ _ => none
  | n + 1 => fun s0 x3 x4 x5 x7 x8 x9 x11 => f_X9_weigh_H92 s0 s1 s2 k15 (f_X9_weigh_L92 s1 s2 k15 n) x3 x4 x5 x7 x8 x9 x11
def f_X9_weigh_b89  (s0 : SnT) (s1 : LdT) (s2 : FkT) (k15 : SnT → Int32 → Int32 → Int64 → Int32 → Option (SnT)) (x3 : Int32) (x4 : Int32) (x5 : Int64) (x7 : Int32) (x8 : Int32) (x9 : Int64) : Option (SnT) := f_X9_weigh_L92 s1 s2 k15 zFU s0 x3 x4 x5 x7 x8 x9 (0 : Int32)
def f_X9_weigh_H15  (s0 : SnT) (s1 : LdT) (s2 : FkT) (k15 : SnT → Int32 → Int32 → Int64 → Int32 → Option (SnT)) (x3 : Int32) (x4 : Int32) (x5 : Int64) (x7 : Int32) : Option (SnT) := (if x7 < (6 : Int32) then (if (x4 &&& (zr_shl (1 : Int32) x7)) = 0 then f_X9_weigh_b89 s0 s1 s2 k15 x3 x4 (x5 / (10 : Int64)) x7 (zr_shl (1 : Int32) x7) (1000000000000 : Int64) else ((f_X1_of s2 x7 (4 : Int32)).bind fun q5 => ((f_X3_joined s1 q5 x3).bind fun q6 => (if q6 = 0 then f_X9_weigh_b89 s0 s1 s2 k15 x3 x4 (x5 / (10 : Int64)) x7 (zr_shl (1 : Int32) x7) (1000000000000 : Int64) else ((f_X1_of s2 x7 (4 : Int32)).bind fun q7 => ((f_X3_milesBetween s1 q7 x3).bind fun q8 => (zlet ((q8.toInt64 * (1000000 : Int64)) + (x3.toInt64 * (x5 / (10 : Int64)))) fun y9 => f_X9_weigh_b89 s0 s1 s2 k15 x3 x4 (x5 / (10 : Int64)) x7 (zr_shl (1 : Int32) x7) y9))))))) else some s0)
def f_X9_weigh_L15  (s1 : LdT) (s2 : FkT)  : Nat → SnT → Int32 → Int32 → Int64 → Int32 → Option (SnT)
  | 0 => fun _ _ _ _ _ => none
  | n + 1 => fun s0 x3 x4 x5 x7 => f_X9_weigh_H15 s0 s1 s2 (f_X9_weigh_L15 s1 s2 n) x3 x4 x5 x7
def f_X9_weigh  (s0 : SnT) (s1 : LdT) (s2 : FkT) (x3 : Int32) (x4 : Int32) : Option (SnT) := (zlet (Sn_s_costs s0 ((vp_updL (Sn_costs s0) (0 : Int32).toNatClampNeg (0 : Int64)))) fun y1 => f_X9_weigh_L15 s1 s2 zFU y1 x3 x4 (1000000 : Int64) (0 : Int32))
set_option maxRecDepth 100000 in
set_option maxHeartbeats 4000000 in
theorem t_X9_weigh_H92 (l : Launch) (G : zj_G) (a0 : Nat → Nat) (a1 : Nat → Nat) (a2 : Nat → Nat) (W0 : List va_W) (r : SnT) (s0 : SnT) (s1 : LdT) (s2 : FkT) (k15 : SnT → Int32 → Int32 → Int64 → Int32 → Option (SnT)) (k92 : SnT → Int32 → Int32 → Int64 → Int32 → Int32 → Int64 → Int32 → Option (SnT)) (hk15 : ∀ (s0 : SnT) (x3 : Int32) (x4 : Int32) (x5 : Int64) (x7 : Int32), k15 s0 x3 x4 x5 x7 = some r → zj_J l G M_X9_weigh W0 (zj_ret G M_X9_weigh W0 (none) (fun _ => [w_Sn G a0 r, w_Ld G a1 s1, w_Fk G a2 s2])) 0 0 [w_Sn G a0 s0, w_Ld G a1 s1, w_Fk G a2 s2] [some (.ref (a0 0)), some (.ref (a1 0)), some (.ref (a2 0)), some (.int x3), some (.int x4), some (.long x5), none, some (.int x7), none, none, none, none] 15 []) (hk92 : ∀ (s0 : SnT) (x3 : Int32) (x4 : Int32) (x5 : Int64) (x7 : Int32) (x8 : Int32) (x9 : Int64) (x11 : Int32), k92 s0 x3 x4 x5 x7 x8 x9 x11 = some r → zj_J l G M_X9_weigh W0 (zj_ret G M_X9_weigh W0 (none) (fun _ => [w_Sn G a0 r, w_Ld G a1 s1, w_Fk G a2 s2])) 0 0 [w_Sn G a0 s0, w_Ld G a1 s1, w_Fk G a2 s2] [some (.ref (a0 0)), some (.ref (a1 0)), some (.ref (a2 0)), some (.int x3), some (.int x4), some (.long x5), none, some (.int x7), some (.int x8), some (.long x9), none, some (.int x11)] 92 []) (x3 : Int32) (x4 : Int32) (x5 : Int64) (x7 : Int32) (x8 : Int32) (x9 : Int64) (x11 : Int32) (hf : f_X9_weigh_H92 s0 s1 s2 k15 k92 x3 x4 x5 x7 x8 x9 x11 = some r) : zj_J l G M_X9_weigh W0 (zj_ret G M_X9_weigh W0 (none) (fun _ => [w_Sn G a0 r, w_Ld G a1 s1, w_Fk G a2 s2])) 0 0 [w_Sn G a0 s0, w_Ld G a1 s1, w_Fk G a2 s2] [some (.ref (a0 0)), some (.ref (a1 0)), some (.ref (a2 0)), some (.int x3), some (.int x4), some (.long x5), none, some (.int x7), some (.int x8), some (.long x9), none, some (.int x11)] 92 [] := by
  unfold f_X9_weigh_H92 at hf
  refine zr_run [(.iload 11, 0, 0, 0, .null), (.iload 8, 0, 0, 0, .null)] [] (WW' := [w_Sn G a0 s0, w_Ld G a1 s1, w_Fk G a2 s2]) (lv' := [some (.ref (a0 0)), some (.ref (a1 0)), some (.ref (a2 0)), some (.int x3), some (.int x4), some (.long x5), none, some (.int x7), some (.int x8), some (.long x9), none, some (.int x11)]) (pc' := 96) (st' := [.int x8, .int x11]) (by decide +kernel) rfl rfl ⟨trivial, trivial, trivial⟩ ?_
  refine zr_icmp_ge (off := 29) (tgt := 125) (by decide +kernel) (by decide) (fun hc => ?_) (fun hc => ?_)
  · have hf := zift hf hc
    obtain ⟨h2, hf⟩ := zck_of hf
    obtain ⟨h3, hf⟩ := zck_of hf
    obtain ⟨y4, e4, hf⟩ := zlet_of hf
    refine zr_run [(.aload_n 0, 0, 0, 0, .null), (.getfield 19, 0, 0, 2, .null), (.iload 11, 0, 0, 0, .null), (.iload 8, 0, 0, 0, .null), (.ior, 0, 0, 0, .null), (.aload_n 0, 0, 0, 0, .null), (.getfield 19, 0, 0, 2, .null), (.iload 11, 0, 0, 0, .null), (.laload, 0, 3, 0, .null), (.lload 9, 0, 0, 0, .null), (.ladd, 0, 0, 0, .null), (.lastore, 0, 3, 0, .null)] [] (WW' := [w_Sn G a0 (Sn_s_costs s0 ((vp_updL (Sn_costs s0) (x11 ||| x8).toNatClampNeg (((Sn_costs s0) x11.toNatClampNeg) + x9)))), w_Ld G a1 s1, w_Fk G a2 s2]) (lv' := [some (.ref (a0 0)), some (.ref (a1 0)), some (.ref (a2 0)), some (.int x3), some (.int x4), some (.long x5), none, some (.int x7), some (.int x8), some (.long x9), none, some (.int x11)]) (pc' := 119) (st' := []) (by decide +kernel) rfl rfl ⟨trivial, ⟨rfl, rfl, zw_2_85⟩, trivial, trivial, trivial, trivial, ⟨rfl, rfl, zw_2_85⟩, trivial, ⟨rfl, rfl, h2⟩, trivial, trivial, ⟨rfl, rfl, h3⟩, trivial⟩ ?_
    refine zr_eq (WW2 := [w_Sn G a0 y4, w_Ld G a1 s1, w_Fk G a2 s2]) (lv2 := [some (.ref (a0 0)), some (.ref (a1 0)), some (.ref (a2 0)), some (.int x3), some (.int x4), some (.long x5), none, some (.int x7), some (.int x8), some (.long x9), none, some (.int x11)]) (st2 := []) (by rw [e4]) rfl rfl ?_
    refine zr_run [(.iinc 11 1, 0, 0, 0, .int (1 : Int32))] [] (WW' := [w_Sn G a0 y4, w_Ld G a1 s1, w_Fk G a2 s2]) (lv' := [some (.ref (a0 0)), some (.ref (a1 0)), some (.ref (a2 0)), some (.int x3), some (.int x4), some (.long x5), none, some (.int x7), some (.int x8), some (.long x9), none, some (.int (x11 + (1 : Int32)))]) (pc' := 122) (st' := []) (by decide +kernel) rfl rfl ⟨trivial, trivial⟩ ?_
    refine zr_goto (off := -30) (tgt := 92) (by decide +kernel) (by decide) ?_
    exact hk92 y4 x3 x4 x5 x7 x8 x9 (x11 + (1 : Int32)) hf
  · have hf := ziff hf hc
    refine zr_run [(.iinc 7 1, 0, 0, 0, .int (1 : Int32))] [] (WW' := [w_Sn G a0 s0, w_Ld G a1 s1, w_Fk G a2 s2]) (lv' := [some (.ref (a0 0)), some (.ref (a1 0)), some (.ref (a2 0)), some (.int x3), some (.int x4), some (.long x5), none, some (.int (x7 + (1 : Int32))), some (.int x8), some (.long x9), none, some (.int x11)]) (pc' := 128) (st' := []) (by decide +kernel) rfl rfl ⟨trivial, trivial⟩ ?_
    refine zr_run [] [8, 9, 11] (WW' := [w_Sn G a0 s0, w_Ld G a1 s1, w_Fk G a2 s2]) (lv' := [some (.ref (a0 0)), some (.ref (a1 0)), some (.ref (a2 0)), some (.int x3), some (.int x4), some (.long x5), none, some (.int (x7 + (1 : Int32))), none, none, none, none]) (pc' := 128) (st' := []) (by decide +kernel) rfl rfl trivial ?_
    refine zr_goto (off := -113) (tgt := 15) (by decide +kernel) (by decide) ?_
    exact hk15 s0 x3 x4 x5 (x7 + (1 : Int32)) hf
theorem t_X9_weigh_L92 (l : Launch) (G : zj_G) (a0 : Nat → Nat) (a1 : Nat → Nat) (a2 : Nat → Nat) (W0 : List va_W) (r : SnT) (s1 : LdT) (s2 : FkT) (k15 : SnT → Int32 → Int32 → Int64 → Int32 → Option (SnT)) (hk15 : ∀ (s0 : SnT) (x3 : Int32) (x4 : Int32) (x5 : Int64) (x7 : Int32), k15 s0 x3 x4 x5 x7 = some r → zj_J l G M_X9_weigh W0 (zj_ret G M_X9_weigh W0 (none) (fun _ => [w_Sn G a0 r, w_Ld G a1 s1, w_Fk G a2 s2])) 0 0 [w_Sn G a0 s0, w_Ld G a1 s1, w_Fk G a2 s2] [some (.ref (a0 0)), some (.ref (a1 0)), some (.ref (a2 0)), some (.int x3), some (.int x4), some (.long x5), none, some (.int x7), none, none, none, none] 15 []) : ∀ (n : Nat) (s0 : SnT) (x3 : Int32) (x4 : Int32) (x5 : Int64) (x7 : Int32) (x8 : Int32) (x9 : Int64) (x11 : Int32), f_X9_weigh_L92 s1 s2 k15 n s0 x3 x4 x5 x7 x8 x9 x11 = some r → zj_J l G M_X9_weigh W0 (zj_ret G M_X9_weigh W0 (none) (fun _ => [w_Sn G a0 r, w_Ld G a1 s1, w_Fk G a2 s2])) 0 0 [w_Sn G a0 s0, w_Ld G a1 s1, w_Fk G a2 s2] [some (.ref (a0 0)), some (.ref (a1 0)), some (.ref (a2 0)), some (.int x3), some (.int x4), some (.long x5), none, some (.int x7), some (.int x8), some (.long x9), none, some (.int x11)] 92 [] := by
  intro n
  induction n with
  | zero => intro s0 x3 x4 x5 x7 x8 x9 x11 hf; exact nomatch (show none = some r from hf)
  | succ n ih => intro s0 x3 x4 x5 x7 x8 x9 x11 hf; exact t_X9_weigh_H92 l G a0 a1 a2 W0 r s0 s1 s2 k15 (f_X9_weigh_L92 s1 s2 k15 n) hk15 ih x3 x4 x5 x7 x8 x9 x11  hf
set_option maxRecDepth 100000 in
set_option maxHeartbeats 4000000 in
theorem t_X9_weigh_b89 (l : Launch) (G : zj_G) (a0 : Nat → Nat) (a1 : Nat → Nat) (a2 : Nat → Nat) (W0 : List va_W) (r : SnT) (s0 : SnT) (s1 : LdT) (s2 : FkT) (k15 : SnT → Int32 → Int32 → Int64 → Int32 → Option (SnT)) (hk15 : ∀ (s0 : SnT) (x3 : Int32) (x4 : Int32) (x5 : Int64) (x7 : Int32), k15 s0 x3 x4 x5 x7 = some r → zj_J l G M_X9_weigh W0 (zj_ret G M_X9_weigh W0 (none) (fun _ => [w_Sn G a0 r, w_Ld G a1 s1, w_Fk G a2 s2])) 0 0 [w_Sn G a0 s0, w_Ld G a1 s1, w_Fk G a2 s2] [some (.ref (a0 0)), some (.ref (a1 0)), some (.ref (a2 0)), some (.int x3), some (.int x4), some (.long x5), none, some (.int x7), none, none, none, none] 15 []) (x3 : Int32) (x4 : Int32) (x5 : Int64) (x7 : Int32) (x8 : Int32) (x9 : Int64) (hf : f_X9_weigh_b89 s0 s1 s2 k15 x3 x4 x5 x7 x8 x9 = some r) : zj_J l G M_X9_weigh W0 (zj_ret G M_X9_weigh W0 (none) (fun _ => [w_Sn G a0 r, w_Ld G a1 s1, w_Fk G a2 s2])) 0 0 [w_Sn G a0 s0, w_Ld G a1 s1, w_Fk G a2 s2] [some (.ref (a0 0)), some (.ref (a1 0)), some (.ref (a2 0)), some (.int x3), some (.int x4), some (.long x5), none, some (.int x7), some (.int x8), some (.long x9), none, none] 89 [] := by
  unfold f_X9_weigh_b89 at hf
  refine zr_run [(.iconst 0, 0, 0, 0, .int (0 : Int32)), (.istore 11, 0, 0, 0, .null)] [] (WW' := [w_Sn G a0 s0, w_Ld G a1 s1, w_Fk G a2 s2]) (lv' := [some (.ref (a0 0)), some (.ref (a1 0)), some (.ref (a2 0)), some (.int x3), some (.int x4), some (.long x5), none, some (.int x7), some (.int x8), some (.long x9), none, some (.int (0 : Int32))]) (pc' := 92) (st' := []) (by decide +kernel) rfl rfl ⟨trivial, trivial, trivial⟩ ?_
  exact t_X9_weigh_L92 l G a0 a1 a2 W0 r s1 s2 k15 hk15 zFU s0 x3 x4 x5 x7 x8 x9 (0 : Int32) hf
set_option maxRecDepth 100000 in
set_option maxHeartbeats 4000000 in
theorem t_X9_weigh_H15 (l : Launch) (G : zj_G) (a0 : Nat → Nat) (a1 : Nat → Nat) (a2 : Nat → Nat) (W0 : List va_W) (r : SnT) (s0 : SnT) (s1 : LdT) (s2 : FkT) (k15 : SnT → Int32 → Int32 → Int64 → Int32 → Option (SnT)) (hk15 : ∀ (s0 : SnT) (x3 : Int32) (x4 : Int32) (x5 : Int64) (x7 : Int32), k15 s0 x3 x4 x5 x7 = some r → zj_J l G M_X9_weigh W0 (zj_ret G M_X9_weigh W0 (none) (fun _ => [w_Sn G a0 r, w_Ld G a1 s1, w_Fk G a2 s2])) 0 0 [w_Sn G a0 s0, w_Ld G a1 s1, w_Fk G a2 s2] [some (.ref (a0 0)), some (.ref (a1 0)), some (.ref (a2 0)), some (.int x3), some (.int x4), some (.long x5), none, some (.int x7), none, none, none, none] 15 []) (x3 : Int32) (x4 : Int32) (x5 : Int64) (x7 : Int32) (hf : f_X9_weigh_H15 s0 s1 s2 k15 x3 x4 x5 x7 = some r) : zj_J l G M_X9_weigh W0 (zj_ret G M_X9_weigh W0 (none) (fun _ => [w_Sn G a0 r, w_Ld G a1 s1, w_Fk G a2 s2])) 0 0 [w_Sn G a0 s0, w_Ld G a1 s1, w_Fk G a2 s2] [some (.ref (a0 0)), some (.ref (a1 0)), some (.ref (a2 0)), some (.int x3), some (.int x4), some (.long x5), none, some (.int x7), none, none, none, none] 15 [] := by
  unfold f_X9_weigh_H15 at hf
  refine zr_run [(.iload 7, 0, 0, 0, .null), (.bipush 6, 0, 0, 0, .int (6 : Int32))] [] (WW' := [w_Sn G a0 s0, w_Ld G a1 s1, w_Fk G a2 s2]) (lv' := [some (.ref (a0 0)), some (.ref (a1 0)), some (.ref (a2 0)), some (.int x3), some (.int x4), some (.long x5), none, some (.int x7), none, none, none, none]) (pc' := 19) (st' := [.int (6 : Int32), .int x7]) (by decide +kernel) rfl rfl ⟨trivial, trivial, trivial⟩ ?_
  refine zr_icmp_ge (off := 112) (tgt := 131) (by decide +kernel) (by decide) (fun hc => ?_) (fun hc => ?_)
  · have hf := zift hf hc
    refine zr_run [(.iconst 1, 0, 0, 0, .int (1 : Int32)), (.iload 7, 0, 0, 0, .null), (.ishl, 0, 0, 0, .null), (.istore 8, 0, 0, 0, .null), (.lload 5, 0, 0, 0, .null), (.ldc2_w 65, 0, 0, 0, .long (10 : Int64)), (.ldiv, 0, 0, 0, .null), (.lstore 5, 0, 0, 0, .null), (.ldc2_w 40, 0, 0, 0, .long (1000000000000 : Int64)), (.lstore 9, 0, 0, 0, .null), (.iload 4, 0, 0, 0, .null), (.iload 8, 0, 0, 0, .null), (.iand, 0, 0, 0, .null)] [] (WW' := [w_Sn G a0 s0, w_Ld G a1 s1, w_Fk G a2 s2]) (lv' := [some (.ref (a0 0)), some (.ref (a1 0)), some (.ref (a2 0)), some (.int x3), some (.int x4), some (.long (x5 / (10 : Int64))), none, some (.int x7), some (.int (zr_shl (1 : Int32) x7)), some (.long (1000000000000 : Int64)), none, none]) (pc' := 46) (st' := [.int (x4 &&& (zr_shl (1 : Int32) x7))]) (by decide +kernel) rfl rfl ⟨trivial, trivial, trivial, trivial, trivial, zw_4_103, (by decide), trivial, zw_4_93, trivial, trivial, trivial, trivial, trivial⟩ ?_
    refine zr_if_eq (off := 43) (tgt := 89) (by decide +kernel) (by decide) (fun hc => ?_) (fun hc => ?_)
    · have hf := zift hf hc
      exact t_X9_weigh_b89 l G a0 a1 a2 W0 r s0 s1 s2 k15 hk15 x3 x4 (x5 / (10 : Int64)) x7 (zr_shl (1 : Int32) x7) (1000000000000 : Int64) hf
    · have hf := ziff hf hc
      obtain ⟨q5, e5, hf⟩ := zbi_of hf
      refine zr_run [(.aload_n 1, 0, 0, 0, .null), (.aload_n 2, 0, 0, 0, .null), (.iload 7, 0, 0, 0, .null), (.iconst 4, 0, 0, 0, .int (4 : Int32))] [] (WW' := [w_Sn G a0 s0, w_Ld G a1 s1, w_Fk G a2 s2]) (lv' := [some (.ref (a0 0)), some (.ref (a1 0)), some (.ref (a2 0)), some (.int x3), some (.int x4), some (.long (x5 / (10 : Int64))), none, some (.int x7), some (.int (zr_shl (1 : Int32) x7)), some (.long (1000000000000 : Int64)), none, none]) (pc' := 54) (st' := [.int (4 : Int32), .int x7, .ref (a2 0), .ref (a1 0)]) (by decide +kernel) rfl rfl ⟨trivial, trivial, trivial, trivial, trivial⟩ ?_
      refine zr_callV (c_X1_of l G a2 s2 x7 (4 : Int32) q5 e5) (WW' := fun _ => [w_Sn G a0 s0, w_Ld G a1 s1, w_Fk G a2 s2]) (st := [.ref (a1 0)]) (st' := [.int q5, .ref (a1 0)]) [2] rfl rfl (fun _ => Nat.le_of_ble_eq_true rfl) (fun _ => rfl) rfl rfl nm_X1_of zw_4_104 zw_3_142 zw_3_143 zw_1_8 zw_3_142n rfl rfl rfl (Nat.le_of_ble_eq_true rfl) ⟨Nat.le_of_ble_eq_true rfl, Nat.le_of_ble_eq_true rfl⟩ (by decide +kernel) (fun _ => ?_)
      obtain ⟨q6, e6, hf⟩ := zbi_of hf
      refine zr_run [(.iload_n 3, 0, 0, 0, .null)] [] (WW' := [w_Sn G a0 s0, w_Ld G a1 s1, w_Fk G a2 s2]) (lv' := [some (.ref (a0 0)), some (.ref (a1 0)), some (.ref (a2 0)), some (.int x3), some (.int x4), some (.long (x5 / (10 : Int64))), none, some (.int x7), some (.int (zr_shl (1 : Int32) x7)), some (.long (1000000000000 : Int64)), none, none]) (pc' := 58) (st' := [.int x3, .int q5, .ref (a1 0)]) (by decide +kernel) rfl rfl ⟨trivial, trivial⟩ ?_
      refine zr_callV (c_X3_joined l G a1 s1 q5 x3 q6 e6) (WW' := fun _ => [w_Sn G a0 s0, w_Ld G a1 s1, w_Fk G a2 s2]) (st := []) (st' := [.int q6]) [1] rfl rfl (fun _ => Nat.le_of_ble_eq_true rfl) (fun _ => rfl) rfl rfl nm_X3_joined zw_4_105 zw_3_84 zw_3_85 zw_1_7 zw_3_86 rfl rfl rfl (Nat.le_of_ble_eq_true rfl) ⟨Nat.le_of_ble_eq_true rfl, Nat.le_of_ble_eq_true rfl⟩ (by decide +kernel) (fun _ => ?_)
      refine zr_if_eq (off := 28) (tgt := 89) (by decide +kernel) (by decide) (fun hc => ?_) (fun hc => ?_)
      · have hf := zift hf hc
        exact t_X9_weigh_b89 l G a0 a1 a2 W0 r s0 s1 s2 k15 hk15 x3 x4 (x5 / (10 : Int64)) x7 (zr_shl (1 : Int32) x7) (1000000000000 : Int64) hf
      · have hf := ziff hf hc
        obtain ⟨q7, e7, hf⟩ := zbi_of hf
        refine zr_run [(.aload_n 1, 0, 0, 0, .null), (.aload_n 2, 0, 0, 0, .null), (.iload 7, 0, 0, 0, .null), (.iconst 4, 0, 0, 0, .int (4 : Int32))] [] (WW' := [w_Sn G a0 s0, w_Ld G a1 s1, w_Fk G a2 s2]) (lv' := [some (.ref (a0 0)), some (.ref (a1 0)), some (.ref (a2 0)), some (.int x3), some (.int x4), some (.long (x5 / (10 : Int64))), none, some (.int x7), some (.int (zr_shl (1 : Int32) x7)), some (.long (1000000000000 : Int64)), none, none]) (pc' := 69) (st' := [.int (4 : Int32), .int x7, .ref (a2 0), .ref (a1 0)]) (by decide +kernel) rfl rfl ⟨trivial, trivial, trivial, trivial, trivial⟩ ?_
        refine zr_callV (c_X1_of l G a2 s2 x7 (4 : Int32) q7 e7) (WW' := fun _ => [w_Sn G a0 s0, w_Ld G a1 s1, w_Fk G a2 s2]) (st := [.ref (a1 0)]) (st' := [.int q7, .ref (a1 0)]) [2] rfl rfl (fun _ => Nat.le_of_ble_eq_true rfl) (fun _ => rfl) rfl rfl nm_X1_of zw_4_104 zw_3_142 zw_3_143 zw_1_8 zw_3_142n rfl rfl rfl (Nat.le_of_ble_eq_true rfl) ⟨Nat.le_of_ble_eq_true rfl, Nat.le_of_ble_eq_true rfl⟩ (by decide +kernel) (fun _ => ?_)
        obtain ⟨q8, e8, hf⟩ := zbi_of hf
        refine zr_run [(.iload_n 3, 0, 0, 0, .null)] [] (WW' := [w_Sn G a0 s0, w_Ld G a1 s1, w_Fk G a2 s2]) (lv' := [some (.ref (a0 0)), some (.ref (a1 0)), some (.ref (a2 0)), some (.int x3), some (.int x4), some (.long (x5 / (10 : Int64))), none, some (.int x7), some (.int (zr_shl (1 : Int32) x7)), some (.long (1000000000000 : Int64)), none, none]) (pc' := 73) (st' := [.int x3, .int q7, .ref (a1 0)]) (by decide +kernel) rfl rfl ⟨trivial, trivial⟩ ?_
        refine zr_callV (c_X3_milesBetween l G a1 s1 q7 x3 q8 e8) (WW' := fun _ => [w_Sn G a0 s0, w_Ld G a1 s1, w_Fk G a2 s2]) (st := []) (st' := [.int q8]) [1] rfl rfl (fun _ => Nat.le_of_ble_eq_true rfl) (fun _ => rfl) rfl rfl nm_X3_milesBetween zw_4_106 zw_3_88 zw_3_89 zw_1_7 zw_3_88n rfl rfl rfl (Nat.le_of_ble_eq_true rfl) ⟨Nat.le_of_ble_eq_true rfl, Nat.le_of_ble_eq_true rfl⟩ (by decide +kernel) (fun _ => ?_)
        obtain ⟨y9, e9, hf⟩ := zlet_of hf
        refine zr_run [(.i2l, 0, 0, 0, .null), (.ldc2_w 63, 0, 0, 0, .long (1000000 : Int64)), (.lmul, 0, 0, 0, .null), (.iload_n 3, 0, 0, 0, .null), (.i2l, 0, 0, 0, .null), (.lload 5, 0, 0, 0, .null), (.lmul, 0, 0, 0, .null), (.ladd, 0, 0, 0, .null), (.lstore 9, 0, 0, 0, .null)] [] (WW' := [w_Sn G a0 s0, w_Ld G a1 s1, w_Fk G a2 s2]) (lv' := [some (.ref (a0 0)), some (.ref (a1 0)), some (.ref (a2 0)), some (.int x3), some (.int x4), some (.long (x5 / (10 : Int64))), none, some (.int x7), some (.int (zr_shl (1 : Int32) x7)), some (.long ((q8.toInt64 * (1000000 : Int64)) + (x3.toInt64 * (x5 / (10 : Int64))))), none, none]) (pc' := 89) (st' := []) (by decide +kernel) rfl rfl ⟨trivial, zw_4_102, trivial, trivial, trivial, trivial, trivial, trivial, trivial, trivial⟩ ?_
        refine zr_eq (WW2 := [w_Sn G a0 s0, w_Ld G a1 s1, w_Fk G a2 s2]) (lv2 := [some (.ref (a0 0)), some (.ref (a1 0)), some (.ref (a2 0)), some (.int x3), some (.int x4), some (.long (x5 / (10 : Int64))), none, some (.int x7), some (.int (zr_shl (1 : Int32) x7)), some (.long y9), none, none]) (st2 := []) rfl (by rw [e9]) rfl ?_
        exact t_X9_weigh_b89 l G a0 a1 a2 W0 r s0 s1 s2 k15 hk15 x3 x4 (x5 / (10 : Int64)) x7 (zr_shl (1 : Int32) x7) y9 hf
  · have hf := ziff hf hc
    obtain rfl := Option.some.inj hf
    exact zr_vret (b0 := fun _ => 0) (by decide +kernel) rfl rfl rfl rfl rfl
theorem t_X9_weigh_L15 (l : Launch) (G : zj_G) (a0 : Nat → Nat) (a1 : Nat → Nat) (a2 : Nat → Nat) (W0 : List va_W) (r : SnT) (s1 : LdT) (s2 : FkT)   : ∀ (n : Nat) (s0 : SnT) (x3 : Int32) (x4 : Int32) (x5 : Int64) (x7 : Int32), f_X9_weigh_L15 s1 s2 n s0 x3 x4 x5 x7 = some r → zj_J l G M_X9_weigh W0 (zj_ret G M_X9_weigh W0 (none) (fun _ => [w_Sn G a0 r, w_Ld G a1 s1, w_Fk G a2 s2])) 0 0 [w_Sn G a0 s0, w_Ld G a1 s1, w_Fk G a2 s2] [some (.ref (a0 0)), some (.ref (a1 0)), some (.ref (a2 0)), some (.int x3), some (.int x4), some (.long x5), none, some (.int x7), none, none, none, none] 15 [] := by
  intro n
  induction n with
  | zero => intro s0 x3 x4 x5 x7 hf; exact nomatch (show none = some r from hf)
  | succ n ih => intro s0 x3 x4 x5 x7 hf; exact t_X9_weigh_H15 l G a0 a1 a2 W0 r s0 s1 s2  (f_X9_weigh_L15 s1 s2 n)  ih x3 x4 x5 x7  hf
set_option maxRecDepth 100000 in
set_option maxHeartbeats 4000000 in
theorem c_X9_weigh (l : Launch) (G : zj_G) (a0 : Nat → Nat) (a1 : Nat → Nat) (a2 : Nat → Nat) (s0 : SnT) (s1 : LdT) (s2 : FkT) (x3 : Int32) (x4 : Int32) (r : SnT) (hf : f_X9_weigh s0 s1 s2 x3 x4 = some r) : zj_C l G M_X9_weigh yX9_weigh [w_Sn G a0 s0, w_Ld G a1 s1, w_Fk G a2 s2] [.ref (a0 0), .ref (a1 0), .ref (a2 0), .int x3, .int x4] (none) (fun _ => [w_Sn G a0 r, w_Ld G a1 s1, w_Fk G a2 s2]) := by
  have key : ∀ W0 : List va_W, zj_J l G M_X9_weigh W0 (zj_ret G M_X9_weigh W0 (none) (fun _ => [w_Sn G a0 r, w_Ld G a1 s1, w_Fk G a2 s2])) 0 0 [w_Sn G a0 s0, w_Ld G a1 s1, w_Fk G a2 s2] [some (.ref (a0 0)), some (.ref (a1 0)), some (.ref (a2 0)), some (.int x3), some (.int x4), none, none, none, none, none, none, none] 0 [] := by
    intro W0
    unfold f_X9_weigh at hf
    obtain ⟨y1, e1, hf⟩ := zlet_of hf
    refine zr_run [(.aload_n 0, 0, 0, 0, .null), (.getfield 19, 0, 0, 2, .null), (.iconst 0, 0, 0, 0, .int (0 : Int32)), (.lconst 0, 0, 0, 0, .long (0 : Int64)), (.lastore, 0, 3, 0, .null)] [] (WW' := [w_Sn G a0 (Sn_s_costs s0 ((vp_updL (Sn_costs s0) (0 : Int32).toNatClampNeg (0 : Int64)))), w_Ld G a1 s1, w_Fk G a2 s2]) (lv' := [some (.ref (a0 0)), some (.ref (a1 0)), some (.ref (a2 0)), some (.int x3), some (.int x4), none, none, none, none, none, none, none]) (pc' := 7) (st' := []) (by decide +kernel) rfl rfl ⟨trivial, ⟨rfl, rfl, zw_2_85⟩, trivial, trivial, ⟨rfl, rfl, (by decide)⟩, trivial⟩ ?_
    refine zr_eq (WW2 := [w_Sn G a0 y1, w_Ld G a1 s1, w_Fk G a2 s2]) (lv2 := [some (.ref (a0 0)), some (.ref (a1 0)), some (.ref (a2 0)), some (.int x3), some (.int x4), none, none, none, none, none, none, none]) (st2 := []) (by rw [e1]) rfl rfl ?_
    refine zr_run [(.ldc2_w 63, 0, 0, 0, .long (1000000 : Int64)), (.lstore 5, 0, 0, 0, .null), (.iconst 0, 0, 0, 0, .int (0 : Int32)), (.istore 7, 0, 0, 0, .null)] [] (WW' := [w_Sn G a0 y1, w_Ld G a1 s1, w_Fk G a2 s2]) (lv' := [some (.ref (a0 0)), some (.ref (a1 0)), some (.ref (a2 0)), some (.int x3), some (.int x4), some (.long (1000000 : Int64)), none, some (.int (0 : Int32)), none, none, none, none]) (pc' := 15) (st' := []) (by decide +kernel) rfl rfl ⟨zw_4_102, trivial, trivial, trivial, trivial⟩ ?_
    exact t_X9_weigh_L15 l G a0 a1 a2 W0 r s1 s2 zFU y1 x3 x4 (1000000 : Int64) (0 : Int32) hf
  exact zj_entry [some (.ref (a0 0)), some (.ref (a1 0)), some (.ref (a2 0)), some (.int x3), some (.int x4), none, none, none, none, none, none, none] (by decide +kernel) rfl (by decide) (Nat.le_of_ble_eq_true rfl) rfl rfl (key _)
def M_X9_spread : zj_M := (RX9, cX9_spread, 7, none, { frames := 1, cells := 0, slots := 0, locals := 23 }, false)
theorem nm_X9_spread : zj_nm yX9_spread 2 := ⟨by decide +kernel, by decide +kernel, by decide +kernel⟩
def f_X9_spread_b68  (s0 : SnT) (k2 : SnT → Int32 → Int32 → Int32 → Option (SnT)) (k28 : SnT → Int32 → Int32 → Int32 → Int64 → Int32 → Option (SnT)) (x1 : Int32) (x2 : Int32) (x3 : Int32) (x4 : Int64) (x6 : Int32) : Option (SnT) := k28 s0 x1 x2 x3 x4 ((x6 - (1 : Int32)) &&& x3)
def f_X9_spread_b87  (s0 : SnT) (k2 : SnT → Int32 → Int32 → Int32 → Option (SnT)) (x1 : Int32) (x2 : Int32) (x3 : Int32) : Option (SnT) := k2 s0 x1 x2 (x3 + (-1 : Int32))
def f_X9_spread_H28  (s0 : SnT) (k2 : SnT → Int32 → Int32 → Int32 → Option (SnT)) (k28 : SnT → Int32 → Int32 → Int32 → Int64 → Int32 → Option (SnT)) (x1 : Int32) (x2 : Int32) (x3 : Int32) (x4 : Int64) (x6 : Int32) : Option (SnT) := (if 0 < x6 then ((f_J6_bitCount_0f7a4 x6).bind fun q2 => (if x2 < q2 then f_X9_spread_b68 s0 k2 k28 x1 x2 x3 x4 x6 else (if zb_in x6 64 = true then (if zb_in (x3 &&& (x6 ^^^ (-1 : Int32))) 64 = true then (zlet (zr_mminlF x4 (((Sn_costs s0) x6.toNatClampNeg) + ((Sn_best s0) (x3 &&& (x6 ^^^ (-1 : Int32))).toNatClampNeg))) fun y5 => f_X9_spread_b68 s0 k2 k28 x1 x2 x3 y5 x6) else none) else none))) else (if zb_in x3 64 = true then (zlet (Sn_s_best s0 ((vp_updL (Sn_best s0) x3.toNatClampNeg x4))) fun y7 => f_X9_spread_b87 y7 k2 x1 x2 x3) else none))
def f_X9_spread_L28   (k2 : SnT → Int32 → Int32 → Int32 → Option (SnT)) : Nat → SnT → Int32 → Int32 → Int32 → Int64 → Int32 → Option (SnT)
  | 0 => fun _ _ _ _ _ _ => none
  | n + 1 => fun s0 x1 x2 x3 x4 x6 => f_X9_spread_H28 s0 k2 (f_X9_spread_L28 k2 n) x1 x2 x3 x4 x6
def f_X9_spread_H2  (s0 : SnT) (k2 : SnT → Int32 → Int32 → Int32 → Option (SnT)) (x1 : Int32) (x2 : Int32) (x3 : Int32) : Option (SnT) := (if 0 < x3 then (if (x3 &&& (x1 ^^^ (-1 : Int32))) = 0 then (if zb_in x3 64 = true then f_X9_spread_L28 k2 zFU s0 x1 x2 x3 ((Sn_best s0) x3.toNatClampNeg) x3 else none) else f_X9_spread_b87 s0 k2 x1 x2 x3) else some s0)
def f_X9_spread_L2    : Nat → SnT → Int32 → Int32 → Int32 → Option (SnT)
  | 0 => fun _ _ _ _ => none
  | n + 1 => fun s0 x1 x2 x3 => f_X9_spread_H2 s0 (f_X9_spread_L2  n) x1 x2 x3
def f_X9_spread  (s0 : SnT) (x1 : Int32) (x2 : Int32) : Option (SnT) := f_X9_spread_L2 zFU s0 x1 x2 x1
set_option maxRecDepth 100000 in
set_option maxHeartbeats 4000000 in
theorem t_X9_spread_b68 (l : Launch) (G : zj_G) (a0 : Nat → Nat) (W0 : List va_W) (r : SnT) (s0 : SnT) (k2 : SnT → Int32 → Int32 → Int32 → Option (SnT)) (k28 : SnT → Int32 → Int32 → Int32 → Int64 → Int32 → Option (SnT)) (hk2 : ∀ (s0 : SnT) (x1 : Int32) (x2 : Int32) (x3 : Int32), k2 s0 x1 x2 x3 = some r → zj_J l G M_X9_spread W0 (zj_ret G M_X9_spread W0 (none) (fun _ => [w_Sn G a0 r])) 0 0 [w_Sn G a0 s0] [some (.ref (a0 0)), some (.int x1), some (.int x2), some (.int x3), none, none, none] 2 []) (hk28 : ∀ (s0 : SnT) (x1 : Int32) (x2 : Int32) (x3 : Int32) (x4 : Int64) (x6 : Int32), k28 s0 x1 x2 x3 x4 x6 = some r → zj_J l G M_X9_spread W0 (zj_ret G M_X9_spread W0 (none) (fun _ => [w_Sn G a0 r])) 0 0 [w_Sn G a0 s0] [some (.ref (a0 0)), some (.int x1), some (.int x2), some (.int x3), some (.long x4), none, some (.int x6)] 28 []) (x1 : Int32) (x2 : Int32) (x3 : Int32) (x4 : Int64) (x6 : Int32) (hf : f_X9_spread_b68 s0 k2 k28 x1 x2 x3 x4 x6 = some r) : zj_J l G M_X9_spread W0 (zj_ret G M_X9_spread W0 (none) (fun _ => [w_Sn G a0 r])) 0 0 [w_Sn G a0 s0] [some (.ref (a0 0)), some (.int x1), some (.int x2), some (.int x3), some (.long x4), none, some (.int x6)] 68 [] := by
  unfold f_X9_spread_b68 at hf
  refine zr_run [(.iload 6, 0, 0, 0, .null), (.iconst 1, 0, 0, 0, .int (1 : Int32)), (.isub, 0, 0, 0, .null), (.iload_n 3, 0, 0, 0, .null), (.iand, 0, 0, 0, .null), (.istore 6, 0, 0, 0, .null)] [] (WW' := [w_Sn G a0 s0]) (lv' := [some (.ref (a0 0)), some (.int x1), some (.int x2), some (.int x3), some (.long x4), none, some (.int ((x6 - (1 : Int32)) &&& x3))]) (pc' := 76) (st' := []) (by decide +kernel) rfl rfl ⟨trivial, trivial, trivial, trivial, trivial, trivial, trivial⟩ ?_
  refine zr_goto (off := -48) (tgt := 28) (by decide +kernel) (by decide) ?_
  exact hk28 s0 x1 x2 x3 x4 ((x6 - (1 : Int32)) &&& x3) hf
set_option maxRecDepth 100000 in
set_option maxHeartbeats 4000000 in
theorem t_X9_spread_b87 (l : Launch) (G : zj_G) (a0 : Nat → Nat) (W0 : List va_W) (r : SnT) (s0 : SnT) (k2 : SnT → Int32 → Int32 → Int32 → Option (SnT)) (hk2 : ∀ (s0 : SnT) (x1 : Int32) (x2 : Int32) (x3 : Int32), k2 s0 x1 x2 x3 = some r → zj_J l G M_X9_spread W0 (zj_ret G M_X9_spread W0 (none) (fun _ => [w_Sn G a0 r])) 0 0 [w_Sn G a0 s0] [some (.ref (a0 0)), some (.int x1), some (.int x2), some (.int x3), none, none, none] 2 []) (x1 : Int32) (x2 : Int32) (x3 : Int32) (hf : f_X9_spread_b87 s0 k2 x1 x2 x3 = some r) : zj_J l G M_X9_spread W0 (zj_ret G M_X9_spread W0 (none) (fun _ => [w_Sn G a0 r])) 0 0 [w_Sn G a0 s0] [some (.ref (a0 0)), some (.int x1), some (.int x2), some (.int x3), none, none, none] 87 [] := by
  unfold f_X9_spread_b87 at hf
  refine zr_run [(.iinc 3 (-1), 0, 0, 0, .int (-1 : Int32))] [] (WW' := [w_Sn G a0 s0]) (lv' := [some (.ref (a0 0)), some (.int x1), some (.int x2), some (.int (x3 + (-1 : Int32))), none, none, none]) (pc' := 90) (st' := []) (by decide +kernel) rfl rfl ⟨trivial, trivial⟩ ?_
  refine zr_goto (off := -88) (tgt := 2) (by decide +kernel) (by decide) ?_
  exact hk2 s0 x1 x2 (x3 + (-1 : Int32)) hf
set_option maxRecDepth 100000 in
set_option maxHeartbeats 4000000 in
theorem t_X9_spread_H28 (l : Launch) (G : zj_G) (a0 : Nat → Nat) (W0 : List va_W) (r : SnT) (s0 : SnT) (k2 : SnT → Int32 → Int32 → Int32 → Option (SnT)) (k28 : SnT → Int32 → Int32 → Int32 → Int64 → Int32 → Option (SnT)) (hk2 : ∀ (s0 : SnT) (x1 : Int32) (x2 : Int32) (x3 : Int32), k2 s0 x1 x2 x3 = some r → zj_J l G M_X9_spread W0 (zj_ret G M_X9_spread W0 (none) (fun _ => [w_Sn G a0 r])) 0 0 [w_Sn G a0 s0] [some (.ref (a0 0)), some (.int x1), some (.int x2), some (.int x3), none, none, none] 2 []) (hk28 : ∀ (s0 : SnT) (x1 : Int32) (x2 : Int32) (x3 : Int32) (x4 : Int64) (x6 : Int32), k28 s0 x1 x2 x3 x4 x6 = some r → zj_J l G M_X9_spread W0 (zj_ret G M_X9_spread W0 (none) (fun _ => [w_Sn G a0 r])) 0 0 [w_Sn G a0 s0] [some (.ref (a0 0)), some (.int x1), some (.int x2), some (.int x3), some (.long x4), none, some (.int x6)] 28 []) (x1 : Int32) (x2 : Int32) (x3 : Int32) (x4 : Int64) (x6 : Int32) (hf : f_X9_spread_H28 s0 k2 k28 x1 x2 x3 x4 x6 = some r) : zj_J l G M_X9_spread W0 (zj_ret G M_X9_spread W0 (none) (fun _ => [w_Sn G a0 r])) 0 0 [w_Sn G a0 s0] [some (.ref (a0 0)), some (.int x1), some (.int x2), some (.int x3), some (.long x4), none, some (.int x6)] 28 [] := by
  unfold f_X9_spread_H28 at hf
  refine zr_run [(.iload 6, 0, 0, 0, .null)] [] (WW' := [w_Sn G a0 s0]) (lv' := [some (.ref (a0 0)), some (.int x1), some (.int x2), some (.int x3), some (.long x4), none, some (.int x6)]) (pc' := 30) (st' := [.int x6]) (by decide +kernel) rfl rfl ⟨trivial, trivial⟩ ?_
  refine zr_if_le (off := 49) (tgt := 79) (by decide +kernel) (by decide) (fun hc => ?_) (fun hc => ?_)
  · have hf := zift hf hc
    obtain ⟨q2, e2, hf⟩ := zbi_of hf
    refine zr_run [(.iload 6, 0, 0, 0, .null)] [] (WW' := [w_Sn G a0 s0]) (lv' := [some (.ref (a0 0)), some (.int x1), some (.int x2), some (.int x3), some (.long x4), none, some (.int x6)]) (pc' := 35) (st' := [.int x6]) (by decide +kernel) rfl rfl ⟨trivial, trivial⟩ ?_
    refine zr_callS (c_J6_bitCount_0f7a4 l G x6 q2 e2) (WW' := fun _ => [w_Sn G a0 s0]) (st := []) (st' := [.int q2]) [] rfl rfl (fun _ => Nat.le_of_ble_eq_true rfl) (fun _ => rfl) rfl rfl nm_J6_bitCount_0f7a4 zw_4_112 zw_4_113 zw_1_25 zw_4_114 rfl (Nat.le_of_ble_eq_true rfl) ⟨Nat.le_of_ble_eq_true rfl, Nat.le_of_ble_eq_true rfl⟩ (by decide +kernel) (fun _ => ?_)
    refine zr_run [(.iload_n 2, 0, 0, 0, .null)] [] (WW' := [w_Sn G a0 s0]) (lv' := [some (.ref (a0 0)), some (.int x1), some (.int x2), some (.int x3), some (.long x4), none, some (.int x6)]) (pc' := 39) (st' := [.int x2, .int q2]) (by decide +kernel) rfl rfl ⟨trivial, trivial⟩ ?_
    refine zr_icmp_gt (off := 29) (tgt := 68) (by decide +kernel) (by decide) (fun hc => ?_) (fun hc => ?_)
    · have hf := zift hf hc
      exact t_X9_spread_b68 l G a0 W0 r s0 k2 k28 hk2 hk28 x1 x2 x3 x4 x6 hf
    · have hf := ziff hf hc
      obtain ⟨h3, hf⟩ := zck_of hf
      obtain ⟨h4, hf⟩ := zck_of hf
      refine zr_run [(.lload 4, 0, 0, 0, .null), (.aload_n 0, 0, 0, 0, .null), (.getfield 19, 0, 0, 2, .null), (.iload 6, 0, 0, 0, .null), (.laload, 0, 3, 0, .null), (.aload_n 0, 0, 0, 0, .null), (.getfield 15, 0, 0, 1, .null), (.iload_n 3, 0, 0, 0, .null), (.iload 6, 0, 0, 0, .null), (.iconst (-1), 0, 0, 0, .int (-1 : Int32)), (.ixor, 0, 0, 0, .null), (.iand, 0, 0, 0, .null), (.laload, 0, 2, 0, .null), (.ladd, 0, 0, 0, .null)] [] (WW' := [w_Sn G a0 s0]) (lv' := [some (.ref (a0 0)), some (.int x1), some (.int x2), some (.int x3), some (.long x4), none, some (.int x6)]) (pc' := 63) (st' := [.long (((Sn_costs s0) x6.toNatClampNeg) + ((Sn_best s0) (x3 &&& (x6 ^^^ (-1 : Int32))).toNatClampNeg)), .long x4]) (by decide +kernel) rfl rfl ⟨trivial, trivial, ⟨rfl, rfl, zw_2_85⟩, trivial, ⟨rfl, rfl, h3⟩, trivial, ⟨rfl, rfl, zw_2_84⟩, trivial, trivial, trivial, trivial, trivial, ⟨rfl, rfl, h4⟩, trivial, trivial⟩ ?_
      refine zr_mminl zw_4_118 zw_4_119 zw_1_24 zw_4_120 (Nat.le_of_ble_eq_true rfl) (Nat.le_of_ble_eq_true rfl) ⟨Nat.le_of_ble_eq_true rfl, Nat.le_of_ble_eq_true rfl⟩ (by decide +kernel) ?_
      obtain ⟨y5, e5, hf⟩ := zlet_of hf
      refine zr_run [(.lstore 4, 0, 0, 0, .null)] [] (WW' := [w_Sn G a0 s0]) (lv' := [some (.ref (a0 0)), some (.int x1), some (.int x2), some (.int x3), some (.long (zr_mminlF x4 (((Sn_costs s0) x6.toNatClampNeg) + ((Sn_best s0) (x3 &&& (x6 ^^^ (-1 : Int32))).toNatClampNeg)))), none, some (.int x6)]) (pc' := 68) (st' := []) (by decide +kernel) rfl rfl ⟨trivial, trivial⟩ ?_
      refine zr_eq (WW2 := [w_Sn G a0 s0]) (lv2 := [some (.ref (a0 0)), some (.int x1), some (.int x2), some (.int x3), some (.long y5), none, some (.int x6)]) (st2 := []) rfl (by rw [e5]) rfl ?_
      exact t_X9_spread_b68 l G a0 W0 r s0 k2 k28 hk2 hk28 x1 x2 x3 y5 x6 hf
  · have hf := ziff hf hc
    obtain ⟨h6, hf⟩ := zck_of hf
    obtain ⟨y7, e7, hf⟩ := zlet_of hf
    refine zr_run [(.aload_n 0, 0, 0, 0, .null), (.getfield 15, 0, 0, 1, .null), (.iload_n 3, 0, 0, 0, .null), (.lload 4, 0, 0, 0, .null), (.lastore, 0, 2, 0, .null)] [] (WW' := [w_Sn G a0 (Sn_s_best s0 ((vp_updL (Sn_best s0) x3.toNatClampNeg x4)))]) (lv' := [some (.ref (a0 0)), some (.int x1), some (.int x2), some (.int x3), some (.long x4), none, some (.int x6)]) (pc' := 87) (st' := []) (by decide +kernel) rfl rfl ⟨trivial, ⟨rfl, rfl, zw_2_84⟩, trivial, trivial, ⟨rfl, rfl, h6⟩, trivial⟩ ?_
    refine zr_eq (WW2 := [w_Sn G a0 y7]) (lv2 := [some (.ref (a0 0)), some (.int x1), some (.int x2), some (.int x3), some (.long x4), none, some (.int x6)]) (st2 := []) (by rw [e7]) rfl rfl ?_
    refine zr_run [] [4, 6] (WW' := [w_Sn G a0 y7]) (lv' := [some (.ref (a0 0)), some (.int x1), some (.int x2), some (.int x3), none, none, none]) (pc' := 87) (st' := []) (by decide +kernel) rfl rfl trivial ?_
    exact t_X9_spread_b87 l G a0 W0 r y7 k2 hk2 x1 x2 x3 hf
theorem t_X9_spread_L28 (l : Launch) (G : zj_G) (a0 : Nat → Nat) (W0 : List va_W) (r : SnT)  (k2 : SnT → Int32 → Int32 → Int32 → Option (SnT)) (hk2 : ∀ (s0 : SnT) (x1 : Int32) (x2 : Int32) (x3 : Int32), k2 s0 x1 x2 x3 = some r → zj_J l G M_X9_spread W0 (zj_ret G M_X9_spread W0 (none) (fun _ => [w_Sn G a0 r])) 0 0 [w_Sn G a0 s0] [some (.ref (a0 0)), some (.int x1), some (.int x2), some (.int x3), none, none, none] 2 []) : ∀ (n : Nat) (s0 : SnT) (x1 : Int32) (x2 : Int32) (x3 : Int32) (x4 : Int64) (x6 : Int32), f_X9_spread_L28 k2 n s0 x1 x2 x3 x4 x6 = some r → zj_J l G M_X9_spread W0 (zj_ret G M_X9_spread W0 (none) (fun _ => [w_Sn G a0 r])) 0 0 [w_Sn G a0 s0] [some (.ref (a0 0)), some (.int x1), some (.int x2), some (.int x3), some (.long x4), none, some (.int x6)] 28 [] := by
  intro n
  induction n with
  | zero => intro s0 x1 x2 x3 x4 x6 hf; exact nomatch (show none = some r from hf)
  | succ n ih => intro s0 x1 x2 x3 x4 x6 hf; exact t_X9_spread_H28 l G a0 W0 r s0 k2 (f_X9_spread_L28 k2 n) hk2 ih x1 x2 x3 x4 x6  hf
set_option maxRecDepth 100000 in
set_option maxHeartbeats 4000000 in
theorem t_X9_spread_H2 (l : Launch) (G : zj_G) (a0 : Nat → Nat) (W0 : List va_W) (r : SnT) (s0 : SnT) (k2 : SnT → Int32 → Int32 → Int32 → Option (SnT)) (hk2 : ∀ (s0 : SnT) (x1 : Int32) (x2 : Int32) (x3 : Int32), k2 s0 x1 x2 x3 = some r → zj_J l G M_X9_spread W0 (zj_ret G M_X9_spread W0 (none) (fun _ => [w_Sn G a0 r])) 0 0 [w_Sn G a0 s0] [some (.ref (a0 0)), some (.int x1), some (.int x2), some (.int x3), none, none, none] 2 []) (x1 : Int32) (x2 : Int32) (x3 : Int32) (hf : f_X9_spread_H2 s0 k2 x1 x2 x3 = some r) : zj_J l G M_X9_spread W0 (zj_ret G M_X9_spread W0 (none) (fun _ => [w_Sn G a0 r])) 0 0 [w_Sn G a0 s0] [some (.ref (a0 0)), some (.int x1), some (.int x2), some (.int x3), none, none, none] 2 [] := by
  unfold f_X9_spread_H2 at hf
  refine zr_run [(.iload_n 3, 0, 0, 0, .null)] [] (WW' := [w_Sn G a0 s0]) (lv' := [some (.ref (a0 0)), some (.int x1), some (.int x2), some (.int x3), none, none, none]) (pc' := 3) (st' := [.int x3]) (by decide +kernel) rfl rfl ⟨trivial, trivial⟩ ?_
  refine zr_if_le (off := 90) (tgt := 93) (by decide +kernel) (by decide) (fun hc => ?_) (fun hc => ?_)
  · have hf := zift hf hc
    refine zr_run [(.iload_n 3, 0, 0, 0, .null), (.iload_n 1, 0, 0, 0, .null), (.iconst (-1), 0, 0, 0, .int (-1 : Int32)), (.ixor, 0, 0, 0, .null), (.iand, 0, 0, 0, .null)] [] (WW' := [w_Sn G a0 s0]) (lv' := [some (.ref (a0 0)), some (.int x1), some (.int x2), some (.int x3), none, none, none]) (pc' := 11) (st' := [.int (x3 &&& (x1 ^^^ (-1 : Int32)))]) (by decide +kernel) rfl rfl ⟨trivial, trivial, trivial, trivial, trivial, trivial⟩ ?_
    refine zr_if_eq (off := 6) (tgt := 17) (by decide +kernel) (by decide) (fun hc => ?_) (fun hc => ?_)
    · have hf := zift hf hc
      obtain ⟨h1, hf⟩ := zck_of hf
      refine zr_run [(.aload_n 0, 0, 0, 0, .null), (.getfield 15, 0, 0, 1, .null), (.iload_n 3, 0, 0, 0, .null), (.laload, 0, 2, 0, .null), (.lstore 4, 0, 0, 0, .null), (.iload_n 3, 0, 0, 0, .null), (.istore 6, 0, 0, 0, .null)] [] (WW' := [w_Sn G a0 s0]) (lv' := [some (.ref (a0 0)), some (.int x1), some (.int x2), some (.int x3), some (.long ((Sn_best s0) x3.toNatClampNeg)), none, some (.int x3)]) (pc' := 28) (st' := []) (by decide +kernel) rfl rfl ⟨trivial, ⟨rfl, rfl, zw_2_84⟩, trivial, ⟨rfl, rfl, h1⟩, trivial, trivial, trivial, trivial⟩ ?_
      exact t_X9_spread_L28 l G a0 W0 r k2 hk2 zFU s0 x1 x2 x3 ((Sn_best s0) x3.toNatClampNeg) x3 hf
    · have hf := ziff hf hc
      refine zr_goto (off := 73) (tgt := 87) (by decide +kernel) (by decide) ?_
      exact t_X9_spread_b87 l G a0 W0 r s0 k2 hk2 x1 x2 x3 hf
  · have hf := ziff hf hc
    obtain rfl := Option.some.inj hf
    exact zr_vret (b0 := fun _ => 0) (by decide +kernel) rfl rfl rfl rfl rfl
theorem t_X9_spread_L2 (l : Launch) (G : zj_G) (a0 : Nat → Nat) (W0 : List va_W) (r : SnT)    : ∀ (n : Nat) (s0 : SnT) (x1 : Int32) (x2 : Int32) (x3 : Int32), f_X9_spread_L2 n s0 x1 x2 x3 = some r → zj_J l G M_X9_spread W0 (zj_ret G M_X9_spread W0 (none) (fun _ => [w_Sn G a0 r])) 0 0 [w_Sn G a0 s0] [some (.ref (a0 0)), some (.int x1), some (.int x2), some (.int x3), none, none, none] 2 [] := by
  intro n
  induction n with
  | zero => intro s0 x1 x2 x3 hf; exact nomatch (show none = some r from hf)
  | succ n ih => intro s0 x1 x2 x3 hf; exact t_X9_spread_H2 l G a0 W0 r s0  (f_X9_spread_L2 n)  ih x1 x2 x3  hf
set_option maxRecDepth 100000 in
set_option maxHeartbeats 4000000 in
theorem c_X9_spread (l : Launch) (G : zj_G) (a0 : Nat → Nat) (s0 : SnT) (x1 : Int32) (x2 : Int32) (r : SnT) (hf : f_X9_spread s0 x1 x2 = some r) : zj_C l G M_X9_spread yX9_spread [w_Sn G a0 s0] [.ref (a0 0), .int x1, .int x2] (none) (fun _ => [w_Sn G a0 r]) := by
  have key : ∀ W0 : List va_W, zj_J l G M_X9_spread W0 (zj_ret G M_X9_spread W0 (none) (fun _ => [w_Sn G a0 r])) 0 0 [w_Sn G a0 s0] [some (.ref (a0 0)), some (.int x1), some (.int x2), none, none, none, none] 0 [] := by
    intro W0
    unfold f_X9_spread at hf
    refine zr_run [(.iload_n 1, 0, 0, 0, .null), (.istore_n 3, 0, 0, 0, .null)] [] (WW' := [w_Sn G a0 s0]) (lv' := [some (.ref (a0 0)), some (.int x1), some (.int x2), some (.int x1), none, none, none]) (pc' := 2) (st' := []) (by decide +kernel) rfl rfl ⟨trivial, trivial, trivial⟩ ?_
    exact t_X9_spread_L2 l G a0 W0 r zFU s0 x1 x2 x1 hf
  exact zj_entry [some (.ref (a0 0)), some (.int x1), some (.int x2), none, none, none, none] (by decide +kernel) rfl (by decide) (Nat.le_of_ble_eq_true rfl) rfl rfl (key _)
def M_X9_send : zj_M := (RX9, cX9_send, 7, (some .int), { frames := 3, cells := 0, slots := 0, locals := 76 }, false)
theorem nm_X9_send : zj_nm yX9_send 2 := ⟨by decide +kernel, by decide +kernel, by decide +kernel⟩
def f_X9_send_b69  (s0 : SnT) (s1 : LdT) (s2 : FkT) (k30 : SnT → Int32 → Int32 → Option (Int32 × SnT)) (x3 : Int32) (x4 : Int32) : Option (Int32 × SnT) := k30 s0 x3 (x4 + (1 : Int32))
def f_X9_send_b137  (s0 : SnT) (s1 : LdT) (s2 : FkT) (k105 : SnT → Int32 → Int64 → Int32 → Option (Int32 × SnT)) (x3 : Int32) (x4 : Int64) (x6 : Int32) (z0 : Int32) (z1 : Int32) : Option (Int32 × SnT) := (if zb_in z1 6 = true then (zlet (Sn_s_ports s0 ((upd (Sn_ports s0) z1.toNatClampNeg z0))) fun y12 => k105 y12 x3 (x4 / (10 : Int64)) (x6 + (-1 : Int32))) else none)
def f_X9_send_H105  (s0 : SnT) (s1 : LdT) (s2 : FkT) (k105 : SnT → Int32 → Int64 → Int32 → Option (Int32 × SnT)) (x3 : Int32) (x4 : Int64) (x6 : Int32) : Option (Int32 × SnT) := (if x6 < 0 then (if zb_in x3 64 = true then some ((((Sn_best s0) x3.toNatClampNeg) / (1000000 : Int64)).toInt32, s0) else none) else (if ((zr_shr x3 x6) &&& (1 : Int32)) = (1 : Int32) then f_X9_send_b137 s0 s1 s2 k105 x3 x4 x6 ((zr_reml x4 (10 : Int64)).toInt32) x6 else f_X9_send_b137 s0 s1 s2 k105 x3 x4 x6 (-1 : Int32) x6))
def f_X9_send_L105  (s1 : LdT) (s2 : FkT)  : Nat → SnT → Int32 → Int64 → Int32 → Option (Int32 × SnT)
  | 0 => fun _ _ _ _ => none
  | n + 1 => fun s0 x3 x4 x6 => f_X9_send_H105 s0 s1 s2 (f_X9_send_L105 s1 s2 n) x3 x4 x6
def f_X9_send_H30  (s0 : SnT) (s1 : LdT) (s2 : FkT) (k30 : SnT → Int32 → Int32 → Option (Int32 × SnT)) (x3 : Int32) (x4 : Int32) : Option (Int32 × SnT) := (if x4 < (Ld_places s1) then ((f_X3_isPort s1 x4).bind fun q4 => (if q4 = 0 then f_X9_send_b69 s0 s1 s2 k30 x3 x4 else ((f_X9_weigh s0 s1 s2 x4 x3).bind fun q5 => ((f_X3_ofPlace s1 x4 (3 : Int32)).bind fun q6 => ((f_X9_spread q5 x3 q6).bind fun q7 => f_X9_send_b69 q7 s1 s2 k30 x3 x4))))) else (if zb_in x3 64 = true then (if (lg_cmp ((Sn_best s0) x3.toNatClampNeg) (1000000000000 : Int64)) < 0 then (if zb_in x3 64 = true then f_X9_send_L105 s1 s2 zFU s0 x3 (zr_reml ((Sn_best s0) x3.toNatClampNeg) (1000000 : Int64)) (5 : Int32) else none) else some ((-1 : Int32), s0)) else none))
def f_X9_send_L30  (s1 : LdT) (s2 : FkT)  : Nat → SnT → Int32 → Int32 → Option (Int32 × SnT)
  | 0 => fun _ _ _ => none
  | n + 1 => fun s0 x3 x4 => f_X9_send_H30 s0 s1 s2 (f_X9_send_L30 s1 s2 n) x3 x4
def f_X9_send  (s0 : SnT) (s1 : LdT) (s2 : FkT)  : Option (Int32 × SnT) := ((f_X1_menWho s2 (Ld_men s1) (0 : Int32)).bind fun q1 => (zlet (Sn_s_best s0 ((zr_fill 64 (Sn_best s0) (1000000000000 : Int64)))) fun y2 => (zlet (Sn_s_best y2 ((vp_updL (Sn_best y2) (0 : Int32).toNatClampNeg (0 : Int64)))) fun y3 => f_X9_send_L30 s1 s2 zFU y3 q1 (0 : Int32))))
set_option maxRecDepth 100000 in
set_option maxHeartbeats 4000000 in
theorem t_X9_send_b69 (l : Launch) (G : zj_G) (a0 : Nat → Nat) (a1 : Nat → Nat) (a2 : Nat → Nat) (W0 : List va_W) (r : Int32 × SnT) (s0 : SnT) (s1 : LdT) (s2 : FkT) (k30 : SnT → Int32 → Int32 → Option (Int32 × SnT)) (hk30 : ∀ (s0 : SnT) (x3 : Int32) (x4 : Int32), k30 s0 x3 x4 = some r → zj_J l G M_X9_send W0 (zj_ret G M_X9_send W0 (some (.int r.1)) (fun _ => [w_Sn G a0 r.2, w_Ld G a1 s1, w_Fk G a2 s2])) 0 0 [w_Sn G a0 s0, w_Ld G a1 s1, w_Fk G a2 s2] [some (.ref (a0 0)), some (.ref (a1 0)), some (.ref (a2 0)), some (.int x3), some (.int x4), none, none] 30 []) (x3 : Int32) (x4 : Int32) (hf : f_X9_send_b69 s0 s1 s2 k30 x3 x4 = some r) : zj_J l G M_X9_send W0 (zj_ret G M_X9_send W0 (some (.int r.1)) (fun _ => [w_Sn G a0 r.2, w_Ld G a1 s1, w_Fk G a2 s2])) 0 0 [w_Sn G a0 s0, w_Ld G a1 s1, w_Fk G a2 s2] [some (.ref (a0 0)), some (.ref (a1 0)), some (.ref (a2 0)), some (.int x3), some (.int x4), none, none] 69 [] := by
  unfold f_X9_send_b69 at hf
  refine zr_run [(.iinc 4 1, 0, 0, 0, .int (1 : Int32))] [] (WW' := [w_Sn G a0 s0, w_Ld G a1 s1, w_Fk G a2 s2]) (lv' := [some (.ref (a0 0)), some (.ref (a1 0)), some (.ref (a2 0)), some (.int x3), some (.int (x4 + (1 : Int32))), none, none]) (pc' := 72) (st' := []) (by decide +kernel) rfl rfl ⟨trivial, trivial⟩ ?_
  refine zr_goto (off := -42) (tgt := 30) (by decide +kernel) (by decide) ?_
  exact hk30 s0 x3 (x4 + (1 : Int32)) hf
set_option maxRecDepth 100000 in
set_option maxHeartbeats 4000000 in
theorem t_X9_send_b137 (l : Launch) (G : zj_G) (a0 : Nat → Nat) (a1 : Nat → Nat) (a2 : Nat → Nat) (W0 : List va_W) (r : Int32 × SnT) (s0 : SnT) (s1 : LdT) (s2 : FkT) (k105 : SnT → Int32 → Int64 → Int32 → Option (Int32 × SnT)) (hk105 : ∀ (s0 : SnT) (x3 : Int32) (x4 : Int64) (x6 : Int32), k105 s0 x3 x4 x6 = some r → zj_J l G M_X9_send W0 (zj_ret G M_X9_send W0 (some (.int r.1)) (fun _ => [w_Sn G a0 r.2, w_Ld G a1 s1, w_Fk G a2 s2])) 0 0 [w_Sn G a0 s0, w_Ld G a1 s1, w_Fk G a2 s2] [some (.ref (a0 0)), none, none, some (.int x3), some (.long x4), none, some (.int x6)] 105 []) (x3 : Int32) (x4 : Int64) (x6 : Int32) (z0 : Int32) (z1 : Int32) (hf : f_X9_send_b137 s0 s1 s2 k105 x3 x4 x6 z0 z1 = some r) : zj_J l G M_X9_send W0 (zj_ret G M_X9_send W0 (some (.int r.1)) (fun _ => [w_Sn G a0 r.2, w_Ld G a1 s1, w_Fk G a2 s2])) 0 0 [w_Sn G a0 s0, w_Ld G a1 s1, w_Fk G a2 s2] [some (.ref (a0 0)), none, none, some (.int x3), some (.long x4), none, some (.int x6)] 137 [.int z0, .int z1, .ref (a0 1)] := by
  unfold f_X9_send_b137 at hf
  obtain ⟨h11, hf⟩ := zck_of hf
  obtain ⟨y12, e12, hf⟩ := zlet_of hf
  refine zr_run [(.iastore, 0, 1, 0, .null)] [] (WW' := [w_Sn G a0 (Sn_s_ports s0 ((upd (Sn_ports s0) z1.toNatClampNeg z0))), w_Ld G a1 s1, w_Fk G a2 s2]) (lv' := [some (.ref (a0 0)), none, none, some (.int x3), some (.long x4), none, some (.int x6)]) (pc' := 138) (st' := []) (by decide +kernel) rfl rfl ⟨⟨rfl, rfl, h11⟩, trivial⟩ ?_
  refine zr_eq (WW2 := [w_Sn G a0 y12, w_Ld G a1 s1, w_Fk G a2 s2]) (lv2 := [some (.ref (a0 0)), none, none, some (.int x3), some (.long x4), none, some (.int x6)]) (st2 := []) (by rw [e12]) rfl rfl ?_
  refine zr_run [(.lload 4, 0, 0, 0, .null), (.ldc2_w 65, 0, 0, 0, .long (10 : Int64)), (.ldiv, 0, 0, 0, .null), (.lstore 4, 0, 0, 0, .null), (.iinc 6 (-1), 0, 0, 0, .int (-1 : Int32))] [] (WW' := [w_Sn G a0 y12, w_Ld G a1 s1, w_Fk G a2 s2]) (lv' := [some (.ref (a0 0)), none, none, some (.int x3), some (.long (x4 / (10 : Int64))), none, some (.int (x6 + (-1 : Int32)))]) (pc' := 149) (st' := []) (by decide +kernel) rfl rfl ⟨trivial, zw_4_103, (by decide), trivial, trivial, trivial⟩ ?_
  refine zr_goto (off := -44) (tgt := 105) (by decide +kernel) (by decide) ?_
  exact hk105 y12 x3 (x4 / (10 : Int64)) (x6 + (-1 : Int32)) hf
set_option maxRecDepth 100000 in
set_option maxHeartbeats 4000000 in
theorem t_X9_send_H105 (l : Launch) (G : zj_G) (a0 : Nat → Nat) (a1 : Nat → Nat) (a2 : Nat → Nat) (W0 : List va_W) (r : Int32 × SnT) (s0 : SnT) (s1 : LdT) (s2 : FkT) (k105 : SnT → Int32 → Int64 → Int32 → Option (Int32 × SnT)) (hk105 : ∀ (s0 : SnT) (x3 : Int32) (x4 : Int64) (x6 : Int32), k105 s0 x3 x4 x6 = some r → zj_J l G M_X9_send W0 (zj_ret G M_X9_send W0 (some (.int r.1)) (fun _ => [w_Sn G a0 r.2, w_Ld G a1 s1, w_Fk G a2 s2])) 0 0 [w_Sn G a0 s0, w_Ld G a1 s1, w_Fk G a2 s2] [some (.ref (a0 0)), none, none, some (.int x3), some (.long x4), none, some (.int x6)] 105 []) (x3 : Int32) (x4 : Int64) (x6 : Int32) (hf : f_X9_send_H105 s0 s1 s2 k105 x3 x4 x6 = some r) : zj_J l G M_X9_send W0 (zj_ret G M_X9_send W0 (some (.int r.1)) (fun _ => [w_Sn G a0 r.2, w_Ld G a1 s1, w_Fk G a2 s2])) 0 0 [w_Sn G a0 s0, w_Ld G a1 s1, w_Fk G a2 s2] [some (.ref (a0 0)), none, none, some (.int x3), some (.long x4), none, some (.int x6)] 105 [] := by
  unfold f_X9_send_H105 at hf
  refine zr_run [(.iload 6, 0, 0, 0, .null)] [] (WW' := [w_Sn G a0 s0, w_Ld G a1 s1, w_Fk G a2 s2]) (lv' := [some (.ref (a0 0)), none, none, some (.int x3), some (.long x4), none, some (.int x6)]) (pc' := 107) (st' := [.int x6]) (by decide +kernel) rfl rfl ⟨trivial, trivial⟩ ?_
  refine zr_if_lt (off := 45) (tgt := 152) (by decide +kernel) (by decide) (fun hc => ?_) (fun hc => ?_)
  · have hf := zift hf hc
    obtain ⟨h10, hf⟩ := zck_of hf
    refine zr_run [(.aload_n 0, 0, 0, 0, .null), (.getfield 15, 0, 0, 1, .null), (.iload_n 3, 0, 0, 0, .null), (.laload, 0, 2, 0, .null), (.ldc2_w 63, 0, 0, 0, .long (1000000 : Int64)), (.ldiv, 0, 0, 0, .null), (.l2i, 0, 0, 0, .null)] [] (WW' := [w_Sn G a0 s0, w_Ld G a1 s1, w_Fk G a2 s2]) (lv' := [some (.ref (a0 0)), none, none, some (.int x3), some (.long x4), none, some (.int x6)]) (pc' := 163) (st' := [.int ((((Sn_best s0) x3.toNatClampNeg) / (1000000 : Int64)).toInt32)]) (by decide +kernel) rfl rfl ⟨trivial, ⟨rfl, rfl, zw_2_84⟩, trivial, ⟨rfl, rfl, h10⟩, zw_4_102, (by decide), trivial, trivial⟩ ?_
    obtain rfl := Option.some.inj hf
    exact zr_iret (b0 := fun _ => 0) (by decide +kernel) rfl rfl rfl rfl rfl
  · have hf := ziff hf hc
    refine zr_run [(.aload_n 0, 0, 0, 0, .null), (.getfield 9, 0, 0, 0, .null), (.iload 6, 0, 0, 0, .null), (.iload_n 3, 0, 0, 0, .null), (.iload 6, 0, 0, 0, .null), (.ishr, 0, 0, 0, .null), (.iconst 1, 0, 0, 0, .int (1 : Int32)), (.iand, 0, 0, 0, .null), (.iconst 1, 0, 0, 0, .int (1 : Int32))] [] (WW' := [w_Sn G a0 s0, w_Ld G a1 s1, w_Fk G a2 s2]) (lv' := [some (.ref (a0 0)), none, none, some (.int x3), some (.long x4), none, some (.int x6)]) (pc' := 123) (st' := [.int (1 : Int32), .int ((zr_shr x3 x6) &&& (1 : Int32)), .int x6, .ref (a0 1)]) (by decide +kernel) rfl rfl ⟨trivial, ⟨rfl, rfl, zw_2_83⟩, trivial, trivial, trivial, trivial, trivial, trivial, trivial, trivial⟩ ?_
    refine zr_icmp_ne (off := 13) (tgt := 136) (by decide +kernel) (by decide) (fun hc => ?_) (fun hc => ?_)
    · have hf := zift hf hc
      refine zr_run [(.lload 4, 0, 0, 0, .null), (.ldc2_w 65, 0, 0, 0, .long (10 : Int64)), (.lrem, 0, 0, 0, .null), (.l2i, 0, 0, 0, .null)] [] (WW' := [w_Sn G a0 s0, w_Ld G a1 s1, w_Fk G a2 s2]) (lv' := [some (.ref (a0 0)), none, none, some (.int x3), some (.long x4), none, some (.int x6)]) (pc' := 133) (st' := [.int ((zr_reml x4 (10 : Int64)).toInt32), .int x6, .ref (a0 1)]) (by decide +kernel) rfl rfl ⟨trivial, zw_4_103, (by decide), trivial, trivial⟩ ?_
      refine zr_goto (off := 4) (tgt := 137) (by decide +kernel) (by decide) ?_
      exact t_X9_send_b137 l G a0 a1 a2 W0 r s0 s1 s2 k105 hk105 x3 x4 x6 ((zr_reml x4 (10 : Int64)).toInt32) x6 hf
    · have hf := ziff hf hc
      refine zr_run [(.iconst (-1), 0, 0, 0, .int (-1 : Int32))] [] (WW' := [w_Sn G a0 s0, w_Ld G a1 s1, w_Fk G a2 s2]) (lv' := [some (.ref (a0 0)), none, none, some (.int x3), some (.long x4), none, some (.int x6)]) (pc' := 137) (st' := [.int (-1 : Int32), .int x6, .ref (a0 1)]) (by decide +kernel) rfl rfl ⟨trivial, trivial⟩ ?_
      exact t_X9_send_b137 l G a0 a1 a2 W0 r s0 s1 s2 k105 hk105 x3 x4 x6 (-1 : Int32) x6 hf
theorem t_X9_send_L105 (l : Launch) (G : zj_G) (a0 : Nat → Nat) (a1 : Nat → Nat) (a2 : Nat → Nat) (W0 : List va_W) (r : Int32 × SnT) (s1 : LdT) (s2 : FkT)   : ∀ (n : Nat) (s0 : SnT) (x3 : Int32) (x4 : Int64) (x6 : Int32), f_X9_send_L105 s1 s2 n s0 x3 x4 x6 = some r → zj_J l G M_X9_send W0 (zj_ret G M_X9_send W0 (some (.int r.1)) (fun _ => [w_Sn G a0 r.2, w_Ld G a1 s1, w_Fk G a2 s2])) 0 0 [w_Sn G a0 s0, w_Ld G a1 s1, w_Fk G a2 s2] [some (.ref (a0 0)), none, none, some (.int x3), some (.long x4), none, some (.int x6)] 105 [] := by
  intro n
  induction n with
  | zero => intro s0 x3 x4 x6 hf; exact nomatch (show none = some r from hf)
  | succ n ih => intro s0 x3 x4 x6 hf; exact t_X9_send_H105 l G a0 a1 a2 W0 r s0 s1 s2  (f_X9_send_L105 s1 s2 n)  ih x3 x4 x6  hf
set_option maxRecDepth 100000 in
set_option maxHeartbeats 4000000 in
theorem t_X9_send_H30 (l : Launch) (G : zj_G) (a0 : Nat → Nat) (a1 : Nat → Nat) (a2 : Nat → Nat) (W0 : List va_W) (r : Int32 × SnT) (s0 : SnT) (s1 : LdT) (s2 : FkT) (k30 : SnT → Int32 → Int32 → Option (Int32 × SnT)) (hk30 : ∀ (s0 : SnT) (x3 : Int32) (x4 : Int32), k30 s0 x3 x4 = some r → zj_J l G M_X9_send W0 (zj_ret G M_X9_send W0 (some (.int r.1)) (fun _ => [w_Sn G a0 r.2, w_Ld G a1 s1, w_Fk G a2 s2])) 0 0 [w_Sn G a0 s0, w_Ld G a1 s1, w_Fk G a2 s2] [some (.ref (a0 0)), some (.ref (a1 0)), some (.ref (a2 0)), some (.int x3), some (.int x4), none, none] 30 []) (x3 : Int32) (x4 : Int32) (hf : f_X9_send_H30 s0 s1 s2 k30 x3 x4 = some r) : zj_J l G M_X9_send W0 (zj_ret G M_X9_send W0 (some (.int r.1)) (fun _ => [w_Sn G a0 r.2, w_Ld G a1 s1, w_Fk G a2 s2])) 0 0 [w_Sn G a0 s0, w_Ld G a1 s1, w_Fk G a2 s2] [some (.ref (a0 0)), some (.ref (a1 0)), some (.ref (a2 0)), some (.int x3), some (.int x4), none, none] 30 [] := by
  unfold f_X9_send_H30 at hf
  refine zr_run [(.iload 4, 0, 0, 0, .null), (.aload_n 1, 0, 0, 0, .null), (.getfield 45, 1, 0, 0, .null)] [] (WW' := [w_Sn G a0 s0, w_Ld G a1 s1, w_Fk G a2 s2]) (lv' := [some (.ref (a0 0)), some (.ref (a1 0)), some (.ref (a2 0)), some (.int x3), some (.int x4), none, none]) (pc' := 36) (st' := [.int (Ld_places s1), .int x4]) (by decide +kernel) rfl rfl ⟨trivial, trivial, ⟨rfl, rfl, zw_1_153⟩, trivial⟩ ?_
  refine zr_icmp_ge (off := 39) (tgt := 75) (by decide +kernel) (by decide) (fun hc => ?_) (fun hc => ?_)
  · have hf := zift hf hc
    obtain ⟨q4, e4, hf⟩ := zbi_of hf
    refine zr_run [(.aload_n 1, 0, 0, 0, .null), (.iload 4, 0, 0, 0, .null)] [] (WW' := [w_Sn G a0 s0, w_Ld G a1 s1, w_Fk G a2 s2]) (lv' := [some (.ref (a0 0)), some (.ref (a1 0)), some (.ref (a2 0)), some (.int x3), some (.int x4), none, none]) (pc' := 42) (st' := [.int x4, .ref (a1 0)]) (by decide +kernel) rfl rfl ⟨trivial, trivial, trivial⟩ ?_
    refine zr_callV (c_X3_isPort l G a1 s1 x4 q4 e4) (WW' := fun _ => [w_Sn G a0 s0, w_Ld G a1 s1, w_Fk G a2 s2]) (st := []) (st' := [.int q4]) [1] rfl rfl (fun _ => Nat.le_of_ble_eq_true rfl) (fun _ => rfl) rfl rfl nm_X3_isPort zw_4_97 zw_3_173 zw_3_174 zw_1_7 zw_3_175 rfl rfl rfl (Nat.le_of_ble_eq_true rfl) ⟨Nat.le_of_ble_eq_true rfl, Nat.le_of_ble_eq_true rfl⟩ (by decide +kernel) (fun _ => ?_)
    refine zr_if_eq (off := 24) (tgt := 69) (by decide +kernel) (by decide) (fun hc => ?_) (fun hc => ?_)
    · have hf := zift hf hc
      exact t_X9_send_b69 l G a0 a1 a2 W0 r s0 s1 s2 k30 hk30 x3 x4 hf
    · have hf := ziff hf hc
      obtain ⟨q5, e5, hf⟩ := zbi_of hf
      refine zr_run [(.aload_n 0, 0, 0, 0, .null), (.aload_n 1, 0, 0, 0, .null), (.aload_n 2, 0, 0, 0, .null), (.iload 4, 0, 0, 0, .null), (.iload_n 3, 0, 0, 0, .null)] [] (WW' := [w_Sn G a0 s0, w_Ld G a1 s1, w_Fk G a2 s2]) (lv' := [some (.ref (a0 0)), some (.ref (a1 0)), some (.ref (a2 0)), some (.int x3), some (.int x4), none, none]) (pc' := 54) (st' := [.int x3, .int x4, .ref (a2 0), .ref (a1 0), .ref (a0 0)]) (by decide +kernel) rfl rfl ⟨trivial, trivial, trivial, trivial, trivial, trivial⟩ ?_
      refine zr_callV (c_X9_weigh l G a0 a1 a2 s0 s1 s2 x4 x3 q5 e5) (WW' := fun _ => [w_Sn G a0 q5, w_Ld G a1 s1, w_Fk G a2 s2]) (st := []) (st' := []) [0, 1, 2] rfl rfl (fun _ => Nat.le_of_ble_eq_true rfl) (fun _ => rfl) rfl rfl nm_X9_weigh zw_4_98 zw_4_100 zw_0_19 zw_1_14 zw_4_101 rfl rfl rfl (Nat.le_of_ble_eq_true rfl) ⟨Nat.le_of_ble_eq_true rfl, Nat.le_of_ble_eq_true rfl⟩ (by decide +kernel) (fun _ => ?_)
      obtain ⟨q6, e6, hf⟩ := zbi_of hf
      refine zr_run [(.aload_n 0, 0, 0, 0, .null), (.iload_n 3, 0, 0, 0, .null), (.aload_n 1, 0, 0, 0, .null), (.iload 4, 0, 0, 0, .null), (.iconst 3, 0, 0, 0, .int (3 : Int32))] [] (WW' := [w_Sn G a0 q5, w_Ld G a1 s1, w_Fk G a2 s2]) (lv' := [some (.ref (a0 0)), some (.ref (a1 0)), some (.ref (a2 0)), some (.int x3), some (.int x4), none, none]) (pc' := 63) (st' := [.int (3 : Int32), .int x4, .ref (a1 0), .int x3, .ref (a0 0)]) (by decide +kernel) rfl rfl ⟨trivial, trivial, trivial, trivial, trivial, trivial⟩ ?_
      refine zr_callV (c_X3_ofPlace l G a1 s1 x4 (3 : Int32) q6 e6) (WW' := fun _ => [w_Sn G a0 q5, w_Ld G a1 s1, w_Fk G a2 s2]) (st := [.int x3, .ref (a0 0)]) (st' := [.int q6, .int x3, .ref (a0 0)]) [1] rfl rfl (fun _ => Nat.le_of_ble_eq_true rfl) (fun _ => rfl) rfl rfl nm_X3_ofPlace zw_4_107 zw_3_55 zw_3_56 zw_1_7 zw_3_55n rfl rfl rfl (Nat.le_of_ble_eq_true rfl) ⟨Nat.le_of_ble_eq_true rfl, Nat.le_of_ble_eq_true rfl⟩ (by decide +kernel) (fun _ => ?_)
      obtain ⟨q7, e7, hf⟩ := zbi_of hf
      refine zr_callV (c_X9_spread l G a0 q5 x3 q6 q7 e7) (WW' := fun _ => [w_Sn G a0 q7, w_Ld G a1 s1, w_Fk G a2 s2]) (st := []) (st' := []) [0] rfl rfl (fun _ => Nat.le_of_ble_eq_true rfl) (fun _ => rfl) rfl rfl nm_X9_spread zw_4_108 zw_4_110 zw_0_20 zw_1_14 zw_4_111 rfl rfl rfl (Nat.le_of_ble_eq_true rfl) ⟨Nat.le_of_ble_eq_true rfl, Nat.le_of_ble_eq_true rfl⟩ (by decide +kernel) (fun _ => ?_)
      exact t_X9_send_b69 l G a0 a1 a2 W0 r q7 s1 s2 k30 hk30 x3 x4 hf
  · have hf := ziff hf hc
    obtain ⟨h8, hf⟩ := zck_of hf
    refine zr_run [(.aload_n 0, 0, 0, 0, .null), (.getfield 15, 0, 0, 1, .null), (.iload_n 3, 0, 0, 0, .null), (.laload, 0, 2, 0, .null), (.ldc2_w 40, 0, 0, 0, .long (1000000000000 : Int64)), (.lcmp, 0, 0, 0, .null)] [] (WW' := [w_Sn G a0 s0, w_Ld G a1 s1, w_Fk G a2 s2]) (lv' := [some (.ref (a0 0)), some (.ref (a1 0)), some (.ref (a2 0)), some (.int x3), some (.int x4), none, none]) (pc' := 85) (st' := [.int (lg_cmp ((Sn_best s0) x3.toNatClampNeg) (1000000000000 : Int64))]) (by decide +kernel) rfl rfl ⟨trivial, ⟨rfl, rfl, zw_2_84⟩, trivial, ⟨rfl, rfl, h8⟩, zw_4_93, trivial, trivial⟩ ?_
    refine zr_if_lt (off := 5) (tgt := 90) (by decide +kernel) (by decide) (fun hc => ?_) (fun hc => ?_)
    · have hf := zift hf hc
      obtain ⟨h9, hf⟩ := zck_of hf
      refine zr_run [(.aload_n 0, 0, 0, 0, .null), (.getfield 15, 0, 0, 1, .null), (.iload_n 3, 0, 0, 0, .null), (.laload, 0, 2, 0, .null), (.ldc2_w 63, 0, 0, 0, .long (1000000 : Int64)), (.lrem, 0, 0, 0, .null), (.lstore 4, 0, 0, 0, .null), (.iconst 5, 0, 0, 0, .int (5 : Int32)), (.istore 6, 0, 0, 0, .null)] [1, 2] (WW' := [w_Sn G a0 s0, w_Ld G a1 s1, w_Fk G a2 s2]) (lv' := [some (.ref (a0 0)), none, none, some (.int x3), some (.long (zr_reml ((Sn_best s0) x3.toNatClampNeg) (1000000 : Int64))), none, some (.int (5 : Int32))]) (pc' := 105) (st' := []) (by decide +kernel) rfl rfl ⟨trivial, ⟨rfl, rfl, zw_2_84⟩, trivial, ⟨rfl, rfl, h9⟩, zw_4_102, (by decide), trivial, trivial, trivial, trivial⟩ ?_
      exact t_X9_send_L105 l G a0 a1 a2 W0 r s1 s2 zFU s0 x3 (zr_reml ((Sn_best s0) x3.toNatClampNeg) (1000000 : Int64)) (5 : Int32) hf
    · have hf := ziff hf hc
      refine zr_run [(.iconst (-1), 0, 0, 0, .int (-1 : Int32))] [] (WW' := [w_Sn G a0 s0, w_Ld G a1 s1, w_Fk G a2 s2]) (lv' := [some (.ref (a0 0)), some (.ref (a1 0)), some (.ref (a2 0)), some (.int x3), some (.int x4), none, none]) (pc' := 89) (st' := [.int (-1 : Int32)]) (by decide +kernel) rfl rfl ⟨trivial, trivial⟩ ?_
      obtain rfl := Option.some.inj hf
      exact zr_iret (b0 := fun _ => 0) (by decide +kernel) rfl rfl rfl rfl rfl
theorem t_X9_send_L30 (l : Launch) (G : zj_G) (a0 : Nat → Nat) (a1 : Nat → Nat) (a2 : Nat → Nat) (W0 : List va_W) (r : Int32 × SnT) (s1 : LdT) (s2 : FkT)   : ∀ (n : Nat) (s0 : SnT) (x3 : Int32) (x4 : Int32), f_X9_send_L30 s1 s2 n s0 x3 x4 = some r → zj_J l G M_X9_send W0 (zj_ret G M_X9_send W0 (some (.int r.1)) (fun _ => [w_Sn G a0 r.2, w_Ld G a1 s1, w_Fk G a2 s2])) 0 0 [w_Sn G a0 s0, w_Ld G a1 s1, w_Fk G a2 s2] [some (.ref (a0 0)), some (.ref (a1 0)), some (.ref (a2 0)), some (.int x3), some (.int x4), none, none] 30 [] := by
  intro n
  induction n with
  | zero => intro s0 x3 x4 hf; exact nomatch (show none = some r from hf)
  | succ n ih => intro s0 x3 x4 hf; exact t_X9_send_H30 l G a0 a1 a2 W0 r s0 s1 s2  (f_X9_send_L30 s1 s2 n)  ih x3 x4  hf
set_option maxRecDepth 100000 in
set_option maxHeartbeats 4000000 in
theorem c_X9_send (l : Launch) (G : zj_G) (a0 : Nat → Nat) (a1 : Nat → Nat) (a2 : Nat → Nat) (s0 : SnT) (s1 : LdT) (s2 : FkT)  (r : Int32 × SnT) (hf : f_X9_send s0 s1 s2 = some r) : zj_C l G M_X9_send yX9_send [w_Sn G a0 s0, w_Ld G a1 s1, w_Fk G a2 s2] [.ref (a0 0), .ref (a1 0), .ref (a2 0)] (some (.int r.1)) (fun _ => [w_Sn G a0 r.2, w_Ld G a1 s1, w_Fk G a2 s2]) := by
  have key : ∀ W0 : List va_W, zj_J l G M_X9_send W0 (zj_ret G M_X9_send W0 (some (.int r.1)) (fun _ => [w_Sn G a0 r.2, w_Ld G a1 s1, w_Fk G a2 s2])) 0 0 [w_Sn G a0 s0, w_Ld G a1 s1, w_Fk G a2 s2] [some (.ref (a0 0)), some (.ref (a1 0)), some (.ref (a2 0)), none, none, none, none] 0 [] := by
    intro W0
    unfold f_X9_send at hf
    obtain ⟨q1, e1, hf⟩ := zbi_of hf
    refine zr_run [(.aload_n 2, 0, 0, 0, .null), (.aload_n 1, 0, 0, 0, .null), (.getfield 28, 1, 0, 2, .null), (.iconst 0, 0, 0, 0, .int (0 : Int32))] [] (WW' := [w_Sn G a0 s0, w_Ld G a1 s1, w_Fk G a2 s2]) (lv' := [some (.ref (a0 0)), some (.ref (a1 0)), some (.ref (a2 0)), none, none, none, none]) (pc' := 6) (st' := [.int (0 : Int32), .int (Ld_men s1), .ref (a2 0)]) (by decide +kernel) rfl rfl ⟨trivial, trivial, ⟨rfl, rfl, zw_1_159⟩, trivial, trivial⟩ ?_
    refine zr_callV (c_X1_menWho l G a2 s2 (Ld_men s1) (0 : Int32) q1 e1) (WW' := fun _ => [w_Sn G a0 s0, w_Ld G a1 s1, w_Fk G a2 s2]) (st := []) (st' := [.int q1]) [2] rfl rfl (fun _ => Nat.le_of_ble_eq_true rfl) (fun _ => rfl) rfl rfl nm_X1_menWho zw_4_92 zw_3_161 zw_3_162 zw_1_8 zw_3_163 rfl rfl rfl (Nat.le_of_ble_eq_true rfl) ⟨Nat.le_of_ble_eq_true rfl, Nat.le_of_ble_eq_true rfl⟩ (by decide +kernel) (fun _ => ?_)
    refine zr_run [(.istore_n 3, 0, 0, 0, .null), (.aload_n 0, 0, 0, 0, .null), (.getfield 15, 0, 0, 1, .null), (.ldc2_w 40, 0, 0, 0, .long (1000000000000 : Int64))] [] (WW' := [w_Sn G a0 s0, w_Ld G a1 s1, w_Fk G a2 s2]) (lv' := [some (.ref (a0 0)), some (.ref (a1 0)), some (.ref (a2 0)), some (.int q1), none, none, none]) (pc' := 17) (st' := [.long (1000000000000 : Int64), .ref (a0 2)]) (by decide +kernel) rfl rfl ⟨trivial, trivial, ⟨rfl, rfl, zw_2_84⟩, zw_4_93, trivial⟩ ?_
    refine zr_fillJ (b := 0) (c' := 2) rfl rfl rfl (Nat.le_of_ble_eq_true rfl) zw_4_94 zw_4_95 zw_1_13 zw_4_96 rfl (Nat.le_of_ble_eq_true rfl) ⟨Nat.le_of_ble_eq_true rfl, Nat.le_of_ble_eq_true rfl⟩ (by decide +kernel) ?_
    refine zr_eq (WW2 := [w_Sn G a0 (Sn_s_best s0 ((zr_fill 64 (Sn_best s0) (1000000000000 : Int64)))), w_Ld G a1 s1, w_Fk G a2 s2]) rfl rfl rfl ?_
    obtain ⟨y2, e2, hf⟩ := zlet_of hf
    refine zr_eq (WW2 := [w_Sn G a0 y2, w_Ld G a1 s1, w_Fk G a2 s2]) (lv2 := [some (.ref (a0 0)), some (.ref (a1 0)), some (.ref (a2 0)), some (.int q1), none, none, none]) (st2 := []) (by rw [e2]) rfl rfl ?_
    obtain ⟨y3, e3, hf⟩ := zlet_of hf
    refine zr_run [(.aload_n 0, 0, 0, 0, .null), (.getfield 15, 0, 0, 1, .null), (.iconst 0, 0, 0, 0, .int (0 : Int32)), (.lconst 0, 0, 0, 0, .long (0 : Int64)), (.lastore, 0, 2, 0, .null)] [] (WW' := [w_Sn G a0 (Sn_s_best y2 ((vp_updL (Sn_best y2) (0 : Int32).toNatClampNeg (0 : Int64)))), w_Ld G a1 s1, w_Fk G a2 s2]) (lv' := [some (.ref (a0 0)), some (.ref (a1 0)), some (.ref (a2 0)), some (.int q1), none, none, none]) (pc' := 27) (st' := []) (by decide +kernel) rfl rfl ⟨trivial, ⟨rfl, rfl, zw_2_84⟩, trivial, trivial, ⟨rfl, rfl, (by decide)⟩, trivial⟩ ?_
    refine zr_eq (WW2 := [w_Sn G a0 y3, w_Ld G a1 s1, w_Fk G a2 s2]) (lv2 := [some (.ref (a0 0)), some (.ref (a1 0)), some (.ref (a2 0)), some (.int q1), none, none, none]) (st2 := []) (by rw [e3]) rfl rfl ?_
    refine zr_run [(.iconst 0, 0, 0, 0, .int (0 : Int32)), (.istore 4, 0, 0, 0, .null)] [] (WW' := [w_Sn G a0 y3, w_Ld G a1 s1, w_Fk G a2 s2]) (lv' := [some (.ref (a0 0)), some (.ref (a1 0)), some (.ref (a2 0)), some (.int q1), some (.int (0 : Int32)), none, none]) (pc' := 30) (st' := []) (by decide +kernel) rfl rfl ⟨trivial, trivial, trivial⟩ ?_
    exact t_X9_send_L30 l G a0 a1 a2 W0 r s1 s2 zFU y3 q1 (0 : Int32) hf
  exact zj_entry [some (.ref (a0 0)), some (.ref (a1 0)), some (.ref (a2 0)), none, none, none, none] (by decide +kernel) rfl (by decide) (Nat.le_of_ble_eq_true rfl) rfl rfl (key _)
