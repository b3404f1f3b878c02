def M_X11_commonDivisor : zj_M := (RX11, cX11_commonDivisor, 11, (some .long), { frames := 0, cells := 0, slots := 0, locals := 0 }, false)
theorem nm_X11_commonDivisor : zj_nm yX11_commonDivisor 2 := ⟨by decide +kernel, by decide +kernel, by decide +kernel⟩
def f_X11_commonDivisor_b45    (x4 : Int64) : Option (Int64) := (if (lg_cmp x4 (1 : Int64)) < 0 then some (1 : Int64) else some x4)
def f_X11_commonDivisor_H9   (k9 : Int64 → Int64 → Int32 → Option (Int64)) (x4 : Int64) (x6 : Int64) (x8 : Int32) : Option (Int64) := (if x8 < (1000 : Int32) then (if (lg_cmp x6 (0 : Int64)) = 0 then f_X11_commonDivisor_b45 x4 else (if zb_nzl x6 = true then k9 x6 (zr_reml x4 x6) (x8 + (1 : Int32)) else none)) else f_X11_commonDivisor_b45 x4)
def f_X11_commonDivisor_L9    : Nat → Int64 → Int64 → Int32 → Option (Int64)
  | 0 => fun _ _ _ => none
  | n + 1 => fun x4 x6 x8 => f_X11_commonDivisor_H9 (f_X11_commonDivisor_L9  n) x4 x6 x8
def f_X11_commonDivisor   (x0 : Int64) (x2 : Int64) : Option (Int64) := f_X11_commonDivisor_L9 zFU x0 x2 (0 : Int32)
set_option maxRecDepth 100000 in
set_option maxHeartbeats 4000000 in
theorem t_X11_commonDivisor_b45 (l : Launch) (G : zj_G)  (W0 : List va_W) (r : Int64)    (x4 : Int64) (hf : f_X11_commonDivisor_b45 x4 = some r) : zj_J l G M_X11_commonDivisor W0 (zj_ret G M_X11_commonDivisor W0 (some (.long r)) (fun _ => [])) 0 0 [] [none, none, none, none, some (.long x4), none, none, none, none, none, none] 45 [] := by
  unfold f_X11_commonDivisor_b45 at hf
  refine zr_run [(.lload 4, 0, 0, 0, .null), (.lconst 1, 0, 0, 0, .long (1 : Int64)), (.lcmp, 0, 0, 0, .null)] [] (WW' := []) (lv' := [none, none, none, none, some (.long x4), none, none, none, none, none, none]) (pc' := 49) (st' := [.int (lg_cmp x4 (1 : Int64))]) (by decide +kernel) rfl rfl ⟨trivial, trivial, trivial, trivial⟩ ?_
  refine zr_if_ge (off := 7) (tgt := 56) (by decide +kernel) (by decide) (fun hc => ?_) (fun hc => ?_)
  · have hf := zift hf hc
    refine zr_run [(.lconst 1, 0, 0, 0, .long (1 : Int64))] [] (WW' := []) (lv' := [none, none, none, none, some (.long x4), none, none, none, none, none, none]) (pc' := 53) (st' := [.long (1 : Int64)]) (by decide +kernel) rfl rfl ⟨trivial, trivial⟩ ?_
    refine zr_goto (off := 5) (tgt := 58) (by decide +kernel) (by decide) ?_
    obtain rfl := Option.some.inj hf
    exact zr_lret (b0 := fun _ => 0) (by decide +kernel) rfl rfl rfl rfl rfl
  · have hf := ziff hf hc
    refine zr_run [(.lload 4, 0, 0, 0, .null)] [] (WW' := []) (lv' := [none, none, none, none, some (.long x4), none, none, none, none, none, none]) (pc' := 58) (st' := [.long x4]) (by decide +kernel) rfl rfl ⟨trivial, trivial⟩ ?_
    obtain rfl := Option.some.inj hf
    exact zr_lret (b0 := fun _ => 0) (by decide +kernel) rfl rfl rfl rfl rfl
set_option maxRecDepth 100000 in
set_option maxHeartbeats 4000000 in
theorem t_X11_commonDivisor_H9 (l : Launch) (G : zj_G)  (W0 : List va_W) (r : Int64)  (k9 : Int64 → Int64 → Int32 → Option (Int64)) (hk9 : ∀ (x4 : Int64) (x6 : Int64) (x8 : Int32), k9 x4 x6 x8 = some r → zj_J l G M_X11_commonDivisor W0 (zj_ret G M_X11_commonDivisor W0 (some (.long r)) (fun _ => [])) 0 0 [] [none, none, none, none, some (.long x4), none, some (.long x6), none, some (.int x8), none, none] 9 []) (x4 : Int64) (x6 : Int64) (x8 : Int32) (hf : f_X11_commonDivisor_H9 k9 x4 x6 x8 = some r) : zj_J l G M_X11_commonDivisor W0 (zj_ret G M_X11_commonDivisor W0 (some (.long r)) (fun _ => [])) 0 0 [] [none, none, none, none, some (.long x4), none, some (.long x6), none, some (.int x8), none, none] 9 [] := by
  unfold f_X11_commonDivisor_H9 at hf
  refine zr_run [(.iload 8, 0, 0, 0, .null), (.sipush 1000, 0, 0, 0, .int (1000 : Int32))] [] (WW' := []) (lv' := [none, none, none, none, some (.long x4), none, some (.long x6), none, some (.int x8), none, none]) (pc' := 14) (st' := [.int (1000 : Int32), .int x8]) (by decide +kernel) rfl rfl ⟨trivial, trivial, trivial⟩ ?_
  refine zr_icmp_ge (off := 31) (tgt := 45) (by decide +kernel) (by decide) (fun hc => ?_) (fun hc => ?_)
  · have hf := zift hf hc
    refine zr_run [(.lload 6, 0, 0, 0, .null), (.lconst 0, 0, 0, 0, .long (0 : Int64)), (.lcmp, 0, 0, 0, .null)] [] (WW' := []) (lv' := [none, none, none, none, some (.long x4), none, some (.long x6), none, some (.int x8), none, none]) (pc' := 21) (st' := [.int (lg_cmp x6 (0 : Int64))]) (by decide +kernel) rfl rfl ⟨trivial, trivial, trivial, trivial⟩ ?_
    refine zr_if_eq (off := 24) (tgt := 45) (by decide +kernel) (by decide) (fun hc => ?_) (fun hc => ?_)
    · have hf := zift hf hc
      refine zr_run [] [6, 8] (WW' := []) (lv' := [none, none, none, none, some (.long x4), none, none, none, none, none, none]) (pc' := 45) (st' := []) (by decide +kernel) rfl rfl trivial ?_
      exact t_X11_commonDivisor_b45 l G W0 r x4 hf
    · have hf := ziff hf hc
      obtain ⟨h1, hf⟩ := zck_of hf
      refine zr_run [(.lload 4, 0, 0, 0, .null), (.lload 6, 0, 0, 0, .null), (.lrem, 0, 0, 0, .null), (.lstore 9, 0, 0, 0, .null), (.lload 6, 0, 0, 0, .null), (.lstore 4, 0, 0, 0, .null), (.lload 9, 0, 0, 0, .null), (.lstore 6, 0, 0, 0, .null), (.iinc 8 1, 0, 0, 0, .int (1 : Int32))] [] (WW' := []) (lv' := [none, none, none, none, some (.long x6), none, some (.long (zr_reml x4 x6)), none, some (.int (x8 + (1 : Int32))), some (.long (zr_reml x4 x6)), none]) (pc' := 42) (st' := []) (by decide +kernel) rfl rfl ⟨trivial, trivial, h1, trivial, trivial, trivial, trivial, trivial, trivial, trivial⟩ ?_
      refine zr_run [] [9] (WW' := []) (lv' := [none, none, none, none, some (.long x6), none, some (.long (zr_reml x4 x6)), none, some (.int (x8 + (1 : Int32))), none, none]) (pc' := 42) (st' := []) (by decide +kernel) rfl rfl trivial ?_
      refine zr_goto (off := -33) (tgt := 9) (by decide +kernel) (by decide) ?_
      exact hk9 x6 (zr_reml x4 x6) (x8 + (1 : Int32)) hf
  · have hf := ziff hf hc
    refine zr_run [] [6, 8] (WW' := []) (lv' := [none, none, none, none, some (.long x4), none, none, none, none, none, none]) (pc' := 45) (st' := []) (by decide +kernel) rfl rfl trivial ?_
    exact t_X11_commonDivisor_b45 l G W0 r x4 hf
theorem t_X11_commonDivisor_L9 (l : Launch) (G : zj_G)  (W0 : List va_W) (r : Int64)    : ∀ (n : Nat) (x4 : Int64) (x6 : Int64) (x8 : Int32), f_X11_commonDivisor_L9 n x4 x6 x8 = some r → zj_J l G M_X11_commonDivisor W0 (zj_ret G M_X11_commonDivisor W0 (some (.long r)) (fun _ => [])) 0 0 [] [none, none, none, none, some (.long x4), none, some (.long x6), none, some (.int x8), none, none] 9 [] := by
  intro n
  induction n with
  | zero => intro x4 x6 x8 hf; exact nomatch (show none = some r from hf)
  | succ n ih => intro x4 x6 x8 hf; exact t_X11_commonDivisor_H9 l G  W0 r   (f_X11_commonDivisor_L9 n)  ih x4 x6 x8  hf
set_option maxRecDepth 100000 in
set_option maxHeartbeats 4000000 in
theorem c_X11_commonDivisor (l : Launch) (G : zj_G)   (x0 : Int64) (x2 : Int64) (r : Int64) (hf : f_X11_commonDivisor x0 x2 = some r) : zj_C l G M_X11_commonDivisor yX11_commonDivisor [] [.long x0, .long x2] (some (.long r)) (fun _ => []) := by
  have key : ∀ W0 : List va_W, zj_J l G M_X11_commonDivisor W0 (zj_ret G M_X11_commonDivisor W0 (some (.long r)) (fun _ => [])) 0 0 [] [some (.long x0), none, some (.long x2), none, none, none, none, none, none, none, none] 0 [] := by
    intro W0
    unfold f_X11_commonDivisor at hf
    refine zr_run [(.lload_n 0, 0, 0, 0, .null), (.lstore 4, 0, 0, 0, .null), (.lload_n 2, 0, 0, 0, .null), (.lstore 6, 0, 0, 0, .null), (.iconst 0, 0, 0, 0, .int (0 : Int32)), (.istore 8, 0, 0, 0, .null)] [0, 2] (WW' := []) (lv' := [none, none, none, none, some (.long x0), none, some (.long x2), none, some (.int (0 : Int32)), none, none]) (pc' := 9) (st' := []) (by decide +kernel) rfl rfl ⟨trivial, trivial, trivial, trivial, trivial, trivial, trivial⟩ ?_
    exact t_X11_commonDivisor_L9 l G W0 r zFU x0 x2 (0 : Int32) hf
  exact zj_entry [some (.long x0), none, some (.long x2), none, none, none, none, none, none, none, none] (by decide +kernel) rfl (by decide) (Nat.le_of_ble_eq_true rfl) rfl rfl (key _)
def M_X6_milesOn : zj_M := (RX6, cX6_milesOn, 2, (some .int), { frames := 0, cells := 0, slots := 0, locals := 0 }, false)
theorem nm_X6_milesOn : zj_nm yX6_milesOn 1 := ⟨by decide +kernel, by decide +kernel, by decide +kernel⟩
def f_X6_milesOn_b10  (s0 : PlT)   : Option (Int32) := some (-1 : Int32)
def f_X6_milesOn  (s0 : PlT) (x1 : Int32) : Option (Int32) := (if x1 < 0 then f_X6_milesOn_b10 s0 else (if x1 < (12 : Int32) then (if zb_in x1 12 = true then some ((Pl_chosen s0) x1.toNatClampNeg) else none) else f_X6_milesOn_b10 s0))
set_option maxRecDepth 100000 in
set_option maxHeartbeats 4000000 in
theorem t_X6_milesOn_b10 (l : Launch) (G : zj_G) (a0 : Nat → Nat) (W0 : List va_W) (r : Int32) (s0 : PlT)    (hf : f_X6_milesOn_b10 s0 = some r) : zj_J l G M_X6_milesOn W0 (zj_ret G M_X6_milesOn W0 (some (.int r)) (fun _ => [w_Pl G a0 s0])) 0 0 [w_Pl G a0 s0] [none, none] 10 [] := by
  unfold f_X6_milesOn_b10 at hf
  refine zr_run [(.iconst (-1), 0, 0, 0, .int (-1 : Int32))] [] (WW' := [w_Pl G a0 s0]) (lv' := [none, none]) (pc' := 11) (st' := [.int (-1 : Int32)]) (by decide +kernel) rfl rfl ⟨trivial, trivial⟩ ?_
  refine zr_goto (off := 9) (tgt := 20) (by decide +kernel) (by decide) ?_
  obtain rfl := Option.some.inj hf
  exact zr_iret (b0 := fun _ => 0) (by decide +kernel) rfl rfl rfl rfl rfl
set_option maxRecDepth 100000 in
set_option maxHeartbeats 4000000 in
theorem c_X6_milesOn (l : Launch) (G : zj_G) (a0 : Nat → Nat) (s0 : PlT) (x1 : Int32) (r : Int32) (hf : f_X6_milesOn s0 x1 = some r) : zj_C l G M_X6_milesOn yX6_milesOn [w_Pl G a0 s0] [.ref (a0 0), .int x1] (some (.int r)) (fun _ => [w_Pl G a0 s0]) := by
  have key : ∀ W0 : List va_W, zj_J l G M_X6_milesOn W0 (zj_ret G M_X6_milesOn W0 (some (.int r)) (fun _ => [w_Pl G a0 s0])) 0 0 [w_Pl G a0 s0] [some (.ref (a0 0)), some (.int x1)] 0 [] := by
    intro W0
    unfold f_X6_milesOn at hf
    refine zr_run [(.iload_n 1, 0, 0, 0, .null)] [] (WW' := [w_Pl G a0 s0]) (lv' := [some (.ref (a0 0)), some (.int x1)]) (pc' := 1) (st' := [.int x1]) (by decide +kernel) rfl rfl ⟨trivial, trivial⟩ ?_
    refine zr_if_lt (off := 9) (tgt := 10) (by decide +kernel) (by decide) (fun hc => ?_) (fun hc => ?_)
    · have hf := zift hf hc
      refine zr_run [] [0, 1] (WW' := [w_Pl G a0 s0]) (lv' := [none, none]) (pc' := 10) (st' := []) (by decide +kernel) rfl rfl trivial ?_
      exact t_X6_milesOn_b10 l G a0 W0 r s0 hf
    · have hf := ziff hf hc
      refine zr_run [(.iload_n 1, 0, 0, 0, .null), (.bipush 12, 0, 0, 0, .int (12 : Int32))] [] (WW' := [w_Pl G a0 s0]) (lv' := [some (.ref (a0 0)), some (.int x1)]) (pc' := 7) (st' := [.int (12 : Int32), .int x1]) (by decide +kernel) rfl rfl ⟨trivial, trivial, trivial⟩ ?_
      refine zr_icmp_lt (off := 7) (tgt := 14) (by decide +kernel) (by decide) (fun hc => ?_) (fun hc => ?_)
      · have hf := zift hf hc
        obtain ⟨h1, hf⟩ := zck_of hf
        refine zr_run [(.aload_n 0, 0, 0, 0, .null), (.getfield 18, 0, 0, 2, .null), (.iload_n 1, 0, 0, 0, .null), (.iaload, 0, 1, 0, .null)] [] (WW' := [w_Pl G a0 s0]) (lv' := [some (.ref (a0 0)), some (.int x1)]) (pc' := 20) (st' := [.int ((Pl_chosen s0) x1.toNatClampNeg)]) (by decide +kernel) rfl rfl ⟨trivial, ⟨rfl, rfl, zw_2_62⟩, trivial, ⟨rfl, rfl, h1⟩, trivial⟩ ?_
        obtain rfl := Option.some.inj hf
        exact zr_iret (b0 := fun _ => 0) (by decide +kernel) rfl rfl rfl rfl rfl
      · have hf := ziff hf hc
        refine zr_run [] [0, 1] (WW' := [w_Pl G a0 s0]) (lv' := [none, none]) (pc' := 10) (st' := []) (by decide +kernel) rfl rfl trivial ?_
        exact t_X6_milesOn_b10 l G a0 W0 r s0 hf
  exact zj_entry [some (.ref (a0 0)), some (.int x1)] (by decide +kernel) rfl (by decide) (Nat.le_of_ble_eq_true rfl) rfl rfl (key _)
def M_X6_weighMilestones : zj_M := (RX6, cX6_weighMilestones, 11, none, { frames := 2, cells := 0, slots := 0, locals := 47 }, false)
theorem nm_X6_weighMilestones : zj_nm yX6_weighMilestones 3 := ⟨by decide +kernel, by decide +kernel, by decide +kernel⟩
def f_X6_weighMilestones_b145  (s0 : PlT) (s1 : LdT) (s2 : FkT)  (x6 : Int32) : Option (PlT) := (if zb_in x6 271 = true then (zlet (Pl_s_survives s0 ((upd (Pl_survives s0) x6.toNatClampNeg (12 : Int32)))) fun y4 => some y4) else none)
def f_X6_weighMilestones_H97  (s0 : PlT) (s1 : LdT) (s2 : FkT) (k22 : PlT → Int32 → Int32 → Int32 → Int32 → Int32 → Option (PlT)) (k97 : PlT → Int32 → Int32 → Int32 → Int32 → Int32 → Int32 → Int32 → Int32 → Option (PlT)) (x3 : Int32) (x4 : Int32) (x5 : Int32) (x6 : Int32) (x7 : Int32) (x8 : Int32) (x9 : Int32) (x10 : Int32) : Option (PlT) := (if x10 < x8 then (if zb_in (x6 + x10) 271 = true then (zlet (Pl_s_survives s0 ((upd (Pl_survives s0) (x6 + x10).toNatClampNeg x9))) fun y12 => k97 y12 x3 x4 x5 x6 x7 x8 x9 (x10 + (1 : Int32))) else none) else ((f_X3_nextTo s1 x5 x4).bind fun q13 => k22 s0 x3 x4 q13 (x6 + x8) (x7 + (1 : Int32))))
def f_X6_weighMilestones_L97  (s1 : LdT) (s2 : FkT) (k22 : PlT → Int32 → Int32 → Int32 → Int32 → Int32 → Option (PlT)) : Nat → PlT → Int32 → Int32 → Int32 → Int32 → Int32 → Int32 → Int32 → Int32 → Option (PlT)
  | 0 => fun _ _ _ _ _ _ _ _ _ => none
  | n + 1 => fun s0 x3 x4 x5 x6 x7 x8 x9 x10 => f_X6_weighMilestones_H97 s0 s1 s2 k22 (f_X6_weighMilestones_L97 s1 s2 k22 n) x3 x4 x5 x6 x7 x8 x9 x10
def f_X6_weighMilestones_H22  (s0 : PlT) (s1 : LdT) (s2 : FkT) (k22 : PlT → Int32 → Int32 → Int32 → Int32 → Int32 → Option (PlT)) (x3 : Int32) (x4 : Int32) (x5 : Int32) (x6 : Int32) (x7 : Int32) : Option (PlT) := (if x7 < (10 : Int32) then (if x5 = x4 then f_X6_weighMilestones_b145 s0 s1 s2 x6 else ((f_X3_roadToward s1 x5 x4).bind fun q5 => (if q5 = (-1 : Int32) then f_X6_weighMilestones_b145 s0 s1 s2 x6 else ((f_X3_roadToward s1 x5 x4).bind fun q6 => ((f_X3_ofRoad s1 q6 (2 : Int32)).bind fun q7 => ((f_X1_dangerFor s2 s1 x3 x5).bind fun q8 => (if zb_in x6 271 = true then (zlet (Pl_s_survives s0 ((upd (Pl_survives s0) x6.toNatClampNeg (12 : Int32)))) fun y10 => f_X6_weighMilestones_L97 s1 s2 k22 zFU y10 x3 x4 x5 x6 x7 (zr_mminF ((270 : Int32) - x6) q7) ((12 : Int32) - q8) (1 : Int32)) else none))))))) else f_X6_weighMilestones_b145 s0 s1 s2 x6)
def f_X6_weighMilestones_L22  (s1 : LdT) (s2 : FkT)  : Nat → PlT → Int32 → Int32 → Int32 → Int32 → Int32 → Option (PlT)
  | 0 => fun _ _ _ _ _ _ => none
  | n + 1 => fun s0 x3 x4 x5 x6 x7 => f_X6_weighMilestones_H22 s0 s1 s2 (f_X6_weighMilestones_L22 s1 s2 n) x3 x4 x5 x6 x7
def f_X6_weighMilestones  (s0 : PlT) (s1 : LdT) (s2 : FkT) (x3 : Int32) : Option (PlT) := ((f_X1_of s2 x3 (3 : Int32)).bind fun q1 => ((f_X1_of s2 x3 (4 : Int32)).bind fun q2 => f_X6_weighMilestones_L22 s1 s2 zFU s0 x3 q1 q2 (0 : Int32) (0 : Int32)))
set_option maxRecDepth 100000 in
set_option maxHeartbeats 4000000 in
theorem t_X6_weighMilestones_b145 (l : Launch) (G : zj_G) (a0 : Nat → Nat) (a1 : Nat → Nat) (a2 : Nat → Nat) (W0 : List va_W) (r : PlT) (s0 : PlT) (s1 : LdT) (s2 : FkT)   (x6 : Int32) (hf : f_X6_weighMilestones_b145 s0 s1 s2 x6 = some r) : zj_J l G M_X6_weighMilestones W0 (zj_ret G M_X6_weighMilestones W0 (none) (fun _ => [w_Pl G a0 r, w_Ld G a1 s1, w_Fk G a2 s2])) 0 0 [w_Pl G a0 s0, w_Ld G a1 s1, w_Fk G a2 s2] [some (.ref (a0 0)), none, none, none, none, none, some (.int x6), none, none, none, none] 145 [] := by
  unfold f_X6_weighMilestones_b145 at hf
  obtain ⟨h3, hf⟩ := zck_of hf
  obtain ⟨y4, e4, hf⟩ := zlet_of hf
  refine zr_run [(.aload_n 0, 0, 0, 0, .null), (.getfield 22, 0, 0, 3, .null), (.iload 6, 0, 0, 0, .null), (.bipush 12, 0, 0, 0, .int (12 : Int32)), (.iastore, 0, 2, 0, .null)] [] (WW' := [w_Pl G a0 (Pl_s_survives s0 ((upd (Pl_survives s0) x6.toNatClampNeg (12 : Int32)))), w_Ld G a1 s1, w_Fk G a2 s2]) (lv' := [some (.ref (a0 0)), none, none, none, none, none, some (.int x6), none, none, none, none]) (pc' := 154) (st' := []) (by decide +kernel) rfl rfl ⟨trivial, ⟨rfl, rfl, zw_2_63⟩, trivial, trivial, ⟨rfl, rfl, h3⟩, trivial⟩ ?_
  refine zr_eq (WW2 := [w_Pl G a0 y4, w_Ld G a1 s1, w_Fk G a2 s2]) (lv2 := [some (.ref (a0 0)), none, none, none, none, none, some (.int x6), none, none, none, none]) (st2 := []) (by rw [e4]) rfl rfl ?_
  obtain rfl := Option.some.inj hf
  exact zr_vret (b0 := fun _ => 0) (by decide +kernel) rfl rfl rfl rfl rfl
set_option maxRecDepth 100000 in
set_option maxHeartbeats 4000000 in
theorem t_X6_weighMilestones_H97 (l : Launch) (G : zj_G) (a0 : Nat → Nat) (a1 : Nat → Nat) (a2 : Nat → Nat) (W0 : List va_W) (r : PlT) (s0 : PlT) (s1 : LdT) (s2 : FkT) (k22 : PlT → Int32 → Int32 → Int32 → Int32 → Int32 → Option (PlT)) (k97 : PlT → Int32 → Int32 → Int32 → Int32 → Int32 → Int32 → Int32 → Int32 → Option (PlT)) (hk22 : ∀ (s0 : PlT) (x3 : Int32) (x4 : Int32) (x5 : Int32) (x6 : Int32) (x7 : Int32), k22 s0 x3 x4 x5 x6 x7 = some r → zj_J l G M_X6_weighMilestones W0 (zj_ret G M_X6_weighMilestones W0 (none) (fun _ => [w_Pl G a0 r, w_Ld G a1 s1, w_Fk G a2 s2])) 0 0 [w_Pl G a0 s0, w_Ld G a1 s1, w_Fk G a2 s2] [some (.ref (a0 0)), some (.ref (a1 0)), some (.ref (a2 0)), some (.int x3), some (.int x4), some (.int x5), some (.int x6), some (.int x7), none, none, none] 22 []) (hk97 : ∀ (s0 : PlT) (x3 : Int32) (x4 : Int32) (x5 : Int32) (x6 : Int32) (x7 : Int32) (x8 : Int32) (x9 : Int32) (x10 : Int32), k97 s0 x3 x4 x5 x6 x7 x8 x9 x10 = some r → zj_J l G M_X6_weighMilestones W0 (zj_ret G M_X6_weighMilestones W0 (none) (fun _ => [w_Pl G a0 r, w_Ld G a1 s1, w_Fk G a2 s2])) 0 0 [w_Pl G a0 s0, w_Ld G a1 s1, w_Fk G a2 s2] [some (.ref (a0 0)), some (.ref (a1 0)), some (.ref (a2 0)), some (.int x3), some (.int x4), some (.int x5), some (.int x6), some (.int x7), some (.int x8), some (.int x9), some (.int x10)] 97 []) (x3 : Int32) (x4 : Int32) (x5 : Int32) (x6 : Int32) (x7 : Int32) (x8 : Int32) (x9 : Int32) (x10 : Int32) (hf : f_X6_weighMilestones_H97 s0 s1 s2 k22 k97 x3 x4 x5 x6 x7 x8 x9 x10 = some r) : zj_J l G M_X6_weighMilestones W0 (zj_ret G M_X6_weighMilestones W0 (none) (fun _ => [w_Pl G a0 r, w_Ld G a1 s1, w_Fk G a2 s2])) 0 0 [w_Pl G a0 s0, w_Ld G a1 s1, w_Fk G a2 s2] [some (.ref (a0 0)), some (.ref (a1 0)), some (.ref (a2 0)), some (.int x3), some (.int x4), some (.int x5), some (.int x6), some (.int x7), some (.int x8), some (.int x9), some (.int x10)] 97 [] := by
  unfold f_X6_weighMilestones_H97 at hf
  refine zr_run [(.iload 10, 0, 0, 0, .null), (.iload 8, 0, 0, 0, .null)] [] (WW' := [w_Pl G a0 s0, w_Ld G a1 s1, w_Fk G a2 s2]) (lv' := [some (.ref (a0 0)), some (.ref (a1 0)), some (.ref (a2 0)), some (.int x3), some (.int x4), some (.int x5), some (.int x6), some (.int x7), some (.int x8), some (.int x9), some (.int x10)]) (pc' := 101) (st' := [.int x8, .int x10]) (by decide +kernel) rfl rfl ⟨trivial, trivial, trivial⟩ ?_
  refine zr_icmp_ge (off := 21) (tgt := 122) (by decide +kernel) (by decide) (fun hc => ?_) (fun hc => ?_)
  · have hf := zift hf hc
    obtain ⟨h11, hf⟩ := zck_of hf
    obtain ⟨y12, e12, hf⟩ := zlet_of hf
    refine zr_run [(.aload_n 0, 0, 0, 0, .null), (.getfield 22, 0, 0, 3, .null), (.iload 6, 0, 0, 0, .null), (.iload 10, 0, 0, 0, .null), (.iadd, 0, 0, 0, .null), (.iload 9, 0, 0, 0, .null), (.iastore, 0, 2, 0, .null)] [] (WW' := [w_Pl G a0 (Pl_s_survives s0 ((upd (Pl_survives s0) (x6 + x10).toNatClampNeg x9))), w_Ld G a1 s1, w_Fk G a2 s2]) (lv' := [some (.ref (a0 0)), some (.ref (a1 0)), some (.ref (a2 0)), some (.int x3), some (.int x4), some (.int x5), some (.int x6), some (.int x7), some (.int x8), some (.int x9), some (.int x10)]) (pc' := 116) (st' := []) (by decide +kernel) rfl rfl ⟨trivial, ⟨rfl, rfl, zw_2_63⟩, trivial, trivial, trivial, trivial, ⟨rfl, rfl, h11⟩, trivial⟩ ?_
    refine zr_eq (WW2 := [w_Pl G a0 y12, w_Ld G a1 s1, w_Fk G a2 s2]) (lv2 := [some (.ref (a0 0)), some (.ref (a1 0)), some (.ref (a2 0)), some (.int x3), some (.int x4), some (.int x5), some (.int x6), some (.int x7), some (.int x8), some (.int x9), some (.int x10)]) (st2 := []) (by rw [e12]) rfl rfl ?_
    refine zr_run [(.iinc 10 1, 0, 0, 0, .int (1 : Int32))] [] (WW' := [w_Pl G a0 y12, w_Ld G a1 s1, w_Fk G a2 s2]) (lv' := [some (.ref (a0 0)), some (.ref (a1 0)), some (.ref (a2 0)), some (.int x3), some (.int x4), some (.int x5), some (.int x6), some (.int x7), some (.int x8), some (.int x9), some (.int (x10 + (1 : Int32)))]) (pc' := 119) (st' := []) (by decide +kernel) rfl rfl ⟨trivial, trivial⟩ ?_
    refine zr_goto (off := -22) (tgt := 97) (by decide +kernel) (by decide) ?_
    exact hk97 y12 x3 x4 x5 x6 x7 x8 x9 (x10 + (1 : Int32)) hf
  · have hf := ziff hf hc
    obtain ⟨q13, e13, hf⟩ := zbi_of hf
    refine zr_run [(.iload 6, 0, 0, 0, .null), (.iload 8, 0, 0, 0, .null), (.iadd, 0, 0, 0, .null), (.istore 6, 0, 0, 0, .null), (.aload_n 1, 0, 0, 0, .null), (.iload 5, 0, 0, 0, .null), (.iload 4, 0, 0, 0, .null)] [] (WW' := [w_Pl G a0 s0, w_Ld G a1 s1, w_Fk G a2 s2]) (lv' := [some (.ref (a0 0)), some (.ref (a1 0)), some (.ref (a2 0)), some (.int x3), some (.int x4), some (.int x5), some (.int (x6 + x8)), some (.int x7), some (.int x8), some (.int x9), some (.int x10)]) (pc' := 134) (st' := [.int x4, .int x5, .ref (a1 0)]) (by decide +kernel) rfl rfl ⟨trivial, trivial, trivial, trivial, trivial, trivial, trivial, trivial⟩ ?_
    refine zr_callV (c_X3_nextTo l G a1 s1 x5 x4 q13 e13) (WW' := fun _ => [w_Pl G a0 s0, w_Ld G a1 s1, w_Fk G a2 s2]) (st := []) (st' := [.int q13]) [1] rfl rfl (fun _ => Nat.le_of_ble_eq_true rfl) (fun _ => rfl) rfl rfl nm_X3_nextTo zw_5_230 zw_4_42 zw_4_43 zw_1_7 zw_4_42n rfl rfl rfl (Nat.le_of_ble_eq_true rfl) ⟨Nat.le_of_ble_eq_true rfl, Nat.le_of_ble_eq_true rfl⟩ (by decide +kernel) (fun _ => ?_)
    refine zr_run [(.istore 5, 0, 0, 0, .null), (.iinc 7 1, 0, 0, 0, .int (1 : Int32))] [] (WW' := [w_Pl G a0 s0, w_Ld G a1 s1, w_Fk G a2 s2]) (lv' := [some (.ref (a0 0)), some (.ref (a1 0)), some (.ref (a2 0)), some (.int x3), some (.int x4), some (.int q13), some (.int (x6 + x8)), some (.int (x7 + (1 : Int32))), some (.int x8), some (.int x9), some (.int x10)]) (pc' := 142) (st' := []) (by decide +kernel) rfl rfl ⟨trivial, trivial, trivial⟩ ?_
    refine zr_run [] [8, 9, 10] (WW' := [w_Pl G a0 s0, w_Ld G a1 s1, w_Fk G a2 s2]) (lv' := [some (.ref (a0 0)), some (.ref (a1 0)), some (.ref (a2 0)), some (.int x3), some (.int x4), some (.int q13), some (.int (x6 + x8)), some (.int (x7 + (1 : Int32))), none, none, none]) (pc' := 142) (st' := []) (by decide +kernel) rfl rfl trivial ?_
    refine zr_goto (off := -120) (tgt := 22) (by decide +kernel) (by decide) ?_
    exact hk22 s0 x3 x4 q13 (x6 + x8) (x7 + (1 : Int32)) hf
theorem t_X6_weighMilestones_L97 (l : Launch) (G : zj_G) (a0 : Nat → Nat) (a1 : Nat → Nat) (a2 : Nat → Nat) (W0 : List va_W) (r : PlT) (s1 : LdT) (s2 : FkT) (k22 : PlT → Int32 → Int32 → Int32 → Int32 → Int32 → Option (PlT)) (hk22 : ∀ (s0 : PlT) (x3 : Int32) (x4 : Int32) (x5 : Int32) (x6 : Int32) (x7 : Int32), k22 s0 x3 x4 x5 x6 x7 = some r → zj_J l G M_X6_weighMilestones W0 (zj_ret G M_X6_weighMilestones W0 (none) (fun _ => [w_Pl G a0 r, w_Ld G a1 s1, w_Fk G a2 s2])) 0 0 [w_Pl G a0 s0, w_Ld G a1 s1, w_Fk G a2 s2] [some (.ref (a0 0)), some (.ref (a1 0)), some (.ref (a2 0)), some (.int x3), some (.int x4), some (.int x5), some (.int x6), some (.int x7), none, none, none] 22 []) : ∀ (n : Nat) (s0 : PlT) (x3 : Int32) (x4 : Int32) (x5 : Int32) (x6 : Int32) (x7 : Int32) (x8 : Int32) (x9 : Int32) (x10 : Int32), f_X6_weighMilestones_L97 s1 s2 k22 n s0 x3 x4 x5 x6 x7 x8 x9 x10 = some r → zj_J l G M_X6_weighMilestones W0 (zj_ret G M_X6_weighMilestones W0 (none) (fun _ => [w_Pl G a0 r, w_Ld G a1 s1, w_Fk G a2 s2])) 0 0 [w_Pl G a0 s0, w_Ld G a1 s1, w_Fk G a2 s2] [some (.ref (a0 0)), some (.ref (a1 0)), some (.ref (a2 0)), some (.int x3), some (.int x4), some (.int x5), some (.int x6), some (.int x7), some (.int x8), some (.int x9), some (.int x10)] 97 [] := by
  intro n
  induction n with
  | zero => intro s0 x3 x4 x5 x6 x7 x8 x9 x10 hf; exact nomatch (show none = some r from hf)
  | succ n ih => intro s0 x3 x4 x5 x6 x7 x8 x9 x10 hf; exact t_X6_weighMilestones_H97 l G a0 a1 a2 W0 r s0 s1 s2 k22 (f_X6_weighMilestones_L97 s1 s2 k22 n) hk22 ih x3 x4 x5 x6 x7 x8 x9 x10  hf
set_option maxRecDepth 100000 in
set_option maxHeartbeats 4000000 in
theorem t_X6_weighMilestones_H22 (l : Launch) (G : zj_G) (a0 : Nat → Nat) (a1 : Nat → Nat) (a2 : Nat → Nat) (W0 : List va_W) (r : PlT) (s0 : PlT) (s1 : LdT) (s2 : FkT) (k22 : PlT → Int32 → Int32 → Int32 → Int32 → Int32 → Option (PlT)) (hk22 : ∀ (s0 : PlT) (x3 : Int32) (x4 : Int32) (x5 : Int32) (x6 : Int32) (x7 : Int32), k22 s0 x3 x4 x5 x6 x7 = some r → zj_J l G M_X6_weighMilestones W0 (zj_ret G M_X6_weighMilestones W0 (none) (fun _ => [w_Pl G a0 r, w_Ld G a1 s1, w_Fk G a2 s2])) 0 0 [w_Pl G a0 s0, w_Ld G a1 s1, w_Fk G a2 s2] [some (.ref (a0 0)), some (.ref (a1 0)), some (.ref (a2 0)), some (.int x3), some (.int x4), some (.int x5), some (.int x6), some (.int x7), none, none, none] 22 []) (x3 : Int32) (x4 : Int32) (x5 : Int32) (x6 : Int32) (x7 : Int32) (hf : f_X6_weighMilestones_H22 s0 s1 s2 k22 x3 x4 x5 x6 x7 = some r) : zj_J l G M_X6_weighMilestones W0 (zj_ret G M_X6_weighMilestones W0 (none) (fun _ => [w_Pl G a0 r, w_Ld G a1 s1, w_Fk G a2 s2])) 0 0 [w_Pl G a0 s0, w_Ld G a1 s1, w_Fk G a2 s2] [some (.ref (a0 0)), some (.ref (a1 0)), some (.ref (a2 0)), some (.int x3), some (.int x4), some (.int x5), some (.int x6), some (.int x7), none, none, none] 22 [] := by
  unfold f_X6_weighMilestones_H22 at hf
  refine zr_run [(.iload 7, 0, 0, 0, .null), (.bipush 10, 0, 0, 0, .int (10 : Int32))] [] (WW' := [w_Pl G a0 s0, w_Ld G a1 s1, w_Fk G a2 s2]) (lv' := [some (.ref (a0 0)), some (.ref (a1 0)), some (.ref (a2 0)), some (.int x3), some (.int x4), some (.int x5), some (.int x6), some (.int x7), none, none, none]) (pc' := 26) (st' := [.int (10 : Int32), .int x7]) (by decide +kernel) rfl rfl ⟨trivial, trivial, trivial⟩ ?_
  refine zr_icmp_ge (off := 119) (tgt := 145) (by decide +kernel) (by decide) (fun hc => ?_) (fun hc => ?_)
  · have hf := zift hf hc
    refine zr_run [(.iload 5, 0, 0, 0, .null), (.iload 4, 0, 0, 0, .null)] [] (WW' := [w_Pl G a0 s0, w_Ld G a1 s1, w_Fk G a2 s2]) (lv' := [some (.ref (a0 0)), some (.ref (a1 0)), some (.ref (a2 0)), some (.int x3), some (.int x4), some (.int x5), some (.int x6), some (.int x7), none, none, none]) (pc' := 33) (st' := [.int x4, .int x5]) (by decide +kernel) rfl rfl ⟨trivial, trivial, trivial⟩ ?_
    refine zr_icmp_eq (off := 112) (tgt := 145) (by decide +kernel) (by decide) (fun hc => ?_) (fun hc => ?_)
    · have hf := zift hf hc
      refine zr_run [] [1, 2, 3, 4, 5, 7] (WW' := [w_Pl G a0 s0, w_Ld G a1 s1, w_Fk G a2 s2]) (lv' := [some (.ref (a0 0)), none, none, none, none, none, some (.int x6), none, none, none, none]) (pc' := 145) (st' := []) (by decide +kernel) rfl rfl trivial ?_
      exact t_X6_weighMilestones_b145 l G a0 a1 a2 W0 r s0 s1 s2 x6 hf
    · have hf := ziff hf hc
      obtain ⟨q5, e5, hf⟩ := zbi_of hf
      refine zr_run [(.aload_n 1, 0, 0, 0, .null), (.iload 5, 0, 0, 0, .null), (.iload 4, 0, 0, 0, .null)] [] (WW' := [w_Pl G a0 s0, w_Ld G a1 s1, w_Fk G a2 s2]) (lv' := [some (.ref (a0 0)), some (.ref (a1 0)), some (.ref (a2 0)), some (.int x3), some (.int x4), some (.int x5), some (.int x6), some (.int x7), none, none, none]) (pc' := 41) (st' := [.int x4, .int x5, .ref (a1 0)]) (by decide +kernel) rfl rfl ⟨trivial, trivial, trivial, trivial⟩ ?_
      refine zr_callV (c_X3_roadToward l G a1 s1 x5 x4 q5 e5) (WW' := fun _ => [w_Pl G a0 s0, w_Ld G a1 s1, w_Fk G a2 s2]) (st := []) (st' := [.int q5]) [1] rfl rfl (fun _ => Nat.le_of_ble_eq_true rfl) (fun _ => rfl) rfl rfl nm_X3_roadToward zw_5_227 zw_4_37 zw_4_38 zw_1_7 zw_4_37n rfl rfl rfl (Nat.le_of_ble_eq_true rfl) ⟨Nat.le_of_ble_eq_true rfl, Nat.le_of_ble_eq_true rfl⟩ (by decide +kernel) (fun _ => ?_)
      refine zr_run [(.iconst (-1), 0, 0, 0, .int (-1 : Int32))] [] (WW' := [w_Pl G a0 s0, w_Ld G a1 s1, w_Fk G a2 s2]) (lv' := [some (.ref (a0 0)), some (.ref (a1 0)), some (.ref (a2 0)), some (.int x3), some (.int x4), some (.int x5), some (.int x6), some (.int x7), none, none, none]) (pc' := 45) (st' := [.int (-1 : Int32), .int q5]) (by decide +kernel) rfl rfl ⟨trivial, trivial⟩ ?_
      refine zr_icmp_eq (off := 100) (tgt := 145) (by decide +kernel) (by decide) (fun hc => ?_) (fun hc => ?_)
      · have hf := zift hf hc
        refine zr_run [] [1, 2, 3, 4, 5, 7] (WW' := [w_Pl G a0 s0, w_Ld G a1 s1, w_Fk G a2 s2]) (lv' := [some (.ref (a0 0)), none, none, none, none, none, some (.int x6), none, none, none, none]) (pc' := 145) (st' := []) (by decide +kernel) rfl rfl trivial ?_
        exact t_X6_weighMilestones_b145 l G a0 a1 a2 W0 r s0 s1 s2 x6 hf
      · have hf := ziff hf hc
        obtain ⟨q6, e6, hf⟩ := zbi_of hf
        refine zr_run [(.sipush 270, 0, 0, 0, .int (270 : Int32)), (.iload 6, 0, 0, 0, .null), (.isub, 0, 0, 0, .null), (.aload_n 1, 0, 0, 0, .null), (.aload_n 1, 0, 0, 0, .null), (.iload 5, 0, 0, 0, .null), (.iload 4, 0, 0, 0, .null)] [] (WW' := [w_Pl G a0 s0, w_Ld G a1 s1, w_Fk G a2 s2]) (lv' := [some (.ref (a0 0)), some (.ref (a1 0)), some (.ref (a2 0)), some (.int x3), some (.int x4), some (.int x5), some (.int x6), some (.int x7), none, none, none]) (pc' := 60) (st' := [.int x4, .int x5, .ref (a1 0), .ref (a1 0), .int ((270 : Int32) - x6)]) (by decide +kernel) rfl rfl ⟨trivial, trivial, trivial, trivial, trivial, trivial, trivial, trivial⟩ ?_
        refine zr_callV (c_X3_roadToward l G a1 s1 x5 x4 q6 e6) (WW' := fun _ => [w_Pl G a0 s0, w_Ld G a1 s1, w_Fk G a2 s2]) (st := [.ref (a1 0), .int ((270 : Int32) - x6)]) (st' := [.int q6, .ref (a1 0), .int ((270 : Int32) - x6)]) [1] rfl rfl (fun _ => Nat.le_of_ble_eq_true rfl) (fun _ => rfl) rfl rfl nm_X3_roadToward zw_5_227 zw_4_37 zw_4_38 zw_1_7 zw_4_37n rfl rfl rfl (Nat.le_of_ble_eq_true rfl) ⟨Nat.le_of_ble_eq_true rfl, Nat.le_of_ble_eq_true rfl⟩ (by decide +kernel) (fun _ => ?_)
        obtain ⟨q7, e7, hf⟩ := zbi_of hf
        refine zr_run [(.iconst 2, 0, 0, 0, .int (2 : Int32))] [] (WW' := [w_Pl G a0 s0, w_Ld G a1 s1, w_Fk G a2 s2]) (lv' := [some (.ref (a0 0)), some (.ref (a1 0)), some (.ref (a2 0)), some (.int x3), some (.int x4), some (.int x5), some (.int x6), some (.int x7), none, none, none]) (pc' := 64) (st' := [.int (2 : Int32), .int q6, .ref (a1 0), .int ((270 : Int32) - x6)]) (by decide +kernel) rfl rfl ⟨trivial, trivial⟩ ?_
        refine zr_callV (c_X3_ofRoad l G a1 s1 q6 (2 : Int32) q7 e7) (WW' := fun _ => [w_Pl G a0 s0, w_Ld G a1 s1, w_Fk G a2 s2]) (st := [.int ((270 : Int32) - x6)]) (st' := [.int q7, .int ((270 : Int32) - x6)]) [1] rfl rfl (fun _ => Nat.le_of_ble_eq_true rfl) (fun _ => rfl) rfl rfl nm_X3_ofRoad zw_5_228 zw_3_80 zw_3_81 zw_1_7 zw_3_80n rfl rfl rfl (Nat.le_of_ble_eq_true rfl) ⟨Nat.le_of_ble_eq_true rfl, Nat.le_of_ble_eq_true rfl⟩ (by decide +kernel) (fun _ => ?_)
        refine zr_mmin zw_5_231 zw_3_236 zw_1_24 zw_3_237 (Nat.le_of_ble_eq_true rfl) (Nat.le_of_ble_eq_true rfl) ⟨Nat.le_of_ble_eq_true rfl, Nat.le_of_ble_eq_true rfl⟩ (by decide +kernel) ?_
        obtain ⟨q8, e8, hf⟩ := zbi_of hf
        refine zr_run [(.istore 8, 0, 0, 0, .null), (.bipush 12, 0, 0, 0, .int (12 : Int32)), (.aload_n 2, 0, 0, 0, .null), (.aload_n 1, 0, 0, 0, .null), (.iload_n 3, 0, 0, 0, .null), (.iload 5, 0, 0, 0, .null)] [] (WW' := [w_Pl G a0 s0, w_Ld G a1 s1, w_Fk G a2 s2]) (lv' := [some (.ref (a0 0)), some (.ref (a1 0)), some (.ref (a2 0)), some (.int x3), some (.int x4), some (.int x5), some (.int x6), some (.int x7), some (.int (zr_mminF ((270 : Int32) - x6) q7)), none, none]) (pc' := 79) (st' := [.int x5, .int x3, .ref (a1 0), .ref (a2 0), .int (12 : Int32)]) (by decide +kernel) rfl rfl ⟨trivial, trivial, trivial, trivial, trivial, trivial, trivial⟩ ?_
        refine zr_callV (c_X1_dangerFor l G a2 a1 s2 s1 x3 x5 q8 e8) (WW' := fun _ => [w_Pl G a0 s0, w_Ld G a1 s1, w_Fk G a2 s2]) (st := [.int (12 : Int32)]) (st' := [.int q8, .int (12 : Int32)]) [2, 1] rfl rfl (fun _ => Nat.le_of_ble_eq_true rfl) (fun _ => rfl) rfl rfl nm_X1_dangerFor zw_5_229 zw_4_50 zw_4_51 zw_1_8 zw_4_52 rfl rfl rfl (Nat.le_of_ble_eq_true rfl) ⟨Nat.le_of_ble_eq_true rfl, Nat.le_of_ble_eq_true rfl⟩ (by decide +kernel) (fun _ => ?_)
        obtain ⟨h9, hf⟩ := zck_of hf
        obtain ⟨y10, e10, hf⟩ := zlet_of hf
        refine zr_run [(.isub, 0, 0, 0, .null), (.istore 9, 0, 0, 0, .null), (.aload_n 0, 0, 0, 0, .null), (.getfield 22, 0, 0, 3, .null), (.iload 6, 0, 0, 0, .null), (.bipush 12, 0, 0, 0, .int (12 : Int32)), (.iastore, 0, 2, 0, .null)] [] (WW' := [w_Pl G a0 (Pl_s_survives s0 ((upd (Pl_survives s0) x6.toNatClampNeg (12 : Int32)))), w_Ld G a1 s1, w_Fk G a2 s2]) (lv' := [some (.ref (a0 0)), some (.ref (a1 0)), some (.ref (a2 0)), some (.int x3), some (.int x4), some (.int x5), some (.int x6), some (.int x7), some (.int (zr_mminF ((270 : Int32) - x6) q7)), some (.int ((12 : Int32) - q8)), none]) (pc' := 94) (st' := []) (by decide +kernel) rfl rfl ⟨trivial, trivial, trivial, ⟨rfl, rfl, zw_2_63⟩, trivial, trivial, ⟨rfl, rfl, h9⟩, trivial⟩ ?_
        refine zr_eq (WW2 := [w_Pl G a0 y10, w_Ld G a1 s1, w_Fk G a2 s2]) (lv2 := [some (.ref (a0 0)), some (.ref (a1 0)), some (.ref (a2 0)), some (.int x3), some (.int x4), some (.int x5), some (.int x6), some (.int x7), some (.int (zr_mminF ((270 : Int32) - x6) q7)), some (.int ((12 : Int32) - q8)), none]) (st2 := []) (by rw [e10]) rfl rfl ?_
        refine zr_run [(.iconst 1, 0, 0, 0, .int (1 : Int32)), (.istore 10, 0, 0, 0, .null)] [] (WW' := [w_Pl G a0 y10, w_Ld G a1 s1, w_Fk G a2 s2]) (lv' := [some (.ref (a0 0)), some (.ref (a1 0)), some (.ref (a2 0)), some (.int x3), some (.int x4), some (.int x5), some (.int x6), some (.int x7), some (.int (zr_mminF ((270 : Int32) - x6) q7)), some (.int ((12 : Int32) - q8)), some (.int (1 : Int32))]) (pc' := 97) (st' := []) (by decide +kernel) rfl rfl ⟨trivial, trivial, trivial⟩ ?_
        exact t_X6_weighMilestones_L97 l G a0 a1 a2 W0 r s1 s2 k22 hk22 zFU y10 x3 x4 x5 x6 x7 (zr_mminF ((270 : Int32) - x6) q7) ((12 : Int32) - q8) (1 : Int32) hf
  · have hf := ziff hf hc
    refine zr_run [] [1, 2, 3, 4, 5, 7] (WW' := [w_Pl G a0 s0, w_Ld G a1 s1, w_Fk G a2 s2]) (lv' := [some (.ref (a0 0)), none, none, none, none, none, some (.int x6), none, none, none, none]) (pc' := 145) (st' := []) (by decide +kernel) rfl rfl trivial ?_
    exact t_X6_weighMilestones_b145 l G a0 a1 a2 W0 r s0 s1 s2 x6 hf
theorem t_X6_weighMilestones_L22 (l : Launch) (G : zj_G) (a0 : Nat → Nat) (a1 : Nat → Nat) (a2 : Nat → Nat) (W0 : List va_W) (r : PlT) (s1 : LdT) (s2 : FkT)   : ∀ (n : Nat) (s0 : PlT) (x3 : Int32) (x4 : Int32) (x5 : Int32) (x6 : Int32) (x7 : Int32), f_X6_weighMilestones_L22 s1 s2 n s0 x3 x4 x5 x6 x7 = some r → zj_J l G M_X6_weighMilestones W0 (zj_ret G M_X6_weighMilestones W0 (none) (fun _ => [w_Pl G a0 r, w_Ld G a1 s1, w_Fk G a2 s2])) 0 0 [w_Pl G a0 s0, w_Ld G a1 s1, w_Fk G a2 s2] [some (.ref (a0 0)), some (.ref (a1 0)), some (.ref (a2 0)), some (.int x3), some (.int x4), some (.int x5), some (.int x6), some (.int x7), none, none, none] 22 [] := by
  intro n
  induction n with
  | zero => intro s0 x3 x4 x5 x6 x7 hf; exact nomatch (show none = some r from hf)
  | succ n ih => intro s0 x3 x4 x5 x6 x7 hf; exact t_X6_weighMilestones_H22 l G a0 a1 a2 W0 r s0 s1 s2  (f_X6_weighMilestones_L22 s1 s2 n)  ih x3 x4 x5 x6 x7  hf
set_option maxRecDepth 100000 in
set_option maxHeartbeats 4000000 in
theorem c_X6_weighMilestones (l : Launch) (G : zj_G) (a0 : Nat → Nat) (a1 : Nat → Nat) (a2 : Nat → Nat) (s0 : PlT) (s1 : LdT) (s2 : FkT) (x3 : Int32) (r : PlT) (hf : f_X6_weighMilestones s0 s1 s2 x3 = some r) : zj_C l G M_X6_weighMilestones yX6_weighMilestones [w_Pl G a0 s0, w_Ld G a1 s1, w_Fk G a2 s2] [.ref (a0 0), .ref (a1 0), .ref (a2 0), .int x3] (none) (fun _ => [w_Pl G a0 r, w_Ld G a1 s1, w_Fk G a2 s2]) := by
  have key : ∀ W0 : List va_W, zj_J l G M_X6_weighMilestones W0 (zj_ret G M_X6_weighMilestones W0 (none) (fun _ => [w_Pl G a0 r, w_Ld G a1 s1, w_Fk G a2 s2])) 0 0 [w_Pl G a0 s0, w_Ld G a1 s1, w_Fk G a2 s2] [some (.ref (a0 0)), some (.ref (a1 0)), some (.ref (a2 0)), some (.int x3), none, none, none, none, none, none, none] 0 [] := by
    intro W0
    unfold f_X6_weighMilestones at hf
    obtain ⟨q1, e1, hf⟩ := zbi_of hf
    refine zr_run [(.aload_n 2, 0, 0, 0, .null), (.iload_n 3, 0, 0, 0, .null), (.iconst 3, 0, 0, 0, .int (3 : Int32))] [] (WW' := [w_Pl G a0 s0, w_Ld G a1 s1, w_Fk G a2 s2]) (lv' := [some (.ref (a0 0)), some (.ref (a1 0)), some (.ref (a2 0)), some (.int x3), none, none, none, none, none, none, none]) (pc' := 3) (st' := [.int (3 : Int32), .int x3, .ref (a2 0)]) (by decide +kernel) rfl rfl ⟨trivial, trivial, trivial, trivial⟩ ?_
    refine zr_callV (c_X1_of l G a2 s2 x3 (3 : Int32) q1 e1) (WW' := fun _ => [w_Pl G a0 s0, w_Ld G a1 s1, w_Fk G a2 s2]) (st := []) (st' := [.int q1]) [2] rfl rfl (fun _ => Nat.le_of_ble_eq_true rfl) (fun _ => rfl) rfl rfl nm_X1_of zw_5_220 zw_3_142 zw_3_143 zw_1_8 zw_3_142n rfl rfl rfl (Nat.le_of_ble_eq_true rfl) ⟨Nat.le_of_ble_eq_true rfl, Nat.le_of_ble_eq_true rfl⟩ (by decide +kernel) (fun _ => ?_)
    obtain ⟨q2, e2, hf⟩ := zbi_of hf
    refine zr_run [(.istore 4, 0, 0, 0, .null), (.aload_n 2, 0, 0, 0, .null), (.iload_n 3, 0, 0, 0, .null), (.iconst 4, 0, 0, 0, .int (4 : Int32))] [] (WW' := [w_Pl G a0 s0, w_Ld G a1 s1, w_Fk G a2 s2]) (lv' := [some (.ref (a0 0)), some (.ref (a1 0)), some (.ref (a2 0)), some (.int x3), some (.int q1), none, none, none, none, none, none]) (pc' := 11) (st' := [.int (4 : Int32), .int x3, .ref (a2 0)]) (by decide +kernel) rfl rfl ⟨trivial, trivial, trivial, trivial, trivial⟩ ?_
    refine zr_callV (c_X1_of l G a2 s2 x3 (4 : Int32) q2 e2) (WW' := fun _ => [w_Pl G a0 s0, w_Ld G a1 s1, w_Fk G a2 s2]) (st := []) (st' := [.int q2]) [2] rfl rfl (fun _ => Nat.le_of_ble_eq_true rfl) (fun _ => rfl) rfl rfl nm_X1_of zw_5_220 zw_3_142 zw_3_143 zw_1_8 zw_3_142n rfl rfl rfl (Nat.le_of_ble_eq_true rfl) ⟨Nat.le_of_ble_eq_true rfl, Nat.le_of_ble_eq_true rfl⟩ (by decide +kernel) (fun _ => ?_)
    refine zr_run [(.istore 5, 0, 0, 0, .null), (.iconst 0, 0, 0, 0, .int (0 : Int32)), (.istore 6, 0, 0, 0, .null), (.iconst 0, 0, 0, 0, .int (0 : Int32)), (.istore 7, 0, 0, 0, .null)] [] (WW' := [w_Pl G a0 s0, w_Ld G a1 s1, w_Fk G a2 s2]) (lv' := [some (.ref (a0 0)), some (.ref (a1 0)), some (.ref (a2 0)), some (.int x3), some (.int q1), some (.int q2), some (.int (0 : Int32)), some (.int (0 : Int32)), none, none, none]) (pc' := 22) (st' := []) (by decide +kernel) rfl rfl ⟨trivial, trivial, trivial, trivial, trivial, trivial⟩ ?_
    exact t_X6_weighMilestones_L22 l G a0 a1 a2 W0 r s1 s2 zFU s0 x3 q1 q2 (0 : Int32) (0 : Int32) hf
  exact zj_entry [some (.ref (a0 0)), some (.ref (a1 0)), some (.ref (a2 0)), some (.int x3), none, none, none, none, none, none, none] (by decide +kernel) rfl (by decide) (Nat.le_of_ble_eq_true rfl) rfl rfl (key _)
def M_X6_index : zj_M := (RX6, cX6_index, 2, (some .int), { frames := 0, cells := 0, slots := 0, locals := 0 }, false)
theorem nm_X6_index : zj_nm yX6_index 2 := ⟨by decide +kernel, by decide +kernel, by decide +kernel⟩
def f_X6_index   (x0 : Int32) (x1 : Int32) : Option (Int32) := some ((x0 * (271 : Int32)) + x1)
set_option maxRecDepth 100000 in
set_option maxHeartbeats 4000000 in
theorem c_X6_index (l : Launch) (G : zj_G)   (x0 : Int32) (x1 : Int32) (r : Int32) (hf : f_X6_index x0 x1 = some r) : zj_C l G M_X6_index yX6_index [] [.int x0, .int x1] (some (.int r)) (fun _ => []) := by
  have key : ∀ W0 : List va_W, zj_J l G M_X6_index W0 (zj_ret G M_X6_index W0 (some (.int r)) (fun _ => [])) 0 0 [] [some (.int x0), some (.int x1)] 0 [] := by
    intro W0
    unfold f_X6_index at hf
    refine zr_run [(.iload_n 0, 0, 0, 0, .null), (.sipush 271, 0, 0, 0, .int (271 : Int32)), (.imul, 0, 0, 0, .null), (.iload_n 1, 0, 0, 0, .null), (.iadd, 0, 0, 0, .null)] [] (WW' := []) (lv' := [some (.int x0), some (.int x1)]) (pc' := 7) (st' := [.int ((x0 * (271 : Int32)) + x1)]) (by decide +kernel) rfl rfl ⟨trivial, trivial, trivial, trivial, trivial, trivial⟩ ?_
    obtain rfl := Option.some.inj hf
    exact zr_iret (b0 := fun _ => 0) (by decide +kernel) rfl rfl rfl rfl rfl
  exact zj_entry [some (.int x0), some (.int x1)] (by decide +kernel) rfl (by decide) (Nat.le_of_ble_eq_true rfl) rfl rfl (key _)
def M_X6_worth : zj_M := (RX6, cX6_worth, 4, (some .long), { frames := 1, cells := 0, slots := 0, locals := 21 }, false)
theorem nm_X6_worth : zj_nm yX6_worth 3 := ⟨by decide +kernel, by decide +kernel, by decide +kernel⟩
def f_X6_worth  (s0 : PlT) (x1 : Int32) (x2 : Int32) (x3 : Int32) : Option (Int64) := (if zb_in (x2 + x3) 271 = true then ((f_X6_index (x1 - (1 : Int32)) (x2 + x3)).bind fun q2 => (if zb_in q2 3523 = true then some (((Pl_survives s0) (x2 + x3).toNatClampNeg).toInt64 * ((Pl_cases s0) q2.toNatClampNeg)) else none)) else none)
set_option maxRecDepth 100000 in
set_option maxHeartbeats 4000000 in
theorem c_X6_worth (l : Launch) (G : zj_G) (a0 : Nat → Nat) (s0 : PlT) (x1 : Int32) (x2 : Int32) (x3 : Int32) (r : Int64) (hf : f_X6_worth s0 x1 x2 x3 = some r) : zj_C l G M_X6_worth yX6_worth [w_Pl G a0 s0] [.ref (a0 0), .int x1, .int x2, .int x3] (some (.long r)) (fun _ => [w_Pl G a0 s0]) := by
  have key : ∀ W0 : List va_W, zj_J l G M_X6_worth W0 (zj_ret G M_X6_worth W0 (some (.long r)) (fun _ => [w_Pl G a0 s0])) 0 0 [w_Pl G a0 s0] [some (.ref (a0 0)), some (.int x1), some (.int x2), some (.int x3)] 0 [] := by
    intro W0
    unfold f_X6_worth at hf
    obtain ⟨h1, hf⟩ := zck_of hf
    obtain ⟨q2, e2, hf⟩ := zbi_of hf
    refine zr_run [(.aload_n 0, 0, 0, 0, .null), (.getfield 22, 0, 0, 3, .null), (.iload_n 2, 0, 0, 0, .null), (.iload_n 3, 0, 0, 0, .null), (.iadd, 0, 0, 0, .null), (.iaload, 0, 2, 0, .null), (.i2l, 0, 0, 0, .null), (.aload_n 0, 0, 0, 0, .null), (.getfield 25, 0, 0, 4, .null), (.iload_n 1, 0, 0, 0, .null), (.iconst 1, 0, 0, 0, .int (1 : Int32)), (.isub, 0, 0, 0, .null), (.iload_n 2, 0, 0, 0, .null), (.iload_n 3, 0, 0, 0, .null), (.iadd, 0, 0, 0, .null)] [] (WW' := [w_Pl G a0 s0]) (lv' := [some (.ref (a0 0)), some (.int x1), some (.int x2), some (.int x3)]) (pc' := 19) (st' := [.int (x2 + x3), .int (x1 - (1 : Int32)), .ref (a0 3), .long (((Pl_survives s0) (x2 + x3).toNatClampNeg).toInt64)]) (by decide +kernel) rfl rfl ⟨trivial, ⟨rfl, rfl, zw_2_63⟩, trivial, trivial, trivial, ⟨rfl, rfl, h1⟩, trivial, trivial, ⟨rfl, rfl, zw_2_64⟩, trivial, trivial, trivial, trivial, trivial, trivial, trivial⟩ ?_
    refine zr_callS (c_X6_index l G (x1 - (1 : Int32)) (x2 + x3) q2 e2) (WW' := fun _ => [w_Pl G a0 s0]) (st := [.ref (a0 3), .long (((Pl_survives s0) (x2 + x3).toNatClampNeg).toInt64)]) (st' := [.int q2, .ref (a0 3), .long (((Pl_survives s0) (x2 + x3).toNatClampNeg).toInt64)]) [] rfl rfl (fun _ => Nat.le_of_ble_eq_true rfl) (fun _ => rfl) rfl rfl nm_X6_index zw_6_0 zw_6_1 zw_1_12 zw_6_2 rfl (Nat.le_of_ble_eq_true rfl) ⟨Nat.le_of_ble_eq_true rfl, Nat.le_of_ble_eq_true rfl⟩ (by decide +kernel) (fun _ => ?_)
    obtain ⟨h3, hf⟩ := zck_of hf
    refine zr_run [(.laload, 0, 3, 0, .null), (.lmul, 0, 0, 0, .null)] [] (WW' := [w_Pl G a0 s0]) (lv' := [some (.ref (a0 0)), some (.int x1), some (.int x2), some (.int x3)]) (pc' := 24) (st' := [.long (((Pl_survives s0) (x2 + x3).toNatClampNeg).toInt64 * ((Pl_cases s0) q2.toNatClampNeg))]) (by decide +kernel) rfl rfl ⟨⟨rfl, rfl, h3⟩, trivial, trivial⟩ ?_
    obtain rfl := Option.some.inj hf
    exact zr_lret (b0 := fun _ => 0) (by decide +kernel) rfl rfl rfl rfl rfl
  exact zj_entry [some (.ref (a0 0)), some (.int x1), some (.int x2), some (.int x3)] (by decide +kernel) rfl (by decide) (Nat.le_of_ble_eq_true rfl) rfl rfl (key _)
def M_X6_weighDay : zj_M := (RX6, cX6_weighDay, 10, none, { frames := 2, cells := 0, slots := 0, locals := 44 }, false)
theorem nm_X6_weighDay : zj_nm yX6_weighDay 5 := ⟨by decide +kernel, by decide +kernel, by decide +kernel⟩
def f_X6_weighDay_b58  (s0 : PlT) (k3 : PlT → Int32 → Int32 → Int32 → Int32 → Int32 → Option (PlT)) (x1 : Int32) (x3 : Int32) (x4 : Int32) (x5 : Int32) (x6 : Int32) (x7 : Int64) : Option (PlT) := ((f_X6_index x1 x6).bind fun q1 => (if zb_in q1 3523 = true then (zlet (Pl_s_cases s0 ((vp_updL (Pl_cases s0) q1.toNatClampNeg x7))) fun y3 => k3 y3 x1 x3 x4 x5 (x6 + (1 : Int32))) else none))
def f_X6_weighDay_H15  (s0 : PlT) (k3 : PlT → Int32 → Int32 → Int32 → Int32 → Int32 → Option (PlT)) (k15 : PlT → Int32 → Int32 → Int32 → Int32 → Int32 → Int64 → Int32 → Option (PlT)) (x1 : Int32) (x3 : Int32) (x4 : Int32) (x5 : Int32) (x6 : Int32) (x7 : Int64) (x9 : Int32) : Option (PlT) := (if x5 < x9 then f_X6_weighDay_b58 s0 k3 x1 x3 x4 x5 x6 x7 else (if x4 < (x6 + x9) then f_X6_weighDay_b58 s0 k3 x1 x3 x4 x5 x6 x7 else (if 0 < x1 then ((f_X6_worth s0 x1 x6 x9).bind fun q4 => k15 s0 x1 x3 x4 x5 x6 (zr_mmaxlF x7 q4) (x9 + (1 : Int32))) else f_X6_weighDay_b58 s0 k3 x1 x3 x4 x5 x6 x7)))
def f_X6_weighDay_L15   (k3 : PlT → Int32 → Int32 → Int32 → Int32 → Int32 → Option (PlT)) : Nat → PlT → Int32 → Int32 → Int32 → Int32 → Int32 → Int64 → Int32 → Option (PlT)
  | 0 => fun _ _ _ _ _ _ _ _ => none
  | n + 1 => fun s0 x1 x3 x4 x5 x6 x7 x9 => f_X6_weighDay_H15 s0 k3 (f_X6_weighDay_L15 k3 n) x1 x3 x4 x5 x6 x7 x9
def f_X6_weighDay_H3  (s0 : PlT) (k3 : PlT → Int32 → Int32 → Int32 → Int32 → Int32 → Option (PlT)) (x1 : Int32) (x3 : Int32) (x4 : Int32) (x5 : Int32) (x6 : Int32) : Option (PlT) := (if x3 < x6 then some s0 else f_X6_weighDay_L15 k3 zFU s0 x1 x3 x4 x5 x6 (0 : Int64) (1 : Int32))
def f_X6_weighDay_L3    : Nat → PlT → Int32 → Int32 → Int32 → Int32 → Int32 → Option (PlT)
  | 0 => fun _ _ _ _ _ _ => none
  | n + 1 => fun s0 x1 x3 x4 x5 x6 => f_X6_weighDay_H3 s0 (f_X6_weighDay_L3  n) x1 x3 x4 x5 x6
def f_X6_weighDay  (s0 : PlT) (x1 : Int32) (x2 : Int32) (x3 : Int32) (x4 : Int32) (x5 : Int32) : Option (PlT) := f_X6_weighDay_L3 zFU s0 x1 x3 x4 x5 x2
set_option maxRecDepth 100000 in
set_option maxHeartbeats 4000000 in
theorem t_X6_weighDay_b58 (l : Launch) (G : zj_G) (a0 : Nat → Nat) (W0 : List va_W) (r : PlT) (s0 : PlT) (k3 : PlT → Int32 → Int32 → Int32 → Int32 → Int32 → Option (PlT)) (hk3 : ∀ (s0 : PlT) (x1 : Int32) (x3 : Int32) (x4 : Int32) (x5 : Int32) (x6 : Int32), k3 s0 x1 x3 x4 x5 x6 = some r → zj_J l G M_X6_weighDay W0 (zj_ret G M_X6_weighDay W0 (none) (fun _ => [w_Pl G a0 r])) 0 0 [w_Pl G a0 s0] [some (.ref (a0 0)), some (.int x1), none, some (.int x3), some (.int x4), some (.int x5), some (.int x6), none, none, none] 3 []) (x1 : Int32) (x3 : Int32) (x4 : Int32) (x5 : Int32) (x6 : Int32) (x7 : Int64) (hf : f_X6_weighDay_b58 s0 k3 x1 x3 x4 x5 x6 x7 = some r) : zj_J l G M_X6_weighDay W0 (zj_ret G M_X6_weighDay W0 (none) (fun _ => [w_Pl G a0 r])) 0 0 [w_Pl G a0 s0] [some (.ref (a0 0)), some (.int x1), none, some (.int x3), some (.int x4), some (.int x5), some (.int x6), some (.long x7), none, none] 58 [] := by
  unfold f_X6_weighDay_b58 at hf
  obtain ⟨q1, e1, hf⟩ := zbi_of hf
  refine zr_run [(.aload_n 0, 0, 0, 0, .null), (.getfield 25, 0, 0, 4, .null), (.iload_n 1, 0, 0, 0, .null), (.iload 6, 0, 0, 0, .null)] [] (WW' := [w_Pl G a0 s0]) (lv' := [some (.ref (a0 0)), some (.int x1), none, some (.int x3), some (.int x4), some (.int x5), some (.int x6), some (.long x7), none, none]) (pc' := 65) (st' := [.int x6, .int x1, .ref (a0 3)]) (by decide +kernel) rfl rfl ⟨trivial, ⟨rfl, rfl, zw_2_64⟩, trivial, trivial, trivial⟩ ?_
  refine zr_callS (c_X6_index l G x1 x6 q1 e1) (WW' := fun _ => [w_Pl G a0 s0]) (st := [.ref (a0 3)]) (st' := [.int q1, .ref (a0 3)]) [] rfl rfl (fun _ => Nat.le_of_ble_eq_true rfl) (fun _ => rfl) rfl rfl nm_X6_index zw_6_0 zw_6_1 zw_1_12 zw_6_2 rfl (Nat.le_of_ble_eq_true rfl) ⟨Nat.le_of_ble_eq_true rfl, Nat.le_of_ble_eq_true rfl⟩ (by decide +kernel) (fun _ => ?_)
  obtain ⟨h2, hf⟩ := zck_of hf
  obtain ⟨y3, e3, hf⟩ := zlet_of hf
  refine zr_run [(.lload 7, 0, 0, 0, .null), (.lastore, 0, 3, 0, .null)] [] (WW' := [w_Pl G a0 (Pl_s_cases s0 ((vp_updL (Pl_cases s0) q1.toNatClampNeg x7)))]) (lv' := [some (.ref (a0 0)), some (.int x1), none, some (.int x3), some (.int x4), some (.int x5), some (.int x6), some (.long x7), none, none]) (pc' := 71) (st' := []) (by decide +kernel) rfl rfl ⟨trivial, ⟨rfl, rfl, h2⟩, trivial⟩ ?_
  refine zr_eq (WW2 := [w_Pl G a0 y3]) (lv2 := [some (.ref (a0 0)), some (.int x1), none, some (.int x3), some (.int x4), some (.int x5), some (.int x6), some (.long x7), none, none]) (st2 := []) (by rw [e3]) rfl rfl ?_
  refine zr_run [(.iinc 6 1, 0, 0, 0, .int (1 : Int32))] [] (WW' := [w_Pl G a0 y3]) (lv' := [some (.ref (a0 0)), some (.int x1), none, some (.int x3), some (.int x4), some (.int x5), some (.int (x6 + (1 : Int32))), some (.long x7), none, none]) (pc' := 74) (st' := []) (by decide +kernel) rfl rfl ⟨trivial, trivial⟩ ?_
  refine zr_run [] [7] (WW' := [w_Pl G a0 y3]) (lv' := [some (.ref (a0 0)), some (.int x1), none, some (.int x3), some (.int x4), some (.int x5), some (.int (x6 + (1 : Int32))), none, none, none]) (pc' := 74) (st' := []) (by decide +kernel) rfl rfl trivial ?_
  refine zr_goto (off := -71) (tgt := 3) (by decide +kernel) (by decide) ?_
  exact hk3 y3 x1 x3 x4 x5 (x6 + (1 : Int32)) hf
set_option maxRecDepth 100000 in
set_option maxHeartbeats 4000000 in
theorem t_X6_weighDay_H15 (l : Launch) (G : zj_G) (a0 : Nat → Nat) (W0 : List va_W) (r : PlT) (s0 : PlT) (k3 : PlT → Int32 → Int32 → Int32 → Int32 → Int32 → Option (PlT)) (k15 : PlT → Int32 → Int32 → Int32 → Int32 → Int32 → Int64 → Int32 → Option (PlT)) (hk3 : ∀ (s0 : PlT) (x1 : Int32) (x3 : Int32) (x4 : Int32) (x5 : Int32) (x6 : Int32), k3 s0 x1 x3 x4 x5 x6 = some r → zj_J l G M_X6_weighDay W0 (zj_ret G M_X6_weighDay W0 (none) (fun _ => [w_Pl G a0 r])) 0 0 [w_Pl G a0 s0] [some (.ref (a0 0)), some (.int x1), none, some (.int x3), some (.int x4), some (.int x5), some (.int x6), none, none, none] 3 []) (hk15 : ∀ (s0 : PlT) (x1 : Int32) (x3 : Int32) (x4 : Int32) (x5 : Int32) (x6 : Int32) (x7 : Int64) (x9 : Int32), k15 s0 x1 x3 x4 x5 x6 x7 x9 = some r → zj_J l G M_X6_weighDay W0 (zj_ret G M_X6_weighDay W0 (none) (fun _ => [w_Pl G a0 r])) 0 0 [w_Pl G a0 s0] [some (.ref (a0 0)), some (.int x1), none, some (.int x3), some (.int x4), some (.int x5), some (.int x6), some (.long x7), none, some (.int x9)] 15 []) (x1 : Int32) (x3 : Int32) (x4 : Int32) (x5 : Int32) (x6 : Int32) (x7 : Int64) (x9 : Int32) (hf : f_X6_weighDay_H15 s0 k3 k15 x1 x3 x4 x5 x6 x7 x9 = some r) : zj_J l G M_X6_weighDay W0 (zj_ret G M_X6_weighDay W0 (none) (fun _ => [w_Pl G a0 r])) 0 0 [w_Pl G a0 s0] [some (.ref (a0 0)), some (.int x1), none, some (.int x3), some (.int x4), some (.int x5), some (.int x6), some (.long x7), none, some (.int x9)] 15 [] := by
  unfold f_X6_weighDay_H15 at hf
  refine zr_run [(.iload 9, 0, 0, 0, .null), (.iload 5, 0, 0, 0, .null)] [] (WW' := [w_Pl G a0 s0]) (lv' := [some (.ref (a0 0)), some (.int x1), none, some (.int x3), some (.int x4), some (.int x5), some (.int x6), some (.long x7), none, some (.int x9)]) (pc' := 19) (st' := [.int x5, .int x9]) (by decide +kernel) rfl rfl ⟨trivial, trivial, trivial⟩ ?_
  refine zr_icmp_gt (off := 39) (tgt := 58) (by decide +kernel) (by decide) (fun hc => ?_) (fun hc => ?_)
  · have hf := zift hf hc
    refine zr_run [] [9] (WW' := [w_Pl G a0 s0]) (lv' := [some (.ref (a0 0)), some (.int x1), none, some (.int x3), some (.int x4), some (.int x5), some (.int x6), some (.long x7), none, none]) (pc' := 58) (st' := []) (by decide +kernel) rfl rfl trivial ?_
    exact t_X6_weighDay_b58 l G a0 W0 r s0 k3 hk3 x1 x3 x4 x5 x6 x7 hf
  · have hf := ziff hf hc
    refine zr_run [(.iload 6, 0, 0, 0, .null), (.iload 9, 0, 0, 0, .null), (.iadd, 0, 0, 0, .null), (.iload 4, 0, 0, 0, .null)] [] (WW' := [w_Pl G a0 s0]) (lv' := [some (.ref (a0 0)), some (.int x1), none, some (.int x3), some (.int x4), some (.int x5), some (.int x6), some (.long x7), none, some (.int x9)]) (pc' := 29) (st' := [.int x4, .int (x6 + x9)]) (by decide +kernel) rfl rfl ⟨trivial, trivial, trivial, trivial, trivial⟩ ?_
    refine zr_icmp_gt (off := 29) (tgt := 58) (by decide +kernel) (by decide) (fun hc => ?_) (fun hc => ?_)
    · have hf := zift hf hc
      refine zr_run [] [9] (WW' := [w_Pl G a0 s0]) (lv' := [some (.ref (a0 0)), some (.int x1), none, some (.int x3), some (.int x4), some (.int x5), some (.int x6), some (.long x7), none, none]) (pc' := 58) (st' := []) (by decide +kernel) rfl rfl trivial ?_
      exact t_X6_weighDay_b58 l G a0 W0 r s0 k3 hk3 x1 x3 x4 x5 x6 x7 hf
    · have hf := ziff hf hc
      refine zr_run [(.iload_n 1, 0, 0, 0, .null)] [] (WW' := [w_Pl G a0 s0]) (lv' := [some (.ref (a0 0)), some (.int x1), none, some (.int x3), some (.int x4), some (.int x5), some (.int x6), some (.long x7), none, some (.int x9)]) (pc' := 33) (st' := [.int x1]) (by decide +kernel) rfl rfl ⟨trivial, trivial⟩ ?_
      refine zr_if_le (off := 25) (tgt := 58) (by decide +kernel) (by decide) (fun hc => ?_) (fun hc => ?_)
      · have hf := zift hf hc
        obtain ⟨q4, e4, hf⟩ := zbi_of hf
        refine zr_run [(.lload 7, 0, 0, 0, .null), (.aload_n 0, 0, 0, 0, .null), (.iload_n 1, 0, 0, 0, .null), (.iload 6, 0, 0, 0, .null), (.iload 9, 0, 0, 0, .null)] [] (WW' := [w_Pl G a0 s0]) (lv' := [some (.ref (a0 0)), some (.int x1), none, some (.int x3), some (.int x4), some (.int x5), some (.int x6), some (.long x7), none, some (.int x9)]) (pc' := 44) (st' := [.int x9, .int x6, .int x1, .ref (a0 0), .long x7]) (by decide +kernel) rfl rfl ⟨trivial, trivial, trivial, trivial, trivial, trivial⟩ ?_
        refine zr_callV (c_X6_worth l G a0 s0 x1 x6 x9 q4 e4) (WW' := fun _ => [w_Pl G a0 s0]) (st := [.long x7]) (st' := [.long q4, .long x7]) [0] rfl rfl (fun _ => Nat.le_of_ble_eq_true rfl) (fun _ => rfl) rfl rfl nm_X6_worth zw_5_236 zw_5_238 zw_0_45 zw_1_12 zw_5_239 rfl rfl rfl (Nat.le_of_ble_eq_true rfl) ⟨Nat.le_of_ble_eq_true rfl, Nat.le_of_ble_eq_true rfl⟩ (by decide +kernel) (fun _ => ?_)
        refine zr_mmaxl zw_6_3 zw_6_4 zw_1_24 zw_6_5 (Nat.le_of_ble_eq_true rfl) (Nat.le_of_ble_eq_true rfl) ⟨Nat.le_of_ble_eq_true rfl, Nat.le_of_ble_eq_true rfl⟩ (by decide +kernel) ?_
        refine zr_run [(.lstore 7, 0, 0, 0, .null), (.iinc 9 1, 0, 0, 0, .int (1 : Int32))] [] (WW' := [w_Pl G a0 s0]) (lv' := [some (.ref (a0 0)), some (.int x1), none, some (.int x3), some (.int x4), some (.int x5), some (.int x6), some (.long (zr_mmaxlF x7 q4)), none, some (.int (x9 + (1 : Int32)))]) (pc' := 55) (st' := []) (by decide +kernel) rfl rfl ⟨trivial, trivial, trivial⟩ ?_
        refine zr_goto (off := -40) (tgt := 15) (by decide +kernel) (by decide) ?_
        exact hk15 s0 x1 x3 x4 x5 x6 (zr_mmaxlF x7 q4) (x9 + (1 : Int32)) hf
      · have hf := ziff hf hc
        refine zr_run [] [9] (WW' := [w_Pl G a0 s0]) (lv' := [some (.ref (a0 0)), some (.int x1), none, some (.int x3), some (.int x4), some (.int x5), some (.int x6), some (.long x7), none, none]) (pc' := 58) (st' := []) (by decide +kernel) rfl rfl trivial ?_
        exact t_X6_weighDay_b58 l G a0 W0 r s0 k3 hk3 x1 x3 x4 x5 x6 x7 hf
theorem t_X6_weighDay_L15 (l : Launch) (G : zj_G) (a0 : Nat → Nat) (W0 : List va_W) (r : PlT)  (k3 : PlT → Int32 → Int32 → Int32 → Int32 → Int32 → Option (PlT)) (hk3 : ∀ (s0 : PlT) (x1 : Int32) (x3 : Int32) (x4 : Int32) (x5 : Int32) (x6 : Int32), k3 s0 x1 x3 x4 x5 x6 = some r → zj_J l G M_X6_weighDay W0 (zj_ret G M_X6_weighDay W0 (none) (fun _ => [w_Pl G a0 r])) 0 0 [w_Pl G a0 s0] [some (.ref (a0 0)), some (.int x1), none, some (.int x3), some (.int x4), some (.int x5), some (.int x6), none, none, none] 3 []) : ∀ (n : Nat) (s0 : PlT) (x1 : Int32) (x3 : Int32) (x4 : Int32) (x5 : Int32) (x6 : Int32) (x7 : Int64) (x9 : Int32), f_X6_weighDay_L15 k3 n s0 x1 x3 x4 x5 x6 x7 x9 = some r → zj_J l G M_X6_weighDay W0 (zj_ret G M_X6_weighDay W0 (none) (fun _ => [w_Pl G a0 r])) 0 0 [w_Pl G a0 s0] [some (.ref (a0 0)), some (.int x1), none, some (.int x3), some (.int x4), some (.int x5), some (.int x6), some (.long x7), none, some (.int x9)] 15 [] := by
  intro n
  induction n with
  | zero => intro s0 x1 x3 x4 x5 x6 x7 x9 hf; exact nomatch (show none = some r from hf)
  | succ n ih => intro s0 x1 x3 x4 x5 x6 x7 x9 hf; exact t_X6_weighDay_H15 l G a0 W0 r s0 k3 (f_X6_weighDay_L15 k3 n) hk3 ih x1 x3 x4 x5 x6 x7 x9  hf
set_option maxRecDepth 100000 in
set_option maxHeartbeats 4000000 in
theorem t_X6_weighDay_H3 (l : Launch) (G : zj_G) (a0 : Nat → Nat) (W0 : List va_W) (r : PlT) (s0 : PlT) (k3 : PlT → Int32 → Int32 → Int32 → Int32 → Int32 → Option (PlT)) (hk3 : ∀ (s0 : PlT) (x1 : Int32) (x3 : Int32) (x4 : Int32) (x5 : Int32) (x6 : Int32), k3 s0 x1 x3 x4 x5 x6 = some r → zj_J l G M_X6_weighDay W0 (zj_ret G M_X6_weighDay W0 (none) (fun _ => [w_Pl G a0 r])) 0 0 [w_Pl G a0 s0] [some (.ref (a0 0)), some (.int x1), none, some (.int x3), some (.int x4), some (.int x5), some (.int x6), none, none, none] 3 []) (x1 : Int32) (x3 : Int32) (x4 : Int32) (x5 : Int32) (x6 : Int32) (hf : f_X6_weighDay_H3 s0 k3 x1 x3 x4 x5 x6 = some r) : zj_J l G M_X6_weighDay W0 (zj_ret G M_X6_weighDay W0 (none) (fun _ => [w_Pl G a0 r])) 0 0 [w_Pl G a0 s0] [some (.ref (a0 0)), some (.int x1), none, some (.int x3), some (.int x4), some (.int x5), some (.int x6), none, none, none] 3 [] := by
  unfold f_X6_weighDay_H3 at hf
  refine zr_run [(.iload 6, 0, 0, 0, .null), (.iload_n 3, 0, 0, 0, .null)] [] (WW' := [w_Pl G a0 s0]) (lv' := [some (.ref (a0 0)), some (.int x1), none, some (.int x3), some (.int x4), some (.int x5), some (.int x6), none, none, none]) (pc' := 6) (st' := [.int x3, .int x6]) (by decide +kernel) rfl rfl ⟨trivial, trivial, trivial⟩ ?_
  refine zr_icmp_gt (off := 71) (tgt := 77) (by decide +kernel) (by decide) (fun hc => ?_) (fun hc => ?_)
  · have hf := zift hf hc
    obtain rfl := Option.some.inj hf
    exact zr_vret (b0 := fun _ => 0) (by decide +kernel) rfl rfl rfl rfl rfl
  · have hf := ziff hf hc
    refine zr_run [(.lconst 0, 0, 0, 0, .long (0 : Int64)), (.lstore 7, 0, 0, 0, .null), (.iconst 1, 0, 0, 0, .int (1 : Int32)), (.istore 9, 0, 0, 0, .null)] [] (WW' := [w_Pl G a0 s0]) (lv' := [some (.ref (a0 0)), some (.int x1), none, some (.int x3), some (.int x4), some (.int x5), some (.int x6), some (.long (0 : Int64)), none, some (.int (1 : Int32))]) (pc' := 15) (st' := []) (by decide +kernel) rfl rfl ⟨trivial, trivial, trivial, trivial, trivial⟩ ?_
    exact t_X6_weighDay_L15 l G a0 W0 r k3 hk3 zFU s0 x1 x3 x4 x5 x6 (0 : Int64) (1 : Int32) hf
theorem t_X6_weighDay_L3 (l : Launch) (G : zj_G) (a0 : Nat → Nat) (W0 : List va_W) (r : PlT)    : ∀ (n : Nat) (s0 : PlT) (x1 : Int32) (x3 : Int32) (x4 : Int32) (x5 : Int32) (x6 : Int32), f_X6_weighDay_L3 n s0 x1 x3 x4 x5 x6 = some r → zj_J l G M_X6_weighDay W0 (zj_ret G M_X6_weighDay W0 (none) (fun _ => [w_Pl G a0 r])) 0 0 [w_Pl G a0 s0] [some (.ref (a0 0)), some (.int x1), none, some (.int x3), some (.int x4), some (.int x5), some (.int x6), none, none, none] 3 [] := by
  intro n
  induction n with
  | zero => intro s0 x1 x3 x4 x5 x6 hf; exact nomatch (show none = some r from hf)
  | succ n ih => intro s0 x1 x3 x4 x5 x6 hf; exact t_X6_weighDay_H3 l G a0 W0 r s0  (f_X6_weighDay_L3 n)  ih x1 x3 x4 x5 x6  hf
set_option maxRecDepth 100000 in
set_option maxHeartbeats 4000000 in
theorem c_X6_weighDay (l : Launch) (G : zj_G) (a0 : Nat → Nat) (s0 : PlT) (x1 : Int32) (x2 : Int32) (x3 : Int32) (x4 : Int32) (x5 : Int32) (r : PlT) (hf : f_X6_weighDay s0 x1 x2 x3 x4 x5 = some r) : zj_C l G M_X6_weighDay yX6_weighDay [w_Pl G a0 s0] [.ref (a0 0), .int x1, .int x2, .int x3, .int x4, .int x5] (none) (fun _ => [w_Pl G a0 r]) := by
  have key : ∀ W0 : List va_W, zj_J l G M_X6_weighDay W0 (zj_ret G M_X6_weighDay W0 (none) (fun _ => [w_Pl G a0 r])) 0 0 [w_Pl G a0 s0] [some (.ref (a0 0)), some (.int x1), some (.int x2), some (.int x3), some (.int x4), some (.int x5), none, none, none, none] 0 [] := by
    intro W0
    unfold f_X6_weighDay at hf
    refine zr_run [(.iload_n 2, 0, 0, 0, .null), (.istore 6, 0, 0, 0, .null)] [2] (WW' := [w_Pl G a0 s0]) (lv' := [some (.ref (a0 0)), some (.int x1), none, some (.int x3), some (.int x4), some (.int x5), some (.int x2), none, none, none]) (pc' := 3) (st' := []) (by decide +kernel) rfl rfl ⟨trivial, trivial, trivial⟩ ?_
    exact t_X6_weighDay_L3 l G a0 W0 r zFU s0 x1 x3 x4 x5 x2 hf
  exact zj_entry [some (.ref (a0 0)), some (.int x1), some (.int x2), some (.int x3), some (.int x4), some (.int x5), none, none, none, none] (by decide +kernel) rfl (by decide) (Nat.le_of_ble_eq_true rfl) rfl rfl (key _)
def M_X6_choose : zj_M := (RX6, cX6_choose, 11, none, { frames := 2, cells := 0, slots := 0, locals := 44 }, false)
theorem nm_X6_choose : zj_nm yX6_choose 5 := ⟨by decide +kernel, by decide +kernel, by decide +kernel⟩
def f_X6_choose_b138  (s0 : PlT) (k48 : PlT → Int32 → Int32 → Int32 → Int32 → Int32 → Int32 → Int32 → Option (PlT)) (x1 : Int32) (x3 : Int32) (x4 : Int32) (x6 : Int32) (x7 : Int32) (x8 : Int32) (x9 : Int32) : Option (PlT) := (if zb_in x9 12 = true then (zlet (Pl_s_chosen s0 ((upd (Pl_chosen s0) x9.toNatClampNeg x7))) fun y8 => k48 y8 x1 x3 x4 (x6 + x7) x7 x8 (x9 + (1 : Int32))) else none)
def f_X6_choose_H85  (s0 : PlT) (k48 : PlT → Int32 → Int32 → Int32 → Int32 → Int32 → Int32 → Int32 → Option (PlT)) (k85 : PlT → Int32 → Int32 → Int32 → Int32 → Int32 → Int32 → Int32 → Int32 → Option (PlT)) (x1 : Int32) (x3 : Int32) (x4 : Int32) (x6 : Int32) (x7 : Int32) (x8 : Int32) (x9 : Int32) (x10 : Int32) : Option (PlT) := (if x8 = 0 then (if x7 < x4 then (if (x6 + x7) < x3 then ((f_X6_worth s0 x10 x6 x7).bind fun q4 => ((f_X6_index x10 x6).bind fun q5 => (if zb_in q5 3523 = true then (if (lg_cmp q4 ((Pl_cases s0) q5.toNatClampNeg)) = 0 then f_X6_choose_b138 s0 k48 x1 x3 x4 x6 x7 x8 x9 else k85 s0 x1 x3 x4 x6 (x7 + (1 : Int32)) x8 x9 x10) else none))) else f_X6_choose_b138 s0 k48 x1 x3 x4 x6 x7 x8 x9) else f_X6_choose_b138 s0 k48 x1 x3 x4 x6 x7 x8 x9) else f_X6_choose_b138 s0 k48 x1 x3 x4 x6 x7 x8 x9)
def f_X6_choose_L85   (k48 : PlT → Int32 → Int32 → Int32 → Int32 → Int32 → Int32 → Int32 → Option (PlT)) : Nat → PlT → Int32 → Int32 → Int32 → Int32 → Int32 → Int32 → Int32 → Int32 → Option (PlT)
  | 0 => fun _ _ _ _ _ _ _ _ _ => none
  | n + 1 => fun s0 x1 x3 x4 x6 x7 x8 x9 x10 => f_X6_choose_H85 s0 k48 (f_X6_choose_L85 k48 n) x1 x3 x4 x6 x7 x8 x9 x10
def f_X6_choose_b83  (s0 : PlT) (k48 : PlT → Int32 → Int32 → Int32 → Int32 → Int32 → Int32 → Int32 → Option (PlT)) (x1 : Int32) (x3 : Int32) (x4 : Int32) (x6 : Int32) (x8 : Int32) (x9 : Int32) (x10 : Int32) (z0 : Int32) : Option (PlT) := f_X6_choose_L85 k48 zFU s0 x1 x3 x4 x6 z0 x8 x9 x10
def f_X6_choose_H48  (s0 : PlT) (k48 : PlT → Int32 → Int32 → Int32 → Int32 → Int32 → Int32 → Int32 → Option (PlT)) (x1 : Int32) (x3 : Int32) (x4 : Int32) (x6 : Int32) (x7 : Int32) (x8 : Int32) (x9 : Int32) : Option (PlT) := (if x9 < x1 then (if x9 < (12 : Int32) then (if x6 < x3 then (if x7 = 0 then f_X6_choose_b83 s0 k48 x1 x3 x4 x6 x8 x9 (x1 - x9) (1 : Int32) else f_X6_choose_b83 s0 k48 x1 x3 x4 x6 x8 x9 (x1 - x9) (0 : Int32)) else some s0) else some s0) else some s0)
def f_X6_choose_L48    : Nat → PlT → Int32 → Int32 → Int32 → Int32 → Int32 → Int32 → Int32 → Option (PlT)
  | 0 => fun _ _ _ _ _ _ _ _ => none
  | n + 1 => fun s0 x1 x3 x4 x6 x7 x8 x9 => f_X6_choose_H48 s0 (f_X6_choose_L48  n) x1 x3 x4 x6 x7 x8 x9
def f_X6_choose_b43  (s0 : PlT)  (x1 : Int32) (x3 : Int32) (x4 : Int32) (x6 : Int32) (x7 : Int32) (z0 : Int32) : Option (PlT) := f_X6_choose_L48 zFU s0 x1 x3 x4 x6 x7 z0 (0 : Int32)
def f_X6_choose_b21  (s0 : PlT)  (x1 : Int32) (x2 : Int32) (x3 : Int32) (x4 : Int32) (x6 : Int32) (z0 : Int32) : Option (PlT) := ((f_X6_index x1 x2).bind fun q2 => (if zb_in q2 3523 = true then (if (lg_cmp ((Pl_cases s0) q2.toNatClampNeg) (0 : Int64)) = 0 then f_X6_choose_b43 s0 x1 x3 x4 x6 z0 (1 : Int32) else f_X6_choose_b43 s0 x1 x3 x4 x6 z0 (0 : Int32)) else none))
def f_X6_choose  (s0 : PlT) (x1 : Int32) (x2 : Int32) (x3 : Int32) (x4 : Int32) (x5 : Int32) : Option (PlT) := (zlet (Pl_s_chosen s0 ((zr_fill 12 (Pl_chosen s0) (-1 : Int32)))) fun y1 => (if x5 = 0 then f_X6_choose_b21 y1 x1 x2 x3 x4 x2 (1 : Int32) else f_X6_choose_b21 y1 x1 x2 x3 x4 x2 (0 : Int32)))
set_option maxRecDepth 100000 in
set_option maxHeartbeats 4000000 in
theorem t_X6_choose_b138 (l : Launch) (G : zj_G) (a0 : Nat → Nat) (W0 : List va_W) (r : PlT) (s0 : PlT) (k48 : PlT → Int32 → Int32 → Int32 → Int32 → Int32 → Int32 → Int32 → Option (PlT)) (hk48 : ∀ (s0 : PlT) (x1 : Int32) (x3 : Int32) (x4 : Int32) (x6 : Int32) (x7 : Int32) (x8 : Int32) (x9 : Int32), k48 s0 x1 x3 x4 x6 x7 x8 x9 = some r → zj_J l G M_X6_choose W0 (zj_ret G M_X6_choose W0 (none) (fun _ => [w_Pl G a0 r])) 0 0 [w_Pl G a0 s0] [some (.ref (a0 0)), some (.int x1), none, some (.int x3), some (.int x4), none, some (.int x6), some (.int x7), some (.int x8), some (.int x9), none] 48 []) (x1 : Int32) (x3 : Int32) (x4 : Int32) (x6 : Int32) (x7 : Int32) (x8 : Int32) (x9 : Int32) (hf : f_X6_choose_b138 s0 k48 x1 x3 x4 x6 x7 x8 x9 = some r) : zj_J l G M_X6_choose W0 (zj_ret G M_X6_choose W0 (none) (fun _ => [w_Pl G a0 r])) 0 0 [w_Pl G a0 s0] [some (.ref (a0 0)), some (.int x1), none, some (.int x3), some (.int x4), none, some (.int x6), some (.int x7), some (.int x8), some (.int x9), none] 138 [] := by
  unfold f_X6_choose_b138 at hf
  obtain ⟨h7, hf⟩ := zck_of hf
  obtain ⟨y8, e8, hf⟩ := zlet_of hf
  refine zr_run [(.aload_n 0, 0, 0, 0, .null), (.getfield 18, 0, 0, 2, .null), (.iload 9, 0, 0, 0, .null), (.iload 7, 0, 0, 0, .null), (.iastore, 0, 1, 0, .null)] [] (WW' := [w_Pl G a0 (Pl_s_chosen s0 ((upd (Pl_chosen s0) x9.toNatClampNeg x7)))]) (lv' := [some (.ref (a0 0)), some (.int x1), none, some (.int x3), some (.int x4), none, some (.int x6), some (.int x7), some (.int x8), some (.int x9), none]) (pc' := 147) (st' := []) (by decide +kernel) rfl rfl ⟨trivial, ⟨rfl, rfl, zw_2_62⟩, trivial, trivial, ⟨rfl, rfl, h7⟩, trivial⟩ ?_
  refine zr_eq (WW2 := [w_Pl G a0 y8]) (lv2 := [some (.ref (a0 0)), some (.int x1), none, some (.int x3), some (.int x4), none, some (.int x6), some (.int x7), some (.int x8), some (.int x9), none]) (st2 := []) (by rw [e8]) rfl rfl ?_
  refine zr_run [(.iload 6, 0, 0, 0, .null), (.iload 7, 0, 0, 0, .null), (.iadd, 0, 0, 0, .null), (.istore 6, 0, 0, 0, .null), (.iinc 9 1, 0, 0, 0, .int (1 : Int32))] [] (WW' := [w_Pl G a0 y8]) (lv' := [some (.ref (a0 0)), some (.int x1), none, some (.int x3), some (.int x4), none, some (.int (x6 + x7)), some (.int x7), some (.int x8), some (.int (x9 + (1 : Int32))), none]) (pc' := 157) (st' := []) (by decide +kernel) rfl rfl ⟨trivial, trivial, trivial, trivial, trivial, trivial⟩ ?_
  refine zr_goto (off := -109) (tgt := 48) (by decide +kernel) (by decide) ?_
  exact hk48 y8 x1 x3 x4 (x6 + x7) x7 x8 (x9 + (1 : Int32)) hf
set_option maxRecDepth 100000 in
set_option maxHeartbeats 4000000 in
theorem t_X6_choose_H85 (l : Launch) (G : zj_G) (a0 : Nat → Nat) (W0 : List va_W) (r : PlT) (s0 : PlT) (k48 : PlT → Int32 → Int32 → Int32 → Int32 → Int32 → Int32 → Int32 → Option (PlT)) (k85 : PlT → Int32 → Int32 → Int32 → Int32 → Int32 → Int32 → Int32 → Int32 → Option (PlT)) (hk48 : ∀ (s0 : PlT) (x1 : Int32) (x3 : Int32) (x4 : Int32) (x6 : Int32) (x7 : Int32) (x8 : Int32) (x9 : Int32), k48 s0 x1 x3 x4 x6 x7 x8 x9 = some r → zj_J l G M_X6_choose W0 (zj_ret G M_X6_choose W0 (none) (fun _ => [w_Pl G a0 r])) 0 0 [w_Pl G a0 s0] [some (.ref (a0 0)), some (.int x1), none, some (.int x3), some (.int x4), none, some (.int x6), some (.int x7), some (.int x8), some (.int x9), none] 48 []) (hk85 : ∀ (s0 : PlT) (x1 : Int32) (x3 : Int32) (x4 : Int32) (x6 : Int32) (x7 : Int32) (x8 : Int32) (x9 : Int32) (x10 : Int32), k85 s0 x1 x3 x4 x6 x7 x8 x9 x10 = some r → zj_J l G M_X6_choose W0 (zj_ret G M_X6_choose W0 (none) (fun _ => [w_Pl G a0 r])) 0 0 [w_Pl G a0 s0] [some (.ref (a0 0)), some (.int x1), none, some (.int x3), some (.int x4), none, some (.int x6), some (.int x7), some (.int x8), some (.int x9), some (.int x10)] 85 []) (x1 : Int32) (x3 : Int32) (x4 : Int32) (x6 : Int32) (x7 : Int32) (x8 : Int32) (x9 : Int32) (x10 : Int32) (hf : f_X6_choose_H85 s0 k48 k85 x1 x3 x4 x6 x7 x8 x9 x10 = some r) : zj_J l G M_X6_choose W0 (zj_ret G M_X6_choose W0 (none) (fun _ => [w_Pl G a0 r])) 0 0 [w_Pl G a0 s0] [some (.ref (a0 0)), some (.int x1), none, some (.int x3), some (.int x4), none, some (.int x6), some (.int x7), some (.int x8), some (.int x9), some (.int x10)] 85 [] := by
  unfold f_X6_choose_H85 at hf
  refine zr_run [(.iload 8, 0, 0, 0, .null)] [] (WW' := [w_Pl G a0 s0]) (lv' := [some (.ref (a0 0)), some (.int x1), none, some (.int x3), some (.int x4), none, some (.int x6), some (.int x7), some (.int x8), some (.int x9), some (.int x10)]) (pc' := 87) (st' := [.int x8]) (by decide +kernel) rfl rfl ⟨trivial, trivial⟩ ?_
  refine zr_if_ne (off := 51) (tgt := 138) (by decide +kernel) (by decide) (fun hc => ?_) (fun hc => ?_)
  · have hf := zift hf hc
    refine zr_run [(.iload 7, 0, 0, 0, .null), (.iload 4, 0, 0, 0, .null)] [] (WW' := [w_Pl G a0 s0]) (lv' := [some (.ref (a0 0)), some (.int x1), none, some (.int x3), some (.int x4), none, some (.int x6), some (.int x7), some (.int x8), some (.int x9), some (.int x10)]) (pc' := 94) (st' := [.int x4, .int x7]) (by decide +kernel) rfl rfl ⟨trivial, trivial, trivial⟩ ?_
    refine zr_icmp_ge (off := 44) (tgt := 138) (by decide +kernel) (by decide) (fun hc => ?_) (fun hc => ?_)
    · have hf := zift hf hc
      refine zr_run [(.iload 6, 0, 0, 0, .null), (.iload 7, 0, 0, 0, .null), (.iadd, 0, 0, 0, .null), (.iload_n 3, 0, 0, 0, .null)] [] (WW' := [w_Pl G a0 s0]) (lv' := [some (.ref (a0 0)), some (.int x1), none, some (.int x3), some (.int x4), none, some (.int x6), some (.int x7), some (.int x8), some (.int x9), some (.int x10)]) (pc' := 103) (st' := [.int x3, .int (x6 + x7)]) (by decide +kernel) rfl rfl ⟨trivial, trivial, trivial, trivial, trivial⟩ ?_
      refine zr_icmp_ge (off := 35) (tgt := 138) (by decide +kernel) (by decide) (fun hc => ?_) (fun hc => ?_)
      · have hf := zift hf hc
        obtain ⟨q4, e4, hf⟩ := zbi_of hf
        refine zr_run [(.aload_n 0, 0, 0, 0, .null), (.iload 10, 0, 0, 0, .null), (.iload 6, 0, 0, 0, .null), (.iload 7, 0, 0, 0, .null)] [] (WW' := [w_Pl G a0 s0]) (lv' := [some (.ref (a0 0)), some (.int x1), none, some (.int x3), some (.int x4), none, some (.int x6), some (.int x7), some (.int x8), some (.int x9), some (.int x10)]) (pc' := 113) (st' := [.int x7, .int x6, .int x10, .ref (a0 0)]) (by decide +kernel) rfl rfl ⟨trivial, trivial, trivial, trivial, trivial⟩ ?_
        refine zr_callV (c_X6_worth l G a0 s0 x10 x6 x7 q4 e4) (WW' := fun _ => [w_Pl G a0 s0]) (st := []) (st' := [.long q4]) [0] rfl rfl (fun _ => Nat.le_of_ble_eq_true rfl) (fun _ => rfl) rfl rfl nm_X6_worth zw_5_236 zw_5_238 zw_0_45 zw_1_12 zw_5_239 rfl rfl rfl (Nat.le_of_ble_eq_true rfl) ⟨Nat.le_of_ble_eq_true rfl, Nat.le_of_ble_eq_true rfl⟩ (by decide +kernel) (fun _ => ?_)
        obtain ⟨q5, e5, hf⟩ := zbi_of hf
        refine zr_run [(.aload_n 0, 0, 0, 0, .null), (.getfield 25, 0, 0, 4, .null), (.iload 10, 0, 0, 0, .null), (.iload 6, 0, 0, 0, .null)] [] (WW' := [w_Pl G a0 s0]) (lv' := [some (.ref (a0 0)), some (.int x1), none, some (.int x3), some (.int x4), none, some (.int x6), some (.int x7), some (.int x8), some (.int x9), some (.int x10)]) (pc' := 124) (st' := [.int x6, .int x10, .ref (a0 3), .long q4]) (by decide +kernel) rfl rfl ⟨trivial, ⟨rfl, rfl, zw_2_64⟩, trivial, trivial, trivial⟩ ?_
        refine zr_callS (c_X6_index l G x10 x6 q5 e5) (WW' := fun _ => [w_Pl G a0 s0]) (st := [.ref (a0 3), .long q4]) (st' := [.int q5, .ref (a0 3), .long q4]) [] rfl rfl (fun _ => Nat.le_of_ble_eq_true rfl) (fun _ => rfl) rfl rfl nm_X6_index zw_6_0 zw_6_1 zw_1_12 zw_6_2 rfl (Nat.le_of_ble_eq_true rfl) ⟨Nat.le_of_ble_eq_true rfl, Nat.le_of_ble_eq_true rfl⟩ (by decide +kernel) (fun _ => ?_)
        obtain ⟨h6, hf⟩ := zck_of hf
        refine zr_run [(.laload, 0, 3, 0, .null), (.lcmp, 0, 0, 0, .null)] [] (WW' := [w_Pl G a0 s0]) (lv' := [some (.ref (a0 0)), some (.int x1), none, some (.int x3), some (.int x4), none, some (.int x6), some (.int x7), some (.int x8), some (.int x9), some (.int x10)]) (pc' := 129) (st' := [.int (lg_cmp q4 ((Pl_cases s0) q5.toNatClampNeg))]) (by decide +kernel) rfl rfl ⟨⟨rfl, rfl, h6⟩, trivial, trivial⟩ ?_
        refine zr_if_eq (off := 9) (tgt := 138) (by decide +kernel) (by decide) (fun hc => ?_) (fun hc => ?_)
        · have hf := zift hf hc
          refine zr_run [] [10] (WW' := [w_Pl G a0 s0]) (lv' := [some (.ref (a0 0)), some (.int x1), none, some (.int x3), some (.int x4), none, some (.int x6), some (.int x7), some (.int x8), some (.int x9), none]) (pc' := 138) (st' := []) (by decide +kernel) rfl rfl trivial ?_
          exact t_X6_choose_b138 l G a0 W0 r s0 k48 hk48 x1 x3 x4 x6 x7 x8 x9 hf
        · have hf := ziff hf hc
          refine zr_run [(.iinc 7 1, 0, 0, 0, .int (1 : Int32))] [] (WW' := [w_Pl G a0 s0]) (lv' := [some (.ref (a0 0)), some (.int x1), none, some (.int x3), some (.int x4), none, some (.int x6), some (.int (x7 + (1 : Int32))), some (.int x8), some (.int x9), some (.int x10)]) (pc' := 135) (st' := []) (by decide +kernel) rfl rfl ⟨trivial, trivial⟩ ?_
          refine zr_goto (off := -50) (tgt := 85) (by decide +kernel) (by decide) ?_
          exact hk85 s0 x1 x3 x4 x6 (x7 + (1 : Int32)) x8 x9 x10 hf
      · have hf := ziff hf hc
        refine zr_run [] [10] (WW' := [w_Pl G a0 s0]) (lv' := [some (.ref (a0 0)), some (.int x1), none, some (.int x3), some (.int x4), none, some (.int x6), some (.int x7), some (.int x8), some (.int x9), none]) (pc' := 138) (st' := []) (by decide +kernel) rfl rfl trivial ?_
        exact t_X6_choose_b138 l G a0 W0 r s0 k48 hk48 x1 x3 x4 x6 x7 x8 x9 hf
    · have hf := ziff hf hc
      refine zr_run [] [10] (WW' := [w_Pl G a0 s0]) (lv' := [some (.ref (a0 0)), some (.int x1), none, some (.int x3), some (.int x4), none, some (.int x6), some (.int x7), some (.int x8), some (.int x9), none]) (pc' := 138) (st' := []) (by decide +kernel) rfl rfl trivial ?_
      exact t_X6_choose_b138 l G a0 W0 r s0 k48 hk48 x1 x3 x4 x6 x7 x8 x9 hf
  · have hf := ziff hf hc
    refine zr_run [] [10] (WW' := [w_Pl G a0 s0]) (lv' := [some (.ref (a0 0)), some (.int x1), none, some (.int x3), some (.int x4), none, some (.int x6), some (.int x7), some (.int x8), some (.int x9), none]) (pc' := 138) (st' := []) (by decide +kernel) rfl rfl trivial ?_
    exact t_X6_choose_b138 l G a0 W0 r s0 k48 hk48 x1 x3 x4 x6 x7 x8 x9 hf
theorem t_X6_choose_L85 (l : Launch) (G : zj_G) (a0 : Nat → Nat) (W0 : List va_W) (r : PlT)  (k48 : PlT → Int32 → Int32 → Int32 → Int32 → Int32 → Int32 → Int32 → Option (PlT)) (hk48 : ∀ (s0 : PlT) (x1 : Int32) (x3 : Int32) (x4 : Int32) (x6 : Int32) (x7 : Int32) (x8 : Int32) (x9 : Int32), k48 s0 x1 x3 x4 x6 x7 x8 x9 = some r → zj_J l G M_X6_choose W0 (zj_ret G M_X6_choose W0 (none) (fun _ => [w_Pl G a0 r])) 0 0 [w_Pl G a0 s0] [some (.ref (a0 0)), some (.int x1), none, some (.int x3), some (.int x4), none, some (.int x6), some (.int x7), some (.int x8), some (.int x9), none] 48 []) : ∀ (n : Nat) (s0 : PlT) (x1 : Int32) (x3 : Int32) (x4 : Int32) (x6 : Int32) (x7 : Int32) (x8 : Int32) (x9 : Int32) (x10 : Int32), f_X6_choose_L85 k48 n s0 x1 x3 x4 x6 x7 x8 x9 x10 = some r → zj_J l G M_X6_choose W0 (zj_ret G M_X6_choose W0 (none) (fun _ => [w_Pl G a0 r])) 0 0 [w_Pl G a0 s0] [some (.ref (a0 0)), some (.int x1), none, some (.int x3), some (.int x4), none, some (.int x6), some (.int x7), some (.int x8), some (.int x9), some (.int x10)] 85 [] := by
  intro n
  induction n with
  | zero => intro s0 x1 x3 x4 x6 x7 x8 x9 x10 hf; exact nomatch (show none = some r from hf)
  | succ n ih => intro s0 x1 x3 x4 x6 x7 x8 x9 x10 hf; exact t_X6_choose_H85 l G a0 W0 r s0 k48 (f_X6_choose_L85 k48 n) hk48 ih x1 x3 x4 x6 x7 x8 x9 x10  hf
set_option maxRecDepth 100000 in
set_option maxHeartbeats 4000000 in
theorem t_X6_choose_b83 (l : Launch) (G : zj_G) (a0 : Nat → Nat) (W0 : List va_W) (r : PlT) (s0 : PlT) (k48 : PlT → Int32 → Int32 → Int32 → Int32 → Int32 → Int32 → Int32 → Option (PlT)) (hk48 : ∀ (s0 : PlT) (x1 : Int32) (x3 : Int32) (x4 : Int32) (x6 : Int32) (x7 : Int32) (x8 : Int32) (x9 : Int32), k48 s0 x1 x3 x4 x6 x7 x8 x9 = some r → zj_J l G M_X6_choose W0 (zj_ret G M_X6_choose W0 (none) (fun _ => [w_Pl G a0 r])) 0 0 [w_Pl G a0 s0] [some (.ref (a0 0)), some (.int x1), none, some (.int x3), some (.int x4), none, some (.int x6), some (.int x7), some (.int x8), some (.int x9), none] 48 []) (x1 : Int32) (x3 : Int32) (x4 : Int32) (x6 : Int32) (x8 : Int32) (x9 : Int32) (x10 : Int32) (z0 : Int32) (hf : f_X6_choose_b83 s0 k48 x1 x3 x4 x6 x8 x9 x10 z0 = some r) : zj_J l G M_X6_choose W0 (zj_ret G M_X6_choose W0 (none) (fun _ => [w_Pl G a0 r])) 0 0 [w_Pl G a0 s0] [some (.ref (a0 0)), some (.int x1), none, some (.int x3), some (.int x4), none, some (.int x6), none, some (.int x8), some (.int x9), some (.int x10)] 83 [.int z0] := by
  unfold f_X6_choose_b83 at hf
  refine zr_run [(.istore 7, 0, 0, 0, .null)] [] (WW' := [w_Pl G a0 s0]) (lv' := [some (.ref (a0 0)), some (.int x1), none, some (.int x3), some (.int x4), none, some (.int x6), some (.int z0), some (.int x8), some (.int x9), some (.int x10)]) (pc' := 85) (st' := []) (by decide +kernel) rfl rfl ⟨trivial, trivial⟩ ?_
  exact t_X6_choose_L85 l G a0 W0 r k48 hk48 zFU s0 x1 x3 x4 x6 z0 x8 x9 x10 hf
set_option maxRecDepth 100000 in
set_option maxHeartbeats 4000000 in
theorem t_X6_choose_H48 (l : Launch) (G : zj_G) (a0 : Nat → Nat) (W0 : List va_W) (r : PlT) (s0 : PlT) (k48 : PlT → Int32 → Int32 → Int32 → Int32 → Int32 → Int32 → Int32 → Option (PlT)) (hk48 : ∀ (s0 : PlT) (x1 : Int32) (x3 : Int32) (x4 : Int32) (x6 : Int32) (x7 : Int32) (x8 : Int32) (x9 : Int32), k48 s0 x1 x3 x4 x6 x7 x8 x9 = some r → zj_J l G M_X6_choose W0 (zj_ret G M_X6_choose W0 (none) (fun _ => [w_Pl G a0 r])) 0 0 [w_Pl G a0 s0] [some (.ref (a0 0)), some (.int x1), none, some (.int x3), some (.int x4), none, some (.int x6), some (.int x7), some (.int x8), some (.int x9), none] 48 []) (x1 : Int32) (x3 : Int32) (x4 : Int32) (x6 : Int32) (x7 : Int32) (x8 : Int32) (x9 : Int32) (hf : f_X6_choose_H48 s0 k48 x1 x3 x4 x6 x7 x8 x9 = some r) : zj_J l G M_X6_choose W0 (zj_ret G M_X6_choose W0 (none) (fun _ => [w_Pl G a0 r])) 0 0 [w_Pl G a0 s0] [some (.ref (a0 0)), some (.int x1), none, some (.int x3), some (.int x4), none, some (.int x6), some (.int x7), some (.int x8), some (.int x9), none] 48 [] := by
  unfold f_X6_choose_H48 at hf
  refine zr_run [(.iload 9, 0, 0, 0, .null), (.iload_n 1, 0, 0, 0, .null)] [] (WW' := [w_Pl G a0 s0]) (lv' := [some (.ref (a0 0)), some (.int x1), none, some (.int x3), some (.int x4), none, some (.int x6), some (.int x7), some (.int x8), some (.int x9), none]) (pc' := 51) (st' := [.int x1, .int x9]) (by decide +kernel) rfl rfl ⟨trivial, trivial, trivial⟩ ?_
  refine zr_icmp_ge (off := 109) (tgt := 160) (by decide +kernel) (by decide) (fun hc => ?_) (fun hc => ?_)
  · have hf := zift hf hc
    refine zr_run [(.iload 9, 0, 0, 0, .null), (.bipush 12, 0, 0, 0, .int (12 : Int32))] [] (WW' := [w_Pl G a0 s0]) (lv' := [some (.ref (a0 0)), some (.int x1), none, some (.int x3), some (.int x4), none, some (.int x6), some (.int x7), some (.int x8), some (.int x9), none]) (pc' := 58) (st' := [.int (12 : Int32), .int x9]) (by decide +kernel) rfl rfl ⟨trivial, trivial, trivial⟩ ?_
    refine zr_icmp_ge (off := 102) (tgt := 160) (by decide +kernel) (by decide) (fun hc => ?_) (fun hc => ?_)
    · have hf := zift hf hc
      refine zr_run [(.iload 6, 0, 0, 0, .null), (.iload_n 3, 0, 0, 0, .null)] [] (WW' := [w_Pl G a0 s0]) (lv' := [some (.ref (a0 0)), some (.int x1), none, some (.int x3), some (.int x4), none, some (.int x6), some (.int x7), some (.int x8), some (.int x9), none]) (pc' := 64) (st' := [.int x3, .int x6]) (by decide +kernel) rfl rfl ⟨trivial, trivial, trivial⟩ ?_
      refine zr_icmp_ge (off := 96) (tgt := 160) (by decide +kernel) (by decide) (fun hc => ?_) (fun hc => ?_)
      · have hf := zift hf hc
        refine zr_run [(.iload_n 1, 0, 0, 0, .null), (.iload 9, 0, 0, 0, .null), (.isub, 0, 0, 0, .null), (.istore 10, 0, 0, 0, .null), (.iload 7, 0, 0, 0, .null)] [] (WW' := [w_Pl G a0 s0]) (lv' := [some (.ref (a0 0)), some (.int x1), none, some (.int x3), some (.int x4), none, some (.int x6), some (.int x7), some (.int x8), some (.int x9), some (.int (x1 - x9))]) (pc' := 75) (st' := [.int x7]) (by decide +kernel) rfl rfl ⟨trivial, trivial, trivial, trivial, trivial, trivial⟩ ?_
        refine zr_if_ne (off := 7) (tgt := 82) (by decide +kernel) (by decide) (fun hc => ?_) (fun hc => ?_)
        · have hf := zift hf hc
          refine zr_run [(.iconst 1, 0, 0, 0, .int (1 : Int32))] [] (WW' := [w_Pl G a0 s0]) (lv' := [some (.ref (a0 0)), some (.int x1), none, some (.int x3), some (.int x4), none, some (.int x6), some (.int x7), some (.int x8), some (.int x9), some (.int (x1 - x9))]) (pc' := 79) (st' := [.int (1 : Int32)]) (by decide +kernel) rfl rfl ⟨trivial, trivial⟩ ?_
          refine zr_goto (off := 4) (tgt := 83) (by decide +kernel) (by decide) ?_
          refine zr_run [] [7] (WW' := [w_Pl G a0 s0]) (lv' := [some (.ref (a0 0)), some (.int x1), none, some (.int x3), some (.int x4), none, some (.int x6), none, some (.int x8), some (.int x9), some (.int (x1 - x9))]) (pc' := 83) (st' := [.int (1 : Int32)]) (by decide +kernel) rfl rfl trivial ?_
          exact t_X6_choose_b83 l G a0 W0 r s0 k48 hk48 x1 x3 x4 x6 x8 x9 (x1 - x9) (1 : Int32) hf
        · have hf := ziff hf hc
          refine zr_run [(.iconst 0, 0, 0, 0, .int (0 : Int32))] [7] (WW' := [w_Pl G a0 s0]) (lv' := [some (.ref (a0 0)), some (.int x1), none, some (.int x3), some (.int x4), none, some (.int x6), none, some (.int x8), some (.int x9), some (.int (x1 - x9))]) (pc' := 83) (st' := [.int (0 : Int32)]) (by decide +kernel) rfl rfl ⟨trivial, trivial⟩ ?_
          exact t_X6_choose_b83 l G a0 W0 r s0 k48 hk48 x1 x3 x4 x6 x8 x9 (x1 - x9) (0 : Int32) hf
      · have hf := ziff hf hc
        obtain rfl := Option.some.inj hf
        exact zr_vret (b0 := fun _ => 0) (by decide +kernel) rfl rfl rfl rfl rfl
    · have hf := ziff hf hc
      obtain rfl := Option.some.inj hf
      exact zr_vret (b0 := fun _ => 0) (by decide +kernel) rfl rfl rfl rfl rfl
  · have hf := ziff hf hc
    obtain rfl := Option.some.inj hf
    exact zr_vret (b0 := fun _ => 0) (by decide +kernel) rfl rfl rfl rfl rfl
theorem t_X6_choose_L48 (l : Launch) (G : zj_G) (a0 : Nat → Nat) (W0 : List va_W) (r : PlT)    : ∀ (n : Nat) (s0 : PlT) (x1 : Int32) (x3 : Int32) (x4 : Int32) (x6 : Int32) (x7 : Int32) (x8 : Int32) (x9 : Int32), f_X6_choose_L48 n s0 x1 x3 x4 x6 x7 x8 x9 = some r → zj_J l G M_X6_choose W0 (zj_ret G M_X6_choose W0 (none) (fun _ => [w_Pl G a0 r])) 0 0 [w_Pl G a0 s0] [some (.ref (a0 0)), some (.int x1), none, some (.int x3), some (.int x4), none, some (.int x6), some (.int x7), some (.int x8), some (.int x9), none] 48 [] := by
  intro n
  induction n with
  | zero => intro s0 x1 x3 x4 x6 x7 x8 x9 hf; exact nomatch (show none = some r from hf)
  | succ n ih => intro s0 x1 x3 x4 x6 x7 x8 x9 hf; exact t_X6_choose_H48 l G a0 W0 r s0  (f_X6_choose_L48 n)  ih x1 x3 x4 x6 x7 x8 x9  hf
set_option maxRecDepth 100000 in
set_option maxHeartbeats 4000000 in
theorem t_X6_choose_b43 (l : Launch) (G : zj_G) (a0 : Nat → Nat) (W0 : List va_W) (r : PlT) (s0 : PlT)   (x1 : Int32) (x3 : Int32) (x4 : Int32) (x6 : Int32) (x7 : Int32) (z0 : Int32) (hf : f_X6_choose_b43 s0 x1 x3 x4 x6 x7 z0 = some r) : zj_J l G M_X6_choose W0 (zj_ret G M_X6_choose W0 (none) (fun _ => [w_Pl G a0 r])) 0 0 [w_Pl G a0 s0] [some (.ref (a0 0)), some (.int x1), none, some (.int x3), some (.int x4), none, some (.int x6), some (.int x7), none, none, none] 43 [.int z0] := by
  unfold f_X6_choose_b43 at hf
  refine zr_run [(.istore 8, 0, 0, 0, .null), (.iconst 0, 0, 0, 0, .int (0 : Int32)), (.istore 9, 0, 0, 0, .null)] [] (WW' := [w_Pl G a0 s0]) (lv' := [some (.ref (a0 0)), some (.int x1), none, some (.int x3), some (.int x4), none, some (.int x6), some (.int x7), some (.int z0), some (.int (0 : Int32)), none]) (pc' := 48) (st' := []) (by decide +kernel) rfl rfl ⟨trivial, trivial, trivial, trivial⟩ ?_
  exact t_X6_choose_L48 l G a0 W0 r zFU s0 x1 x3 x4 x6 x7 z0 (0 : Int32) hf
set_option maxRecDepth 100000 in
set_option maxHeartbeats 4000000 in
theorem t_X6_choose_b21 (l : Launch) (G : zj_G) (a0 : Nat → Nat) (W0 : List va_W) (r : PlT) (s0 : PlT)   (x1 : Int32) (x2 : Int32) (x3 : Int32) (x4 : Int32) (x6 : Int32) (z0 : Int32) (hf : f_X6_choose_b21 s0 x1 x2 x3 x4 x6 z0 = some r) : zj_J l G M_X6_choose W0 (zj_ret G M_X6_choose W0 (none) (fun _ => [w_Pl G a0 r])) 0 0 [w_Pl G a0 s0] [some (.ref (a0 0)), some (.int x1), some (.int x2), some (.int x3), some (.int x4), none, some (.int x6), none, none, none, none] 21 [.int z0] := by
  unfold f_X6_choose_b21 at hf
  obtain ⟨q2, e2, hf⟩ := zbi_of hf
  refine zr_run [(.istore 7, 0, 0, 0, .null), (.aload_n 0, 0, 0, 0, .null), (.getfield 25, 0, 0, 4, .null), (.iload_n 1, 0, 0, 0, .null), (.iload_n 2, 0, 0, 0, .null)] [] (WW' := [w_Pl G a0 s0]) (lv' := [some (.ref (a0 0)), some (.int x1), some (.int x2), some (.int x3), some (.int x4), none, some (.int x6), some (.int z0), none, none, none]) (pc' := 29) (st' := [.int x2, .int x1, .ref (a0 3)]) (by decide +kernel) rfl rfl ⟨trivial, trivial, ⟨rfl, rfl, zw_2_64⟩, trivial, trivial, trivial⟩ ?_
  refine zr_callS (c_X6_index l G x1 x2 q2 e2) (WW' := fun _ => [w_Pl G a0 s0]) (st := [.ref (a0 3)]) (st' := [.int q2, .ref (a0 3)]) [] rfl rfl (fun _ => Nat.le_of_ble_eq_true rfl) (fun _ => rfl) rfl rfl nm_X6_index zw_6_0 zw_6_1 zw_1_12 zw_6_2 rfl (Nat.le_of_ble_eq_true rfl) ⟨Nat.le_of_ble_eq_true rfl, Nat.le_of_ble_eq_true rfl⟩ (by decide +kernel) (fun _ => ?_)
  obtain ⟨h3, hf⟩ := zck_of hf
  refine zr_run [(.laload, 0, 3, 0, .null), (.lconst 0, 0, 0, 0, .long (0 : Int64)), (.lcmp, 0, 0, 0, .null)] [] (WW' := [w_Pl G a0 s0]) (lv' := [some (.ref (a0 0)), some (.int x1), some (.int x2), some (.int x3), some (.int x4), none, some (.int x6), some (.int z0), none, none, none]) (pc' := 35) (st' := [.int (lg_cmp ((Pl_cases s0) q2.toNatClampNeg) (0 : Int64))]) (by decide +kernel) rfl rfl ⟨⟨rfl, rfl, h3⟩, trivial, trivial, trivial⟩ ?_
  refine zr_if_ne (off := 7) (tgt := 42) (by decide +kernel) (by decide) (fun hc => ?_) (fun hc => ?_)
  · have hf := zift hf hc
    refine zr_run [(.iconst 1, 0, 0, 0, .int (1 : Int32))] [] (WW' := [w_Pl G a0 s0]) (lv' := [some (.ref (a0 0)), some (.int x1), some (.int x2), some (.int x3), some (.int x4), none, some (.int x6), some (.int z0), none, none, none]) (pc' := 39) (st' := [.int (1 : Int32)]) (by decide +kernel) rfl rfl ⟨trivial, trivial⟩ ?_
    refine zr_goto (off := 4) (tgt := 43) (by decide +kernel) (by decide) ?_
    refine zr_run [] [2] (WW' := [w_Pl G a0 s0]) (lv' := [some (.ref (a0 0)), some (.int x1), none, some (.int x3), some (.int x4), none, some (.int x6), some (.int z0), none, none, none]) (pc' := 43) (st' := [.int (1 : Int32)]) (by decide +kernel) rfl rfl trivial ?_
    exact t_X6_choose_b43 l G a0 W0 r s0 x1 x3 x4 x6 z0 (1 : Int32) hf
  · have hf := ziff hf hc
    refine zr_run [(.iconst 0, 0, 0, 0, .int (0 : Int32))] [2] (WW' := [w_Pl G a0 s0]) (lv' := [some (.ref (a0 0)), some (.int x1), none, some (.int x3), some (.int x4), none, some (.int x6), some (.int z0), none, none, none]) (pc' := 43) (st' := [.int (0 : Int32)]) (by decide +kernel) rfl rfl ⟨trivial, trivial⟩ ?_
    exact t_X6_choose_b43 l G a0 W0 r s0 x1 x3 x4 x6 z0 (0 : Int32) hf
set_option maxRecDepth 100000 in
set_option maxHeartbeats 4000000 in
theorem c_X6_choose (l : Launch) (G : zj_G) (a0 : Nat → Nat) (s0 : PlT) (x1 : Int32) (x2 : Int32) (x3 : Int32) (x4 : Int32) (x5 : Int32) (r : PlT) (hf : f_X6_choose s0 x1 x2 x3 x4 x5 = some r) : zj_C l G M_X6_choose yX6_choose [w_Pl G a0 s0] [.ref (a0 0), .int x1, .int x2, .int x3, .int x4, .int x5] (none) (fun _ => [w_Pl G a0 r]) := by
  have key : ∀ W0 : List va_W, zj_J l G M_X6_choose W0 (zj_ret G M_X6_choose W0 (none) (fun _ => [w_Pl G a0 r])) 0 0 [w_Pl G a0 s0] [some (.ref (a0 0)), some (.int x1), some (.int x2), some (.int x3), some (.int x4), some (.int x5), none, none, none, none, none] 0 [] := by
    intro W0
    unfold f_X6_choose at hf
    refine zr_run [(.aload_n 0, 0, 0, 0, .null), (.getfield 18, 0, 0, 2, .null), (.iconst (-1), 0, 0, 0, .int (-1 : Int32))] [] (WW' := [w_Pl G a0 s0]) (lv' := [some (.ref (a0 0)), some (.int x1), some (.int x2), some (.int x3), some (.int x4), some (.int x5), none, none, none, none, none]) (pc' := 5) (st' := [.int (-1 : Int32), .ref (a0 1)]) (by decide +kernel) rfl rfl ⟨trivial, ⟨rfl, rfl, zw_2_62⟩, trivial, trivial⟩ ?_
    refine zr_fillI (b := 0) (c' := 1) rfl rfl rfl (Nat.le_of_ble_eq_true rfl) zw_2_55 zw_2_56 zw_1_13 zw_2_57 rfl (Nat.le_of_ble_eq_true rfl) ⟨Nat.le_of_ble_eq_true rfl, Nat.le_of_ble_eq_true rfl⟩ (by decide +kernel) ?_
    refine zr_eq (WW2 := [w_Pl G a0 (Pl_s_chosen s0 ((zr_fill 12 (Pl_chosen s0) (-1 : Int32))))]) rfl rfl rfl ?_
    obtain ⟨y1, e1, hf⟩ := zlet_of hf
    refine zr_eq (WW2 := [w_Pl G a0 y1]) (lv2 := [some (.ref (a0 0)), some (.int x1), some (.int x2), some (.int x3), some (.int x4), some (.int x5), none, none, none, none, none]) (st2 := []) (by rw [e1]) rfl rfl ?_
    refine zr_run [(.iload_n 2, 0, 0, 0, .null), (.istore 6, 0, 0, 0, .null), (.iload 5, 0, 0, 0, .null)] [] (WW' := [w_Pl G a0 y1]) (lv' := [some (.ref (a0 0)), some (.int x1), some (.int x2), some (.int x3), some (.int x4), some (.int x5), some (.int x2), none, none, none, none]) (pc' := 13) (st' := [.int x5]) (by decide +kernel) rfl rfl ⟨trivial, trivial, trivial, trivial⟩ ?_
    refine zr_if_eq (off := 7) (tgt := 20) (by decide +kernel) (by decide) (fun hc => ?_) (fun hc => ?_)
    · have hf := zift hf hc
      refine zr_run [(.iconst 1, 0, 0, 0, .int (1 : Int32))] [5] (WW' := [w_Pl G a0 y1]) (lv' := [some (.ref (a0 0)), some (.int x1), some (.int x2), some (.int x3), some (.int x4), none, some (.int x2), none, none, none, none]) (pc' := 21) (st' := [.int (1 : Int32)]) (by decide +kernel) rfl rfl ⟨trivial, trivial⟩ ?_
      exact t_X6_choose_b21 l G a0 W0 r y1 x1 x2 x3 x4 x2 (1 : Int32) hf
    · have hf := ziff hf hc
      refine zr_run [(.iconst 0, 0, 0, 0, .int (0 : Int32))] [] (WW' := [w_Pl G a0 y1]) (lv' := [some (.ref (a0 0)), some (.int x1), some (.int x2), some (.int x3), some (.int x4), some (.int x5), some (.int x2), none, none, none, none]) (pc' := 17) (st' := [.int (0 : Int32)]) (by decide +kernel) rfl rfl ⟨trivial, trivial⟩ ?_
      refine zr_goto (off := 4) (tgt := 21) (by decide +kernel) (by decide) ?_
      refine zr_run [] [5] (WW' := [w_Pl G a0 y1]) (lv' := [some (.ref (a0 0)), some (.int x1), some (.int x2), some (.int x3), some (.int x4), none, some (.int x2), none, none, none, none]) (pc' := 21) (st' := [.int (0 : Int32)]) (by decide +kernel) rfl rfl trivial ?_
      exact t_X6_choose_b21 l G a0 W0 r y1 x1 x2 x3 x4 x2 (0 : Int32) hf
  exact zj_entry [some (.ref (a0 0)), some (.int x1), some (.int x2), some (.int x3), some (.int x4), some (.int x5), none, none, none, none, none] (by decide +kernel) rfl (by decide) (Nat.le_of_ble_eq_true rfl) rfl rfl (key _)
def M_X6_think : zj_M := (RX6, cX6_think, 12, none, { frames := 3, cells := 0, slots := 0, locals := 77 }, false)
theorem nm_X6_think : zj_nm yX6_think 3 := ⟨by decide +kernel, by decide +kernel, by decide +kernel⟩
def f_X6_think_b188  (s0 : PlT) (s1 : LdT) (s2 : FkT)  (x4 : Int32) (x6 : Int32) (x8 : Int64) (z0 : Int32) (z1 : Int32) (z2 : Int32) (z3 : Int32) (z4 : Int32) : Option (PlT) := ((f_X6_choose s0 z4 z3 z2 z1 z0).bind fun q7 => ((f_X6_index x4 x6).bind fun q8 => (if zb_in q8 3523 = true then (zlet (Pl_s_above q7 ((Pl_cases q7) q8.toNatClampNeg)) fun y10 => (zlet (Pl_s_below y10 x8) fun y11 => ((f_X11_commonDivisor (Pl_above y11) (Pl_below y11)).bind fun q12 => (if zb_nzl q12 = true then (zlet (Pl_s_above y11 ((Pl_above y11) / q12)) fun y14 => (if zb_nzl q12 = true then (zlet (Pl_s_below y14 ((Pl_below y14) / q12)) fun y16 => some y16) else none)) else none)))) else none)))
def f_X6_think_b158  (s0 : PlT) (s1 : LdT) (s2 : FkT) (k92 : PlT → Int32 → Int32 → Int32 → Int32 → Int32 → Int64 → Int32 → Option (PlT)) (x3 : Int32) (x4 : Int32) (x5 : Int32) (x6 : Int32) (x7 : Int32) (x8 : Int64) (x10 : Int32) : Option (PlT) := k92 s0 x3 x4 x5 x6 x7 x8 (x10 + (1 : Int32))
def f_X6_think_H92  (s0 : PlT) (s1 : LdT) (s2 : FkT) (k92 : PlT → Int32 → Int32 → Int32 → Int32 → Int32 → Int64 → Int32 → Option (PlT)) (x3 : Int32) (x4 : Int32) (x5 : Int32) (x6 : Int32) (x7 : Int32) (x8 : Int64) (x10 : Int32) : Option (PlT) := (if x4 < x10 then ((f_X1_of s2 x3 (8 : Int32)).bind fun q6 => (if 0 < q6 then f_X6_think_b188 s0 s1 s2 x4 x6 x8 (1 : Int32) x7 x5 x6 x4 else f_X6_think_b188 s0 s1 s2 x4 x6 x8 (0 : Int32) x7 x5 x6 x4)) else ((f_X6_weighDay s0 x10 x6 (zr_mminF (x5 - (1 : Int32)) (x6 + ((x4 - x10) * x7))) x5 x7).bind fun q17 => ((f_X6_index x10 x5).bind fun q18 => (if zb_in q18 3523 = true then (zlet (Pl_s_cases q17 ((vp_updL (Pl_cases q17) q18.toNatClampNeg x8))) fun y20 => (if x10 < x4 then f_X6_think_b158 y20 s1 s2 k92 x3 x4 x5 x6 x7 (x8 * (12 : Int64)) x10 else f_X6_think_b158 y20 s1 s2 k92 x3 x4 x5 x6 x7 x8 x10)) else none))))
def f_X6_think_L92  (s1 : LdT) (s2 : FkT)  : Nat → PlT → Int32 → Int32 → Int32 → Int32 → Int32 → Int64 → Int32 → Option (PlT)
  | 0 => fun _ _ _ _ _ _ _ _ => none
  | n + 1 => fun s0 x3 x4 x5 x6 x7 x8 x10 => f_X6_think_H92 s0 s1 s2 (f_X6_think_L92 s1 s2 n) x3 x4 x5 x6 x7 x8 x10
def f_X6_think_b32  (s0 : PlT) (s1 : LdT) (s2 : FkT)  (x3 : Int32) : Option (PlT) := ((f_X1_daysYet s2 x3).bind fun q1 => ((f_X1_allMiles s2 s1 x3).bind fun q2 => ((f_X1_of s2 x3 (5 : Int32)).bind fun q3 => ((f_X3_ofMan s1 x3 (1 : Int32)).bind fun q4 => ((f_X6_weighMilestones s0 s1 s2 x3).bind fun q5 => f_X6_think_L92 s1 s2 zFU q5 x3 (zr_mminF (12 : Int32) q1) (zr_mminF (270 : Int32) q2) (zr_mminF (zr_mminF (270 : Int32) q2) q3) q4 (1 : Int64) (0 : Int32))))))
def f_X6_think  (s0 : PlT) (s1 : LdT) (s2 : FkT) (x3 : Int32) : Option (PlT) := f_X6_think_b32 s0 s1 s2 x3
set_option maxRecDepth 100000 in
set_option maxHeartbeats 4000000 in
theorem t_X6_think_b188 (l : Launch) (G : zj_G) (a0 : Nat → Nat) (a1 : Nat → Nat) (a2 : Nat → Nat) (W0 : List va_W) (r : PlT) (s0 : PlT) (s1 : LdT) (s2 : FkT)   (x4 : Int32) (x6 : Int32) (x8 : Int64) (z0 : Int32) (z1 : Int32) (z2 : Int32) (z3 : Int32) (z4 : Int32) (hf : f_X6_think_b188 s0 s1 s2 x4 x6 x8 z0 z1 z2 z3 z4 = some r) : zj_J l G M_X6_think W0 (zj_ret G M_X6_think W0 (none) (fun _ => [w_Pl G a0 r, w_Ld G a1 s1, w_Fk G a2 s2])) 0 0 [w_Pl G a0 s0, w_Ld G a1 s1, w_Fk G a2 s2] [some (.ref (a0 0)), none, none, none, some (.int x4), none, some (.int x6), none, some (.long x8), none, none, none] 188 [.int z0, .int z1, .int z2, .int z3, .int z4, .ref (a0 0)] := by
  unfold f_X6_think_b188 at hf
  obtain ⟨q7, e7, hf⟩ := zbi_of hf
  refine zr_callV (c_X6_choose l G a0 s0 z4 z3 z2 z1 z0 q7 e7) (WW' := fun _ => [w_Pl G a0 q7, w_Ld G a1 s1, w_Fk G a2 s2]) (st := []) (st' := []) [0] rfl rfl (fun _ => Nat.le_of_ble_eq_true rfl) (fun _ => rfl) rfl rfl nm_X6_choose zw_6_7 zw_6_9 zw_0_46 zw_1_12 zw_6_10 rfl rfl rfl (Nat.le_of_ble_eq_true rfl) ⟨Nat.le_of_ble_eq_true rfl, Nat.le_of_ble_eq_true rfl⟩ (by decide +kernel) (fun _ => ?_)
  obtain ⟨q8, e8, hf⟩ := zbi_of hf
  refine zr_run [(.aload_n 0, 0, 0, 0, .null), (.aload_n 0, 0, 0, 0, .null), (.getfield 25, 0, 0, 4, .null), (.iload 4, 0, 0, 0, .null), (.iload 6, 0, 0, 0, .null)] [] (WW' := [w_Pl G a0 q7, w_Ld G a1 s1, w_Fk G a2 s2]) (lv' := [some (.ref (a0 0)), none, none, none, some (.int x4), none, some (.int x6), none, some (.long x8), none, none, none]) (pc' := 200) (st' := [.int x6, .int x4, .ref (a0 3), .ref (a0 0)]) (by decide +kernel) rfl rfl ⟨trivial, trivial, ⟨rfl, rfl, zw_2_64⟩, trivial, trivial, trivial⟩ ?_
  refine zr_callS (c_X6_index l G x4 x6 q8 e8) (WW' := fun _ => [w_Pl G a0 q7, w_Ld G a1 s1, w_Fk G a2 s2]) (st := [.ref (a0 3), .ref (a0 0)]) (st' := [.int q8, .ref (a0 3), .ref (a0 0)]) [] rfl rfl (fun _ => Nat.le_of_ble_eq_true rfl) (fun _ => rfl) rfl rfl nm_X6_index zw_6_0 zw_6_1 zw_1_12 zw_6_2 rfl (Nat.le_of_ble_eq_true rfl) ⟨Nat.le_of_ble_eq_true rfl, Nat.le_of_ble_eq_true rfl⟩ (by decide +kernel) (fun _ => ?_)
  obtain ⟨h9, hf⟩ := zck_of hf
  obtain ⟨y10, e10, hf⟩ := zlet_of hf
  refine zr_run [(.laload, 0, 3, 0, .null), (.putfield 9, 0, 0, 0, .null)] [] (WW' := [w_Pl G a0 (Pl_s_above q7 ((Pl_cases q7) q8.toNatClampNeg)), w_Ld G a1 s1, w_Fk G a2 s2]) (lv' := [some (.ref (a0 0)), none, none, none, some (.int x4), none, some (.int x6), none, some (.long x8), none, none, none]) (pc' := 207) (st' := []) (by decide +kernel) rfl rfl ⟨⟨rfl, rfl, h9⟩, ⟨rfl, rfl, rfl, trivial, rfl, rfl, zw_2_58⟩, trivial⟩ ?_
  refine zr_eq (WW2 := [w_Pl G a0 y10, w_Ld G a1 s1, w_Fk G a2 s2]) (lv2 := [some (.ref (a0 0)), none, none, none, some (.int x4), none, some (.int x6), none, some (.long x8), none, none, none]) (st2 := []) (by rw [e10]) rfl rfl ?_
  obtain ⟨y11, e11, hf⟩ := zlet_of hf
  refine zr_run [(.aload_n 0, 0, 0, 0, .null), (.lload 8, 0, 0, 0, .null), (.putfield 15, 0, 0, 1, .null)] [] (WW' := [w_Pl G a0 (Pl_s_below y10 x8), w_Ld G a1 s1, w_Fk G a2 s2]) (lv' := [some (.ref (a0 0)), none, none, none, some (.int x4), none, some (.int x6), none, some (.long x8), none, none, none]) (pc' := 213) (st' := []) (by decide +kernel) rfl rfl ⟨trivial, trivial, ⟨rfl, rfl, rfl, trivial, rfl, rfl, zw_2_60⟩, trivial⟩ ?_
  refine zr_eq (WW2 := [w_Pl G a0 y11, w_Ld G a1 s1, w_Fk G a2 s2]) (lv2 := [some (.ref (a0 0)), none, none, none, some (.int x4), none, some (.int x6), none, some (.long x8), none, none, none]) (st2 := []) (by rw [e11]) rfl rfl ?_
  obtain ⟨q12, e12, hf⟩ := zbi_of hf
  refine zr_run [(.aload_n 0, 0, 0, 0, .null), (.getfield 9, 0, 0, 0, .null), (.aload_n 0, 0, 0, 0, .null), (.getfield 15, 0, 0, 1, .null)] [] (WW' := [w_Pl G a0 y11, w_Ld G a1 s1, w_Fk G a2 s2]) (lv' := [some (.ref (a0 0)), none, none, none, some (.int x4), none, some (.int x6), none, some (.long x8), none, none, none]) (pc' := 221) (st' := [.long (Pl_below y11), .long (Pl_above y11)]) (by decide +kernel) rfl rfl ⟨trivial, ⟨rfl, rfl, zw_2_58⟩, trivial, ⟨rfl, rfl, zw_2_60⟩, trivial⟩ ?_
  refine zr_callSN (i := 76) (c_X11_commonDivisor l G (Pl_above y11) (Pl_below y11) q12 e12) (WW' := fun _ => [w_Pl G a0 y11, w_Ld G a1 s1, w_Fk G a2 s2]) (st := []) (st' := [.long q12]) [] rfl rfl (fun _ => Nat.le_of_ble_eq_true rfl) (fun _ => rfl) rfl rfl nm_X11_commonDivisor (by decide +kernel) zw_6_12 zw_1_1 zw_6_13 rfl (Nat.le_of_ble_eq_true rfl) ⟨Nat.le_of_ble_eq_true rfl, Nat.le_of_ble_eq_true rfl⟩ (by decide +kernel) (fun _ => ?_)
  obtain ⟨h13, hf⟩ := zck_of hf
  obtain ⟨y14, e14, hf⟩ := zlet_of hf
  refine zr_run [(.lstore 10, 0, 0, 0, .null), (.aload_n 0, 0, 0, 0, .null), (.dup, 0, 0, 0, .null), (.getfield 9, 0, 0, 0, .null), (.lload 10, 0, 0, 0, .null), (.ldiv, 0, 0, 0, .null), (.putfield 9, 0, 0, 0, .null)] [] (WW' := [w_Pl G a0 (Pl_s_above y11 ((Pl_above y11) / q12)), w_Ld G a1 s1, w_Fk G a2 s2]) (lv' := [some (.ref (a0 0)), none, none, none, some (.int x4), none, some (.int x6), none, some (.long x8), none, some (.long q12), none]) (pc' := 237) (st' := []) (by decide +kernel) rfl rfl ⟨trivial, trivial, trivial, ⟨rfl, rfl, zw_2_58⟩, trivial, h13, ⟨rfl, rfl, rfl, trivial, rfl, rfl, zw_2_58⟩, trivial⟩ ?_
  refine zr_eq (WW2 := [w_Pl G a0 y14, w_Ld G a1 s1, w_Fk G a2 s2]) (lv2 := [some (.ref (a0 0)), none, none, none, some (.int x4), none, some (.int x6), none, some (.long x8), none, some (.long q12), none]) (st2 := []) (by rw [e14]) rfl rfl ?_
  obtain ⟨h15, hf⟩ := zck_of hf
  obtain ⟨y16, e16, hf⟩ := zlet_of hf
  refine zr_run [(.aload_n 0, 0, 0, 0, .null), (.dup, 0, 0, 0, .null), (.getfield 15, 0, 0, 1, .null), (.lload 10, 0, 0, 0, .null), (.ldiv, 0, 0, 0, .null), (.putfield 15, 0, 0, 1, .null)] [] (WW' := [w_Pl G a0 (Pl_s_below y14 ((Pl_below y14) / q12)), w_Ld G a1 s1, w_Fk G a2 s2]) (lv' := [some (.ref (a0 0)), none, none, none, some (.int x4), none, some (.int x6), none, some (.long x8), none, some (.long q12), none]) (pc' := 248) (st' := []) (by decide +kernel) rfl rfl ⟨trivial, trivial, ⟨rfl, rfl, zw_2_60⟩, trivial, h15, ⟨rfl, rfl, rfl, trivial, rfl, rfl, zw_2_60⟩, trivial⟩ ?_
  refine zr_eq (WW2 := [w_Pl G a0 y16, w_Ld G a1 s1, w_Fk G a2 s2]) (lv2 := [some (.ref (a0 0)), none, none, none, some (.int x4), none, some (.int x6), none, some (.long x8), none, some (.long q12), none]) (st2 := []) (by rw [e16]) rfl rfl ?_
  obtain rfl := Option.some.inj hf
  exact zr_vret (b0 := fun _ => 0) (by decide +kernel) rfl rfl rfl rfl rfl
set_option maxRecDepth 100000 in
set_option maxHeartbeats 4000000 in
theorem t_X6_think_b158 (l : Launch) (G : zj_G) (a0 : Nat → Nat) (a1 : Nat → Nat) (a2 : Nat → Nat) (W0 : List va_W) (r : PlT) (s0 : PlT) (s1 : LdT) (s2 : FkT) (k92 : PlT → Int32 → Int32 → Int32 → Int32 → Int32 → Int64 → Int32 → Option (PlT)) (hk92 : ∀ (s0 : PlT) (x3 : Int32) (x4 : Int32) (x5 : Int32) (x6 : Int32) (x7 : Int32) (x8 : Int64) (x10 : Int32), k92 s0 x3 x4 x5 x6 x7 x8 x10 = some r → zj_J l G M_X6_think W0 (zj_ret G M_X6_think W0 (none) (fun _ => [w_Pl G a0 r, w_Ld G a1 s1, w_Fk G a2 s2])) 0 0 [w_Pl G a0 s0, w_Ld G a1 s1, w_Fk G a2 s2] [some (.ref (a0 0)), none, some (.ref (a2 0)), some (.int x3), some (.int x4), some (.int x5), some (.int x6), some (.int x7), some (.long x8), none, some (.int x10), none] 92 []) (x3 : Int32) (x4 : Int32) (x5 : Int32) (x6 : Int32) (x7 : Int32) (x8 : Int64) (x10 : Int32) (hf : f_X6_think_b158 s0 s1 s2 k92 x3 x4 x5 x6 x7 x8 x10 = some r) : zj_J l G M_X6_think W0 (zj_ret G M_X6_think W0 (none) (fun _ => [w_Pl G a0 r, w_Ld G a1 s1, w_Fk G a2 s2])) 0 0 [w_Pl G a0 s0, w_Ld G a1 s1, w_Fk G a2 s2] [some (.ref (a0 0)), none, some (.ref (a2 0)), some (.int x3), some (.int x4), some (.int x5), some (.int x6), some (.int x7), some (.long x8), none, some (.int x10), none] 158 [] := by
  unfold f_X6_think_b158 at hf
  refine zr_run [(.iinc 10 1, 0, 0, 0, .int (1 : Int32))] [] (WW' := [w_Pl G a0 s0, w_Ld G a1 s1, w_Fk G a2 s2]) (lv' := [some (.ref (a0 0)), none, some (.ref (a2 0)), some (.int x3), some (.int x4), some (.int x5), some (.int x6), some (.int x7), some (.long x8), none, some (.int (x10 + (1 : Int32))), none]) (pc' := 161) (st' := []) (by decide +kernel) rfl rfl ⟨trivial, trivial⟩ ?_
  refine zr_goto (off := -69) (tgt := 92) (by decide +kernel) (by decide) ?_
  exact hk92 s0 x3 x4 x5 x6 x7 x8 (x10 + (1 : Int32)) hf
set_option maxRecDepth 100000 in
set_option maxHeartbeats 4000000 in
theorem t_X6_think_H92 (l : Launch) (G : zj_G) (a0 : Nat → Nat) (a1 : Nat → Nat) (a2 : Nat → Nat) (W0 : List va_W) (r : PlT) (s0 : PlT) (s1 : LdT) (s2 : FkT) (k92 : PlT → Int32 → Int32 → Int32 → Int32 → Int32 → Int64 → Int32 → Option (PlT)) (hk92 : ∀ (s0 : PlT) (x3 : Int32) (x4 : Int32) (x5 : Int32) (x6 : Int32) (x7 : Int32) (x8 : Int64) (x10 : Int32), k92 s0 x3 x4 x5 x6 x7 x8 x10 = some r → zj_J l G M_X6_think W0 (zj_ret G M_X6_think W0 (none) (fun _ => [w_Pl G a0 r, w_Ld G a1 s1, w_Fk G a2 s2])) 0 0 [w_Pl G a0 s0, w_Ld G a1 s1, w_Fk G a2 s2] [some (.ref (a0 0)), none, some (.ref (a2 0)), some (.int x3), some (.int x4), some (.int x5), some (.int x6), some (.int x7), some (.long x8), none, some (.int x10), none] 92 []) (x3 : Int32) (x4 : Int32) (x5 : Int32) (x6 : Int32) (x7 : Int32) (x8 : Int64) (x10 : Int32) (hf : f_X6_think_H92 s0 s1 s2 k92 x3 x4 x5 x6 x7 x8 x10 = some r) : zj_J l G M_X6_think W0 (zj_ret G M_X6_think W0 (none) (fun _ => [w_Pl G a0 r, w_Ld G a1 s1, w_Fk G a2 s2])) 0 0 [w_Pl G a0 s0, w_Ld G a1 s1, w_Fk G a2 s2] [some (.ref (a0 0)), none, some (.ref (a2 0)), some (.int x3), some (.int x4), some (.int x5), some (.int x6), some (.int x7), some (.long x8), none, some (.int x10), none] 92 [] := by
  unfold f_X6_think_H92 at hf
  refine zr_run [(.iload 10, 0, 0, 0, .null), (.iload 4, 0, 0, 0, .null)] [] (WW' := [w_Pl G a0 s0, w_Ld G a1 s1, w_Fk G a2 s2]) (lv' := [some (.ref (a0 0)), none, some (.ref (a2 0)), some (.int x3), some (.int x4), some (.int x5), some (.int x6), some (.int x7), some (.long x8), none, some (.int x10), none]) (pc' := 96) (st' := [.int x4, .int x10]) (by decide +kernel) rfl rfl ⟨trivial, trivial, trivial⟩ ?_
  refine zr_icmp_gt (off := 68) (tgt := 164) (by decide +kernel) (by decide) (fun hc => ?_) (fun hc => ?_)
  · have hf := zift hf hc
    obtain ⟨q6, e6, hf⟩ := zbi_of hf
    refine zr_run [(.aload_n 0, 0, 0, 0, .null), (.iload 4, 0, 0, 0, .null), (.iload 6, 0, 0, 0, .null), (.iload 5, 0, 0, 0, .null), (.iload 7, 0, 0, 0, .null), (.aload_n 2, 0, 0, 0, .null), (.iload_n 3, 0, 0, 0, .null), (.bipush 8, 0, 0, 0, .int (8 : Int32))] [] (WW' := [w_Pl G a0 s0, w_Ld G a1 s1, w_Fk G a2 s2]) (lv' := [some (.ref (a0 0)), none, some (.ref (a2 0)), some (.int x3), some (.int x4), some (.int x5), some (.int x6), some (.int x7), some (.long x8), none, some (.int x10), none]) (pc' := 177) (st' := [.int (8 : Int32), .int x3, .ref (a2 0), .int x7, .int x5, .int x6, .int x4, .ref (a0 0)]) (by decide +kernel) rfl rfl ⟨trivial, trivial, trivial, trivial, trivial, trivial, trivial, trivial, trivial⟩ ?_
    refine zr_callV (c_X1_of l G a2 s2 x3 (8 : Int32) q6 e6) (WW' := fun _ => [w_Pl G a0 s0, w_Ld G a1 s1, w_Fk G a2 s2]) (st := [.int x7, .int x5, .int x6, .int x4, .ref (a0 0)]) (st' := [.int q6, .int x7, .int x5, .int x6, .int x4, .ref (a0 0)]) [2] rfl rfl (fun _ => Nat.le_of_ble_eq_true rfl) (fun _ => rfl) rfl rfl nm_X1_of zw_5_220 zw_3_142 zw_3_143 zw_1_8 zw_3_142n rfl rfl rfl (Nat.le_of_ble_eq_true rfl) ⟨Nat.le_of_ble_eq_true rfl, Nat.le_of_ble_eq_true rfl⟩ (by decide +kernel) (fun _ => ?_)
    refine zr_if_le (off := 7) (tgt := 187) (by decide +kernel) (by decide) (fun hc => ?_) (fun hc => ?_)
    · have hf := zift hf hc
      refine zr_run [(.iconst 1, 0, 0, 0, .int (1 : Int32))] [] (WW' := [w_Pl G a0 s0, w_Ld G a1 s1, w_Fk G a2 s2]) (lv' := [some (.ref (a0 0)), none, some (.ref (a2 0)), some (.int x3), some (.int x4), some (.int x5), some (.int x6), some (.int x7), some (.long x8), none, some (.int x10), none]) (pc' := 184) (st' := [.int (1 : Int32), .int x7, .int x5, .int x6, .int x4, .ref (a0 0)]) (by decide +kernel) rfl rfl ⟨trivial, trivial⟩ ?_
      refine zr_goto (off := 4) (tgt := 188) (by decide +kernel) (by decide) ?_
      refine zr_run [] [2, 3, 5, 7, 10] (WW' := [w_Pl G a0 s0, w_Ld G a1 s1, w_Fk G a2 s2]) (lv' := [some (.ref (a0 0)), none, none, none, some (.int x4), none, some (.int x6), none, some (.long x8), none, none, none]) (pc' := 188) (st' := [.int (1 : Int32), .int x7, .int x5, .int x6, .int x4, .ref (a0 0)]) (by decide +kernel) rfl rfl trivial ?_
      exact t_X6_think_b188 l G a0 a1 a2 W0 r s0 s1 s2 x4 x6 x8 (1 : Int32) x7 x5 x6 x4 hf
    · have hf := ziff hf hc
      refine zr_run [(.iconst 0, 0, 0, 0, .int (0 : Int32))] [2, 3, 5, 7, 10] (WW' := [w_Pl G a0 s0, w_Ld G a1 s1, w_Fk G a2 s2]) (lv' := [some (.ref (a0 0)), none, none, none, some (.int x4), none, some (.int x6), none, some (.long x8), none, none, none]) (pc' := 188) (st' := [.int (0 : Int32), .int x7, .int x5, .int x6, .int x4, .ref (a0 0)]) (by decide +kernel) rfl rfl ⟨trivial, trivial⟩ ?_
      exact t_X6_think_b188 l G a0 a1 a2 W0 r s0 s1 s2 x4 x6 x8 (0 : Int32) x7 x5 x6 x4 hf
  · have hf := ziff hf hc
    refine zr_run [(.aload_n 0, 0, 0, 0, .null), (.iload 10, 0, 0, 0, .null), (.iload 6, 0, 0, 0, .null), (.iload 5, 0, 0, 0, .null), (.iconst 1, 0, 0, 0, .int (1 : Int32)), (.isub, 0, 0, 0, .null), (.iload 6, 0, 0, 0, .null), (.iload 4, 0, 0, 0, .null), (.iload 10, 0, 0, 0, .null), (.isub, 0, 0, 0, .null), (.iload 7, 0, 0, 0, .null), (.imul, 0, 0, 0, .null), (.iadd, 0, 0, 0, .null)] [] (WW' := [w_Pl G a0 s0, w_Ld G a1 s1, w_Fk G a2 s2]) (lv' := [some (.ref (a0 0)), none, some (.ref (a2 0)), some (.int x3), some (.int x4), some (.int x5), some (.int x6), some (.int x7), some (.long x8), none, some (.int x10), none]) (pc' := 119) (st' := [.int (x6 + ((x4 - x10) * x7)), .int (x5 - (1 : Int32)), .int x6, .int x10, .ref (a0 0)]) (by decide +kernel) rfl rfl ⟨trivial, trivial, trivial, trivial, trivial, trivial, trivial, trivial, trivial, trivial, trivial, trivial, trivial, trivial⟩ ?_
    refine zr_mmin zw_5_231 zw_3_236 zw_1_24 zw_3_237 (Nat.le_of_ble_eq_true rfl) (Nat.le_of_ble_eq_true rfl) ⟨Nat.le_of_ble_eq_true rfl, Nat.le_of_ble_eq_true rfl⟩ (by decide +kernel) ?_
    obtain ⟨q17, e17, hf⟩ := zbi_of hf
    refine zr_run [(.iload 5, 0, 0, 0, .null), (.iload 7, 0, 0, 0, .null)] [] (WW' := [w_Pl G a0 s0, w_Ld G a1 s1, w_Fk G a2 s2]) (lv' := [some (.ref (a0 0)), none, some (.ref (a2 0)), some (.int x3), some (.int x4), some (.int x5), some (.int x6), some (.int x7), some (.long x8), none, some (.int x10), none]) (pc' := 126) (st' := [.int x7, .int x5, .int (zr_mminF (x5 - (1 : Int32)) (x6 + ((x4 - x10) * x7))), .int x6, .int x10, .ref (a0 0)]) (by decide +kernel) rfl rfl ⟨trivial, trivial, trivial⟩ ?_
    refine zr_callV (c_X6_weighDay l G a0 s0 x10 x6 (zr_mminF (x5 - (1 : Int32)) (x6 + ((x4 - x10) * x7))) x5 x7 q17 e17) (WW' := fun _ => [w_Pl G a0 q17, w_Ld G a1 s1, w_Fk G a2 s2]) (st := []) (st' := []) [0] rfl rfl (fun _ => Nat.le_of_ble_eq_true rfl) (fun _ => rfl) rfl rfl nm_X6_weighDay zw_5_232 zw_5_234 zw_0_44 zw_1_12 zw_5_235 rfl rfl rfl (Nat.le_of_ble_eq_true rfl) ⟨Nat.le_of_ble_eq_true rfl, Nat.le_of_ble_eq_true rfl⟩ (by decide +kernel) (fun _ => ?_)
    obtain ⟨q18, e18, hf⟩ := zbi_of hf
    refine zr_run [(.aload_n 0, 0, 0, 0, .null), (.getfield 25, 0, 0, 4, .null), (.iload 10, 0, 0, 0, .null), (.iload 5, 0, 0, 0, .null)] [] (WW' := [w_Pl G a0 q17, w_Ld G a1 s1, w_Fk G a2 s2]) (lv' := [some (.ref (a0 0)), none, some (.ref (a2 0)), some (.int x3), some (.int x4), some (.int x5), some (.int x6), some (.int x7), some (.long x8), none, some (.int x10), none]) (pc' := 137) (st' := [.int x5, .int x10, .ref (a0 3)]) (by decide +kernel) rfl rfl ⟨trivial, ⟨rfl, rfl, zw_2_64⟩, trivial, trivial, trivial⟩ ?_
    refine zr_callS (c_X6_index l G x10 x5 q18 e18) (WW' := fun _ => [w_Pl G a0 q17, w_Ld G a1 s1, w_Fk G a2 s2]) (st := [.ref (a0 3)]) (st' := [.int q18, .ref (a0 3)]) [] rfl rfl (fun _ => Nat.le_of_ble_eq_true rfl) (fun _ => rfl) rfl rfl nm_X6_index zw_6_0 zw_6_1 zw_1_12 zw_6_2 rfl (Nat.le_of_ble_eq_true rfl) ⟨Nat.le_of_ble_eq_true rfl, Nat.le_of_ble_eq_true rfl⟩ (by decide +kernel) (fun _ => ?_)
    obtain ⟨h19, hf⟩ := zck_of hf
    obtain ⟨y20, e20, hf⟩ := zlet_of hf
    refine zr_run [(.lload 8, 0, 0, 0, .null), (.lastore, 0, 3, 0, .null)] [] (WW' := [w_Pl G a0 (Pl_s_cases q17 ((vp_updL (Pl_cases q17) q18.toNatClampNeg x8))), w_Ld G a1 s1, w_Fk G a2 s2]) (lv' := [some (.ref (a0 0)), none, some (.ref (a2 0)), some (.int x3), some (.int x4), some (.int x5), some (.int x6), some (.int x7), some (.long x8), none, some (.int x10), none]) (pc' := 143) (st' := []) (by decide +kernel) rfl rfl ⟨trivial, ⟨rfl, rfl, h19⟩, trivial⟩ ?_
    refine zr_eq (WW2 := [w_Pl G a0 y20, w_Ld G a1 s1, w_Fk G a2 s2]) (lv2 := [some (.ref (a0 0)), none, some (.ref (a2 0)), some (.int x3), some (.int x4), some (.int x5), some (.int x6), some (.int x7), some (.long x8), none, some (.int x10), none]) (st2 := []) (by rw [e20]) rfl rfl ?_
    refine zr_run [(.iload 10, 0, 0, 0, .null), (.iload 4, 0, 0, 0, .null)] [] (WW' := [w_Pl G a0 y20, w_Ld G a1 s1, w_Fk G a2 s2]) (lv' := [some (.ref (a0 0)), none, some (.ref (a2 0)), some (.int x3), some (.int x4), some (.int x5), some (.int x6), some (.int x7), some (.long x8), none, some (.int x10), none]) (pc' := 147) (st' := [.int x4, .int x10]) (by decide +kernel) rfl rfl ⟨trivial, trivial, trivial⟩ ?_
    refine zr_icmp_ge (off := 11) (tgt := 158) (by decide +kernel) (by decide) (fun hc => ?_) (fun hc => ?_)
    · have hf := zift hf hc
      refine zr_run [(.lload 8, 0, 0, 0, .null), (.ldc2_w 70, 0, 0, 0, .long (12 : Int64)), (.lmul, 0, 0, 0, .null), (.lstore 8, 0, 0, 0, .null)] [] (WW' := [w_Pl G a0 y20, w_Ld G a1 s1, w_Fk G a2 s2]) (lv' := [some (.ref (a0 0)), none, some (.ref (a2 0)), some (.int x3), some (.int x4), some (.int x5), some (.int x6), some (.int x7), some (.long (x8 * (12 : Int64))), none, some (.int x10), none]) (pc' := 158) (st' := []) (by decide +kernel) rfl rfl ⟨trivial, zw_6_6, trivial, trivial, trivial⟩ ?_
      exact t_X6_think_b158 l G a0 a1 a2 W0 r y20 s1 s2 k92 hk92 x3 x4 x5 x6 x7 (x8 * (12 : Int64)) x10 hf
    · have hf := ziff hf hc
      exact t_X6_think_b158 l G a0 a1 a2 W0 r y20 s1 s2 k92 hk92 x3 x4 x5 x6 x7 x8 x10 hf
theorem t_X6_think_L92 (l : Launch) (G : zj_G) (a0 : Nat → Nat) (a1 : Nat → Nat) (a2 : Nat → Nat) (W0 : List va_W) (r : PlT) (s1 : LdT) (s2 : FkT)   : ∀ (n : Nat) (s0 : PlT) (x3 : Int32) (x4 : Int32) (x5 : Int32) (x6 : Int32) (x7 : Int32) (x8 : Int64) (x10 : Int32), f_X6_think_L92 s1 s2 n s0 x3 x4 x5 x6 x7 x8 x10 = some r → zj_J l G M_X6_think W0 (zj_ret G M_X6_think W0 (none) (fun _ => [w_Pl G a0 r, w_Ld G a1 s1, w_Fk G a2 s2])) 0 0 [w_Pl G a0 s0, w_Ld G a1 s1, w_Fk G a2 s2] [some (.ref (a0 0)), none, some (.ref (a2 0)), some (.int x3), some (.int x4), some (.int x5), some (.int x6), some (.int x7), some (.long x8), none, some (.int x10), none] 92 [] := by
  intro n
  induction n with
  | zero => intro s0 x3 x4 x5 x6 x7 x8 x10 hf; exact nomatch (show none = some r from hf)
  | succ n ih => intro s0 x3 x4 x5 x6 x7 x8 x10 hf; exact t_X6_think_H92 l G a0 a1 a2 W0 r s0 s1 s2  (f_X6_think_L92 s1 s2 n)  ih x3 x4 x5 x6 x7 x8 x10  hf
set_option maxRecDepth 100000 in
set_option maxHeartbeats 4000000 in
theorem t_X6_think_b32 (l : Launch) (G : zj_G) (a0 : Nat → Nat) (a1 : Nat → Nat) (a2 : Nat → Nat) (W0 : List va_W) (r : PlT) (s0 : PlT) (s1 : LdT) (s2 : FkT)   (x3 : Int32) (hf : f_X6_think_b32 s0 s1 s2 x3 = some r) : zj_J l G M_X6_think W0 (zj_ret G M_X6_think W0 (none) (fun _ => [w_Pl G a0 r, w_Ld G a1 s1, w_Fk G a2 s2])) 0 0 [w_Pl G a0 s0, w_Ld G a1 s1, w_Fk G a2 s2] [some (.ref (a0 0)), some (.ref (a1 0)), some (.ref (a2 0)), some (.int x3), none, none, none, none, none, none, none, none] 32 [] := by
  unfold f_X6_think_b32 at hf
  obtain ⟨q1, e1, hf⟩ := zbi_of hf
  refine zr_run [(.bipush 12, 0, 0, 0, .int (12 : Int32)), (.aload_n 2, 0, 0, 0, .null), (.iload_n 3, 0, 0, 0, .null)] [] (WW' := [w_Pl G a0 s0, w_Ld G a1 s1, w_Fk G a2 s2]) (lv' := [some (.ref (a0 0)), some (.ref (a1 0)), some (.ref (a2 0)), some (.int x3), none, none, none, none, none, none, none, none]) (pc' := 36) (st' := [.int x3, .ref (a2 0), .int (12 : Int32)]) (by decide +kernel) rfl rfl ⟨trivial, trivial, trivial, trivial⟩ ?_
  refine zr_callV (c_X1_daysYet l G a2 s2 x3 q1 e1) (WW' := fun _ => [w_Pl G a0 s0, w_Ld G a1 s1, w_Fk G a2 s2]) (st := [.int (12 : Int32)]) (st' := [.int q1, .int (12 : Int32)]) [2] rfl rfl (fun _ => Nat.le_of_ble_eq_true rfl) (fun _ => rfl) rfl rfl nm_X1_daysYet zw_5_219 zw_4_210 zw_4_211 zw_1_8 zw_4_212 rfl rfl rfl (Nat.le_of_ble_eq_true rfl) ⟨Nat.le_of_ble_eq_true rfl, Nat.le_of_ble_eq_true rfl⟩ (by decide +kernel) (fun _ => ?_)
  refine zr_mmin zw_5_231 zw_3_236 zw_1_24 zw_3_237 (Nat.le_of_ble_eq_true rfl) (Nat.le_of_ble_eq_true rfl) ⟨Nat.le_of_ble_eq_true rfl, Nat.le_of_ble_eq_true rfl⟩ (by decide +kernel) ?_
  obtain ⟨q2, e2, hf⟩ := zbi_of hf
  refine zr_run [(.istore 4, 0, 0, 0, .null), (.sipush 270, 0, 0, 0, .int (270 : Int32)), (.aload_n 2, 0, 0, 0, .null), (.aload_n 1, 0, 0, 0, .null), (.iload_n 3, 0, 0, 0, .null)] [] (WW' := [w_Pl G a0 s0, w_Ld G a1 s1, w_Fk G a2 s2]) (lv' := [some (.ref (a0 0)), some (.ref (a1 0)), some (.ref (a2 0)), some (.int x3), some (.int (zr_mminF (12 : Int32) q1)), none, none, none, none, none, none, none]) (pc' := 50) (st' := [.int x3, .ref (a1 0), .ref (a2 0), .int (270 : Int32)]) (by decide +kernel) rfl rfl ⟨trivial, trivial, trivial, trivial, trivial, trivial⟩ ?_
  refine zr_callV (c_X1_allMiles l G a2 a1 s2 s1 x3 q2 e2) (WW' := fun _ => [w_Pl G a0 s0, w_Ld G a1 s1, w_Fk G a2 s2]) (st := [.int (270 : Int32)]) (st' := [.int q2, .int (270 : Int32)]) [2, 1] rfl rfl (fun _ => Nat.le_of_ble_eq_true rfl) (fun _ => rfl) rfl rfl nm_X1_allMiles zw_5_221 zw_4_28 zw_4_29 zw_1_8 zw_4_30 rfl rfl rfl (Nat.le_of_ble_eq_true rfl) ⟨Nat.le_of_ble_eq_true rfl, Nat.le_of_ble_eq_true rfl⟩ (by decide +kernel) (fun _ => ?_)
  refine zr_mmin zw_5_231 zw_3_236 zw_1_24 zw_3_237 (Nat.le_of_ble_eq_true rfl) (Nat.le_of_ble_eq_true rfl) ⟨Nat.le_of_ble_eq_true rfl, Nat.le_of_ble_eq_true rfl⟩ (by decide +kernel) ?_
  obtain ⟨q3, e3, hf⟩ := zbi_of hf
  refine zr_run [(.istore 5, 0, 0, 0, .null), (.iload 5, 0, 0, 0, .null), (.aload_n 2, 0, 0, 0, .null), (.iload_n 3, 0, 0, 0, .null), (.iconst 5, 0, 0, 0, .int (5 : Int32))] [] (WW' := [w_Pl G a0 s0, w_Ld G a1 s1, w_Fk G a2 s2]) (lv' := [some (.ref (a0 0)), some (.ref (a1 0)), some (.ref (a2 0)), some (.int x3), some (.int (zr_mminF (12 : Int32) q1)), some (.int (zr_mminF (270 : Int32) q2)), none, none, none, none, none, none]) (pc' := 63) (st' := [.int (5 : Int32), .int x3, .ref (a2 0), .int (zr_mminF (270 : Int32) q2)]) (by decide +kernel) rfl rfl ⟨trivial, trivial, trivial, trivial, trivial, trivial⟩ ?_
  refine zr_callV (c_X1_of l G a2 s2 x3 (5 : Int32) q3 e3) (WW' := fun _ => [w_Pl G a0 s0, w_Ld G a1 s1, w_Fk G a2 s2]) (st := [.int (zr_mminF (270 : Int32) q2)]) (st' := [.int q3, .int (zr_mminF (270 : Int32) q2)]) [2] rfl rfl (fun _ => Nat.le_of_ble_eq_true rfl) (fun _ => rfl) rfl rfl nm_X1_of zw_5_220 zw_3_142 zw_3_143 zw_1_8 zw_3_142n rfl rfl rfl (Nat.le_of_ble_eq_true rfl) ⟨Nat.le_of_ble_eq_true rfl, Nat.le_of_ble_eq_true rfl⟩ (by decide +kernel) (fun _ => ?_)
  refine zr_mmin zw_5_231 zw_3_236 zw_1_24 zw_3_237 (Nat.le_of_ble_eq_true rfl) (Nat.le_of_ble_eq_true rfl) ⟨Nat.le_of_ble_eq_true rfl, Nat.le_of_ble_eq_true rfl⟩ (by decide +kernel) ?_
  obtain ⟨q4, e4, hf⟩ := zbi_of hf
  refine zr_run [(.istore 6, 0, 0, 0, .null), (.aload_n 1, 0, 0, 0, .null), (.iload_n 3, 0, 0, 0, .null), (.iconst 1, 0, 0, 0, .int (1 : Int32))] [] (WW' := [w_Pl G a0 s0, w_Ld G a1 s1, w_Fk G a2 s2]) (lv' := [some (.ref (a0 0)), some (.ref (a1 0)), some (.ref (a2 0)), some (.int x3), some (.int (zr_mminF (12 : Int32) q1)), some (.int (zr_mminF (270 : Int32) q2)), some (.int (zr_mminF (zr_mminF (270 : Int32) q2) q3)), none, none, none, none, none]) (pc' := 74) (st' := [.int (1 : Int32), .int x3, .ref (a1 0)]) (by decide +kernel) rfl rfl ⟨trivial, trivial, trivial, trivial, trivial⟩ ?_
  refine zr_callV (c_X3_ofMan l G a1 s1 x3 (1 : Int32) q4 e4) (WW' := fun _ => [w_Pl G a0 s0, w_Ld G a1 s1, w_Fk G a2 s2]) (st := []) (st' := [.int q4]) [1] rfl rfl (fun _ => Nat.le_of_ble_eq_true rfl) (fun _ => rfl) rfl rfl nm_X3_ofMan zw_5_222 zw_3_67 zw_3_68 zw_1_7 zw_3_67n rfl rfl rfl (Nat.le_of_ble_eq_true rfl) ⟨Nat.le_of_ble_eq_true rfl, Nat.le_of_ble_eq_true rfl⟩ (by decide +kernel) (fun _ => ?_)
  obtain ⟨q5, e5, hf⟩ := zbi_of hf
  refine zr_run [(.istore 7, 0, 0, 0, .null), (.aload_n 0, 0, 0, 0, .null), (.aload_n 1, 0, 0, 0, .null), (.aload_n 2, 0, 0, 0, .null), (.iload_n 3, 0, 0, 0, .null)] [] (WW' := [w_Pl G a0 s0, w_Ld G a1 s1, w_Fk G a2 s2]) (lv' := [some (.ref (a0 0)), some (.ref (a1 0)), some (.ref (a2 0)), some (.int x3), some (.int (zr_mminF (12 : Int32) q1)), some (.int (zr_mminF (270 : Int32) q2)), some (.int (zr_mminF (zr_mminF (270 : Int32) q2) q3)), some (.int q4), none, none, none, none]) (pc' := 83) (st' := [.int x3, .ref (a2 0), .ref (a1 0), .ref (a0 0)]) (by decide +kernel) rfl rfl ⟨trivial, trivial, trivial, trivial, trivial, trivial⟩ ?_
  refine zr_callV (c_X6_weighMilestones l G a0 a1 a2 s0 s1 s2 x3 q5 e5) (WW' := fun _ => [w_Pl G a0 q5, w_Ld G a1 s1, w_Fk G a2 s2]) (st := []) (st' := []) [0, 1, 2] rfl rfl (fun _ => Nat.le_of_ble_eq_true rfl) (fun _ => rfl) rfl rfl nm_X6_weighMilestones zw_5_223 zw_5_225 zw_0_43 zw_1_12 zw_5_226 rfl rfl rfl (Nat.le_of_ble_eq_true rfl) ⟨Nat.le_of_ble_eq_true rfl, Nat.le_of_ble_eq_true rfl⟩ (by decide +kernel) (fun _ => ?_)
  refine zr_run [(.lconst 1, 0, 0, 0, .long (1 : Int64)), (.lstore 8, 0, 0, 0, .null), (.iconst 0, 0, 0, 0, .int (0 : Int32)), (.istore 10, 0, 0, 0, .null)] [1] (WW' := [w_Pl G a0 q5, w_Ld G a1 s1, w_Fk G a2 s2]) (lv' := [some (.ref (a0 0)), none, some (.ref (a2 0)), some (.int x3), some (.int (zr_mminF (12 : Int32) q1)), some (.int (zr_mminF (270 : Int32) q2)), some (.int (zr_mminF (zr_mminF (270 : Int32) q2) q3)), some (.int q4), some (.long (1 : Int64)), none, some (.int (0 : Int32)), none]) (pc' := 92) (st' := []) (by decide +kernel) rfl rfl ⟨trivial, trivial, trivial, trivial, trivial⟩ ?_
  exact t_X6_think_L92 l G a0 a1 a2 W0 r s1 s2 zFU q5 x3 (zr_mminF (12 : Int32) q1) (zr_mminF (270 : Int32) q2) (zr_mminF (zr_mminF (270 : Int32) q2) q3) q4 (1 : Int64) (0 : Int32) hf
set_option maxRecDepth 100000 in
set_option maxHeartbeats 4000000 in
theorem c_X6_think (l : Launch) (G : zj_G) (a0 : Nat → Nat) (a1 : Nat → Nat) (a2 : Nat → Nat) (s0 : PlT) (s1 : LdT) (s2 : FkT) (x3 : Int32) (r : PlT) (hf : f_X6_think s0 s1 s2 x3 = some r) : zj_C l G M_X6_think yX6_think [w_Pl G a0 s0, w_Ld G a1 s1, w_Fk G a2 s2] [.ref (a0 0), .ref (a1 0), .ref (a2 0), .int x3] (none) (fun _ => [w_Pl G a0 r, w_Ld G a1 s1, w_Fk G a2 s2]) := by
  have key : ∀ W0 : List va_W, zj_J l G M_X6_think W0 (zj_ret G M_X6_think W0 (none) (fun _ => [w_Pl G a0 r, w_Ld G a1 s1, w_Fk G a2 s2])) 0 0 [w_Pl G a0 s0, w_Ld G a1 s1, w_Fk G a2 s2] [some (.ref (a0 0)), some (.ref (a1 0)), some (.ref (a2 0)), some (.int x3), none, none, none, none, none, none, none, none] 0 [] := by
    intro W0
    unfold f_X6_think at hf
    refine zr_run [(.aload_n 0, 0, 0, 0, .null), (.getfield 25, 0, 0, 4, .null)] [] (WW' := [w_Pl G a0 s0, w_Ld G a1 s1, w_Fk G a2 s2]) (lv' := [some (.ref (a0 0)), some (.ref (a1 0)), some (.ref (a2 0)), some (.int x3), none, none, none, none, none, none, none, none]) (pc' := 4) (st' := [.ref (a0 3)]) (by decide +kernel) rfl rfl ⟨trivial, ⟨rfl, rfl, zw_2_64⟩, trivial⟩ ?_
    refine zr_ifnull (off := 10) (by decide +kernel) ?_
    refine zr_run [(.aload_n 0, 0, 0, 0, .null), (.getfield 22, 0, 0, 3, .null)] [] (WW' := [w_Pl G a0 s0, w_Ld G a1 s1, w_Fk G a2 s2]) (lv' := [some (.ref (a0 0)), some (.ref (a1 0)), some (.ref (a2 0)), some (.int x3), none, none, none, none, none, none, none, none]) (pc' := 11) (st' := [.ref (a0 2)]) (by decide +kernel) rfl rfl ⟨trivial, ⟨rfl, rfl, zw_2_63⟩, trivial⟩ ?_
    refine zr_ifnonnull (off := 21) (tgt := 32) (by decide +kernel) (by decide) ?_
    exact t_X6_think_b32 l G a0 a1 a2 W0 r s0 s1 s2 x3 hf
  exact zj_entry [some (.ref (a0 0)), some (.ref (a1 0)), some (.ref (a2 0)), some (.int x3), none, none, none, none, none, none, none, none] (by decide +kernel) rfl (by decide) (Nat.le_of_ble_eq_true rfl) rfl rfl (key _)
def f_X6_milesOn_P0_b10  (s0 : PlT)   : Option (Int32) := some (-1 : Int32)
def f_X6_milesOn_P0  (s0 : PlT) (x1 : Int32) : Option (Int32) := (if x1 < 0 then f_X6_milesOn_P0_b10 s0 else (if x1 < (12 : Int32) then (if zb_in x1 12 = true then some ((Pl_chosen s0) x1.toNatClampNeg) else none) else f_X6_milesOn_P0_b10 s0))
set_option maxRecDepth 100000 in
set_option maxHeartbeats 4000000 in
theorem t_X6_milesOn_P0_b10 (l : Launch) (G : zj_G) (a0 : Nat → Nat) (W0 : List va_W) (r : Int32) (s0 : PlT)    (hf : f_X6_milesOn_P0_b10 s0 = some r) : zj_J l G M_X6_milesOn W0 (zj_ret G M_X6_milesOn W0 (some (.int r)) (fun _ => [w_P0 G a0 s0])) 0 0 [w_P0 G a0 s0] [none, none] 10 [] := by
  unfold f_X6_milesOn_P0_b10 at hf
  refine zr_run [(.iconst (-1), 0, 0, 0, .int (-1 : Int32))] [] (WW' := [w_P0 G a0 s0]) (lv' := [none, none]) (pc' := 11) (st' := [.int (-1 : Int32)]) (by decide +kernel) rfl rfl ⟨trivial, trivial⟩ ?_
  refine zr_goto (off := 9) (tgt := 20) (by decide +kernel) (by decide) ?_
  obtain rfl := Option.some.inj hf
  exact zr_iret (b0 := fun _ => 0) (by decide +kernel) rfl rfl rfl rfl rfl
set_option maxRecDepth 100000 in
set_option maxHeartbeats 4000000 in
theorem c_X6_milesOn_P0 (l : Launch) (G : zj_G) (a0 : Nat → Nat) (s0 : PlT) (x1 : Int32) (r : Int32) (hf : f_X6_milesOn_P0 s0 x1 = some r) : zj_C l G M_X6_milesOn yX6_milesOn [w_P0 G a0 s0] [.ref (a0 0), .int x1] (some (.int r)) (fun _ => [w_P0 G a0 s0]) := by
  have key : ∀ W0 : List va_W, zj_J l G M_X6_milesOn W0 (zj_ret G M_X6_milesOn W0 (some (.int r)) (fun _ => [w_P0 G a0 s0])) 0 0 [w_P0 G a0 s0] [some (.ref (a0 0)), some (.int x1)] 0 [] := by
    intro W0
    unfold f_X6_milesOn_P0 at hf
    refine zr_run [(.iload_n 1, 0, 0, 0, .null)] [] (WW' := [w_P0 G a0 s0]) (lv' := [some (.ref (a0 0)), some (.int x1)]) (pc' := 1) (st' := [.int x1]) (by decide +kernel) rfl rfl ⟨trivial, trivial⟩ ?_
    refine zr_if_lt (off := 9) (tgt := 10) (by decide +kernel) (by decide) (fun hc => ?_) (fun hc => ?_)
    · have hf := zift hf hc
      refine zr_run [] [0, 1] (WW' := [w_P0 G a0 s0]) (lv' := [none, none]) (pc' := 10) (st' := []) (by decide +kernel) rfl rfl trivial ?_
      exact t_X6_milesOn_P0_b10 l G a0 W0 r s0 hf
    · have hf := ziff hf hc
      refine zr_run [(.iload_n 1, 0, 0, 0, .null), (.bipush 12, 0, 0, 0, .int (12 : Int32))] [] (WW' := [w_P0 G a0 s0]) (lv' := [some (.ref (a0 0)), some (.int x1)]) (pc' := 7) (st' := [.int (12 : Int32), .int x1]) (by decide +kernel) rfl rfl ⟨trivial, trivial, trivial⟩ ?_
      refine zr_icmp_lt (off := 7) (tgt := 14) (by decide +kernel) (by decide) (fun hc => ?_) (fun hc => ?_)
      · have hf := zift hf hc
        obtain ⟨h1, hf⟩ := zck_of hf
        refine zr_run [(.aload_n 0, 0, 0, 0, .null), (.getfield 18, 0, 0, 2, .null), (.iload_n 1, 0, 0, 0, .null), (.iaload, 0, 1, 0, .null)] [] (WW' := [w_P0 G a0 s0]) (lv' := [some (.ref (a0 0)), some (.int x1)]) (pc' := 20) (st' := [.int ((Pl_chosen s0) x1.toNatClampNeg)]) (by decide +kernel) rfl rfl ⟨trivial, ⟨rfl, rfl, zw_2_62⟩, trivial, ⟨rfl, rfl, h1⟩, trivial⟩ ?_
        obtain rfl := Option.some.inj hf
        exact zr_iret (b0 := fun _ => 0) (by decide +kernel) rfl rfl rfl rfl rfl
      · have hf := ziff hf hc
        refine zr_run [] [0, 1] (WW' := [w_P0 G a0 s0]) (lv' := [none, none]) (pc' := 10) (st' := []) (by decide +kernel) rfl rfl trivial ?_
        exact t_X6_milesOn_P0_b10 l G a0 W0 r s0 hf
  exact zj_entry [some (.ref (a0 0)), some (.int x1)] (by decide +kernel) rfl (by decide) (Nat.le_of_ble_eq_true rfl) rfl rfl (key _)
