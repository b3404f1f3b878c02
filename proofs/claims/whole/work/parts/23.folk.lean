def M_X1_copy : zj_M := (RX1, cX1_copy, 2, none, { frames := 1, cells := 0, slots := 0, locals := 60 }, false)
theorem nm_X1_copy : zj_nm yX1_copy 1 := ⟨by decide +kernel, by decide +kernel, by decide +kernel⟩
def f_X1_copy  (s0 : FkT) (s1 : FkT)  : Option (FkT) := (zlet (Fk_s_day s0 (Fk_day s1)) fun y1 => (zlet (Fk_s_row y1 ((va_cpy (Fk_row s1) (Fk_row y1) (0 : Int32).toNatClampNeg (0 : Int32).toNatClampNeg (78 : Int32).toNatClampNeg))) fun y2 => some y2))
set_option maxRecDepth 100000 in
set_option maxHeartbeats 4000000 in
theorem c_X1_copy (l : Launch) (G : zj_G) (a0 : Nat → Nat) (a1 : Nat → Nat) (s0 : FkT) (s1 : FkT)  (r : FkT) (hf : f_X1_copy s0 s1 = some r) : zj_C l G M_X1_copy yX1_copy [w_Fk G a0 s0, w_Fk G a1 s1] [.ref (a0 0), .ref (a1 0)] (none) (fun _ => [w_Fk G a0 r, w_Fk G a1 s1]) := by
  have key : ∀ W0 : List va_W, zj_J l G M_X1_copy W0 (zj_ret G M_X1_copy W0 (none) (fun _ => [w_Fk G a0 r, w_Fk G a1 s1])) 0 0 [w_Fk G a0 s0, w_Fk G a1 s1] [some (.ref (a0 0)), some (.ref (a1 0))] 0 [] := by
    intro W0
    unfold f_X1_copy at hf
    obtain ⟨y1, e1, hf⟩ := zlet_of hf
    refine zr_run [(.aload_n 0, 0, 0, 0, .null), (.aload_n 1, 0, 0, 0, .null), (.getfield 15, 1, 0, 1, .null), (.putfield 15, 0, 0, 1, .null)] [] (WW' := [w_Fk G a0 (Fk_s_day s0 (Fk_day s1)), w_Fk G a1 s1]) (lv' := [some (.ref (a0 0)), some (.ref (a1 0))]) (pc' := 8) (st' := []) (by decide +kernel) rfl rfl ⟨trivial, trivial, ⟨rfl, rfl, zw_1_215⟩, ⟨rfl, rfl, rfl, trivial, rfl, rfl, zw_1_215⟩, trivial⟩ ?_
    refine zr_eq (WW2 := [w_Fk G a0 y1, w_Fk G a1 s1]) (lv2 := [some (.ref (a0 0)), some (.ref (a1 0))]) (st2 := []) (by rw [e1]) rfl rfl ?_
    refine zr_run [(.aload_n 1, 0, 0, 0, .null), (.getfield 11, 1, 0, 0, .null), (.iconst 0, 0, 0, 0, .int (0 : Int32)), (.aload_n 0, 0, 0, 0, .null), (.getfield 11, 0, 0, 0, .null), (.iconst 0, 0, 0, 0, .int (0 : Int32)), (.bipush 78, 0, 0, 0, .int (78 : Int32))] [] (WW' := [w_Fk G a0 y1, w_Fk G a1 s1]) (lv' := [some (.ref (a0 0)), some (.ref (a1 0))]) (pc' := 20) (st' := [.int (78 : Int32), .int (0 : Int32), .ref (a0 1), .int (0 : Int32), .ref (a1 1)]) (by decide +kernel) rfl rfl ⟨trivial, ⟨rfl, rfl, zw_1_214⟩, trivial, trivial, ⟨rfl, rfl, zw_1_214⟩, trivial, trivial, trivial⟩ ?_
    refine zr_copyi (b0 := 1) (c0 := 1) (b1 := 0) (c1 := 1) rfl rfl rfl rfl rfl rfl (by decide) zw_3_181 zw_3_183 zw_3_182 zw_1_23 (Nat.le_of_ble_eq_true rfl) (Nat.le_of_ble_eq_true rfl) (by decide +kernel) ?_
    refine zr_eq (WW2 := [w_Fk G a0 (Fk_s_row y1 ((va_cpy (Fk_row s1) (Fk_row y1) (0 : Int32).toNatClampNeg (0 : Int32).toNatClampNeg (78 : Int32).toNatClampNeg))), w_Fk G a1 s1]) rfl rfl rfl ?_
    obtain ⟨y2, e2, hf⟩ := zlet_of hf
    refine zr_eq (WW2 := [w_Fk G a0 y2, w_Fk G a1 s1]) (lv2 := [some (.ref (a0 0)), some (.ref (a1 0))]) (st2 := []) (by rw [e2]) rfl rfl ?_
    obtain rfl := Option.some.inj hf
    exact zr_vret (b0 := fun _ => 0) (by decide +kernel) rfl rfl rfl rfl rfl
  exact zj_entry [some (.ref (a0 0)), some (.ref (a1 0))] (by decide +kernel) rfl (by decide) (Nat.le_of_ble_eq_true rfl) rfl rfl (key _)
def M_X1_put : zj_M := (RX1, cX1_put, 5, none, { frames := 0, cells := 0, slots := 0, locals := 0 }, false)
theorem nm_X1_put : zj_nm yX1_put 3 := ⟨by decide +kernel, by decide +kernel, by decide +kernel⟩
def f_X1_put  (s0 : FkT) (x1 : Int32) (x2 : Int32) (x3 : Int32) : Option (FkT) := (if ((x1 * (13 : Int32)) + x2) < 0 then some s0 else (if ((x1 * (13 : Int32)) + x2) < (nI 78) then (if zb_in ((x1 * (13 : Int32)) + x2) 78 = true then (zlet (Fk_s_row s0 ((upd (Fk_row s0) ((x1 * (13 : Int32)) + x2).toNatClampNeg x3))) fun y2 => some y2) else none) else some s0))
set_option maxRecDepth 100000 in
set_option maxHeartbeats 4000000 in
theorem c_X1_put (l : Launch) (G : zj_G) (a0 : Nat → Nat) (s0 : FkT) (x1 : Int32) (x2 : Int32) (x3 : Int32) (r : FkT) (hf : f_X1_put s0 x1 x2 x3 = some r) : zj_C l G M_X1_put yX1_put [w_Fk G a0 s0] [.ref (a0 0), .int x1, .int x2, .int x3] (none) (fun _ => [w_Fk G a0 r]) := by
  have key : ∀ W0 : List va_W, zj_J l G M_X1_put W0 (zj_ret G M_X1_put W0 (none) (fun _ => [w_Fk G a0 r])) 0 0 [w_Fk G a0 s0] [some (.ref (a0 0)), some (.int x1), some (.int x2), some (.int x3), none] 0 [] := by
    intro W0
    unfold f_X1_put at hf
    refine zr_run [(.iload_n 1, 0, 0, 0, .null), (.bipush 13, 0, 0, 0, .int (13 : Int32)), (.imul, 0, 0, 0, .null), (.iload_n 2, 0, 0, 0, .null), (.iadd, 0, 0, 0, .null), (.istore 4, 0, 0, 0, .null), (.iload 4, 0, 0, 0, .null)] [] (WW' := [w_Fk G a0 s0]) (lv' := [some (.ref (a0 0)), some (.int x1), some (.int x2), some (.int x3), some (.int ((x1 * (13 : Int32)) + x2))]) (pc' := 10) (st' := [.int ((x1 * (13 : Int32)) + x2)]) (by decide +kernel) rfl rfl ⟨trivial, trivial, trivial, trivial, trivial, trivial, trivial, trivial⟩ ?_
    refine zr_if_lt (off := 21) (tgt := 31) (by decide +kernel) (by decide) (fun hc => ?_) (fun hc => ?_)
    · have hf := zift hf hc
      obtain rfl := Option.some.inj hf
      exact zr_vret (b0 := fun _ => 0) (by decide +kernel) rfl rfl rfl rfl rfl
    · have hf := ziff hf hc
      refine zr_run [(.iload 4, 0, 0, 0, .null), (.aload_n 0, 0, 0, 0, .null), (.getfield 11, 0, 0, 0, .null)] [] (WW' := [w_Fk G a0 s0]) (lv' := [some (.ref (a0 0)), some (.int x1), some (.int x2), some (.int x3), some (.int ((x1 * (13 : Int32)) + x2))]) (pc' := 19) (st' := [.ref (a0 1), .int ((x1 * (13 : Int32)) + x2)]) (by decide +kernel) rfl rfl ⟨trivial, trivial, ⟨rfl, rfl, zw_1_214⟩, trivial⟩ ?_
      refine zr_alenI (b := 0) (c' := 1) rfl rfl rfl (by decide +kernel) ?_
      refine zr_icmp_ge (off := 11) (tgt := 31) (by decide +kernel) (by decide) (fun hc => ?_) (fun hc => ?_)
      · have hf := zift hf hc
        obtain ⟨h1, hf⟩ := zck_of hf
        obtain ⟨y2, e2, hf⟩ := zlet_of hf
        refine zr_run [(.aload_n 0, 0, 0, 0, .null), (.getfield 11, 0, 0, 0, .null), (.iload 4, 0, 0, 0, .null), (.iload_n 3, 0, 0, 0, .null), (.iastore, 0, 1, 0, .null)] [] (WW' := [w_Fk G a0 (Fk_s_row s0 ((upd (Fk_row s0) ((x1 * (13 : Int32)) + x2).toNatClampNeg x3)))]) (lv' := [some (.ref (a0 0)), some (.int x1), some (.int x2), some (.int x3), some (.int ((x1 * (13 : Int32)) + x2))]) (pc' := 31) (st' := []) (by decide +kernel) rfl rfl ⟨trivial, ⟨rfl, rfl, zw_1_214⟩, trivial, trivial, ⟨rfl, rfl, h1⟩, trivial⟩ ?_
        refine zr_eq (WW2 := [w_Fk G a0 y2]) (lv2 := [some (.ref (a0 0)), some (.int x1), some (.int x2), some (.int x3), some (.int ((x1 * (13 : Int32)) + x2))]) (st2 := []) (by rw [e2]) rfl rfl ?_
        obtain rfl := Option.some.inj hf
        exact zr_vret (b0 := fun _ => 0) (by decide +kernel) rfl rfl rfl rfl rfl
      · have hf := ziff hf hc
        obtain rfl := Option.some.inj hf
        exact zr_vret (b0 := fun _ => 0) (by decide +kernel) rfl rfl rfl rfl rfl
  exact zj_entry [some (.ref (a0 0)), some (.int x1), some (.int x2), some (.int x3), none] (by decide +kernel) rfl (by decide) (Nat.le_of_ble_eq_true rfl) rfl rfl (key _)
def M_X1_settle : zj_M := (RX1, cX1_settle, 3, none, { frames := 1, cells := 0, slots := 0, locals := 24 }, false)
theorem nm_X1_settle : zj_nm yX1_settle 1 := ⟨by decide +kernel, by decide +kernel, by decide +kernel⟩
def f_X1_settle_H15  (s0 : FkT) (s1 : LdT) (k15 : FkT → Int32 → Option (FkT)) (x2 : Int32) : Option (FkT) := (if x2 < (Ld_men s1) then ((f_X1_put s0 x2 (0 : Int32) (0 : Int32)).bind fun q3 => ((f_X3_ofMan s1 x2 (2 : Int32)).bind fun q4 => ((f_X1_put q3 x2 (1 : Int32) q4).bind fun q5 => ((f_X1_put q5 x2 (3 : Int32) (-1 : Int32)).bind fun q6 => ((f_X3_ofMan s1 x2 (0 : Int32)).bind fun q7 => ((f_X1_put q6 x2 (4 : Int32) q7).bind fun q8 => ((f_X3_ofMan s1 x2 (0 : Int32)).bind fun q9 => ((f_X1_put q8 x2 (11 : Int32) q9).bind fun q10 => ((f_X3_ofMan s1 x2 (1 : Int32)).bind fun q11 => ((f_X1_put q10 x2 (7 : Int32) q11).bind fun q12 => k15 q12 (x2 + (1 : Int32)))))))))))) else some s0)
def f_X1_settle_L15  (s1 : LdT)  : Nat → FkT → Int32 → Option (FkT)
  | 0 => fun _ _ => none
  | n + 1 => fun s0 x2 => f_X1_settle_H15 s0 s1 (f_X1_settle_L15 s1 n) x2
def f_X1_settle  (s0 : FkT) (s1 : LdT)  : Option (FkT) := (zlet (Fk_s_day s0 (0 : Int32)) fun y1 => (zlet (Fk_s_row y1 ((zr_fill 78 (Fk_row y1) (0 : Int32)))) fun y2 => f_X1_settle_L15 s1 zFU y2 (0 : Int32)))
set_option maxRecDepth 100000 in
set_option maxHeartbeats 4000000 in
theorem t_X1_settle_H15 (l : Launch) (G : zj_G) (a0 : Nat → Nat) (a1 : Nat → Nat) (W0 : List va_W) (r : FkT) (s0 : FkT) (s1 : LdT) (k15 : FkT → Int32 → Option (FkT)) (hk15 : ∀ (s0 : FkT) (x2 : Int32), k15 s0 x2 = some r → zj_J l G M_X1_settle W0 (zj_ret G M_X1_settle W0 (none) (fun _ => [w_Fk G a0 r, w_Ld G a1 s1])) 0 0 [w_Fk G a0 s0, w_Ld G a1 s1] [some (.ref (a0 0)), some (.ref (a1 0)), some (.int x2)] 15 []) (x2 : Int32) (hf : f_X1_settle_H15 s0 s1 k15 x2 = some r) : zj_J l G M_X1_settle W0 (zj_ret G M_X1_settle W0 (none) (fun _ => [w_Fk G a0 r, w_Ld G a1 s1])) 0 0 [w_Fk G a0 s0, w_Ld G a1 s1] [some (.ref (a0 0)), some (.ref (a1 0)), some (.int x2)] 15 [] := by
  unfold f_X1_settle_H15 at hf
  refine zr_run [(.iload_n 2, 0, 0, 0, .null), (.aload_n 1, 0, 0, 0, .null), (.getfield 34, 1, 0, 2, .null)] [] (WW' := [w_Fk G a0 s0, w_Ld G a1 s1]) (lv' := [some (.ref (a0 0)), some (.ref (a1 0)), some (.int x2)]) (pc' := 20) (st' := [.int (Ld_men s1), .int x2]) (by decide +kernel) rfl rfl ⟨trivial, trivial, ⟨rfl, rfl, zw_1_160⟩, trivial⟩ ?_
  refine zr_icmp_ge (off := 73) (tgt := 93) (by decide +kernel) (by decide) (fun hc => ?_) (fun hc => ?_)
  · have hf := zift hf hc
    obtain ⟨q3, e3, hf⟩ := zbi_of hf
    refine zr_run [(.aload_n 0, 0, 0, 0, .null), (.iload_n 2, 0, 0, 0, .null), (.iconst 0, 0, 0, 0, .int (0 : Int32)), (.iconst 0, 0, 0, 0, .int (0 : Int32))] [] (WW' := [w_Fk G a0 s0, w_Ld G a1 s1]) (lv' := [some (.ref (a0 0)), some (.ref (a1 0)), some (.int x2)]) (pc' := 27) (st' := [.int (0 : Int32), .int (0 : Int32), .int x2, .ref (a0 0)]) (by decide +kernel) rfl rfl ⟨trivial, trivial, trivial, trivial, trivial⟩ ?_
    refine zr_callV (c_X1_put l G a0 s0 x2 (0 : Int32) (0 : Int32) q3 e3) (WW' := fun _ => [w_Fk G a0 q3, w_Ld G a1 s1]) (st := []) (st' := []) [0] rfl rfl (fun _ => Nat.le_of_ble_eq_true rfl) (fun _ => rfl) rfl rfl nm_X1_put zw_3_104 zw_3_106 zw_0_10 zw_1_8 zw_3_105 rfl rfl rfl (Nat.le_of_ble_eq_true rfl) ⟨Nat.le_of_ble_eq_true rfl, Nat.le_of_ble_eq_true rfl⟩ (by decide +kernel) (fun _ => ?_)
    obtain ⟨q4, e4, hf⟩ := zbi_of hf
    refine zr_run [(.aload_n 0, 0, 0, 0, .null), (.iload_n 2, 0, 0, 0, .null), (.iconst 1, 0, 0, 0, .int (1 : Int32)), (.aload_n 1, 0, 0, 0, .null), (.iload_n 2, 0, 0, 0, .null), (.iconst 2, 0, 0, 0, .int (2 : Int32))] [] (WW' := [w_Fk G a0 q3, w_Ld G a1 s1]) (lv' := [some (.ref (a0 0)), some (.ref (a1 0)), some (.int x2)]) (pc' := 36) (st' := [.int (2 : Int32), .int x2, .ref (a1 0), .int (1 : Int32), .int x2, .ref (a0 0)]) (by decide +kernel) rfl rfl ⟨trivial, trivial, trivial, trivial, trivial, trivial, trivial⟩ ?_
    refine zr_callV (c_X3_ofMan l G a1 s1 x2 (2 : Int32) q4 e4) (WW' := fun _ => [w_Fk G a0 q3, w_Ld G a1 s1]) (st := [.int (1 : Int32), .int x2, .ref (a0 0)]) (st' := [.int q4, .int (1 : Int32), .int x2, .ref (a0 0)]) [1] rfl rfl (fun _ => Nat.le_of_ble_eq_true rfl) (fun _ => rfl) rfl rfl nm_X3_ofMan zw_3_108 zw_3_67 zw_3_68 zw_1_7 zw_3_67n rfl rfl rfl (Nat.le_of_ble_eq_true rfl) ⟨Nat.le_of_ble_eq_true rfl, Nat.le_of_ble_eq_true rfl⟩ (by decide +kernel) (fun _ => ?_)
    obtain ⟨q5, e5, hf⟩ := zbi_of hf
    refine zr_callV (c_X1_put l G a0 q3 x2 (1 : Int32) q4 q5 e5) (WW' := fun _ => [w_Fk G a0 q5, w_Ld G a1 s1]) (st := []) (st' := []) [0] rfl rfl (fun _ => Nat.le_of_ble_eq_true rfl) (fun _ => rfl) rfl rfl nm_X1_put zw_3_104 zw_3_106 zw_0_10 zw_1_8 zw_3_105 rfl rfl rfl (Nat.le_of_ble_eq_true rfl) ⟨Nat.le_of_ble_eq_true rfl, Nat.le_of_ble_eq_true rfl⟩ (by decide +kernel) (fun _ => ?_)
    obtain ⟨q6, e6, hf⟩ := zbi_of hf
    refine zr_run [(.aload_n 0, 0, 0, 0, .null), (.iload_n 2, 0, 0, 0, .null), (.iconst 3, 0, 0, 0, .int (3 : Int32)), (.iconst (-1), 0, 0, 0, .int (-1 : Int32))] [] (WW' := [w_Fk G a0 q5, w_Ld G a1 s1]) (lv' := [some (.ref (a0 0)), some (.ref (a1 0)), some (.int x2)]) (pc' := 46) (st' := [.int (-1 : Int32), .int (3 : Int32), .int x2, .ref (a0 0)]) (by decide +kernel) rfl rfl ⟨trivial, trivial, trivial, trivial, trivial⟩ ?_
    refine zr_callV (c_X1_put l G a0 q5 x2 (3 : Int32) (-1 : Int32) q6 e6) (WW' := fun _ => [w_Fk G a0 q6, w_Ld G a1 s1]) (st := []) (st' := []) [0] rfl rfl (fun _ => Nat.le_of_ble_eq_true rfl) (fun _ => rfl) rfl rfl nm_X1_put zw_3_104 zw_3_106 zw_0_10 zw_1_8 zw_3_105 rfl rfl rfl (Nat.le_of_ble_eq_true rfl) ⟨Nat.le_of_ble_eq_true rfl, Nat.le_of_ble_eq_true rfl⟩ (by decide +kernel) (fun _ => ?_)
    obtain ⟨q7, e7, hf⟩ := zbi_of hf
    refine zr_run [(.aload_n 0, 0, 0, 0, .null), (.iload_n 2, 0, 0, 0, .null), (.iconst 4, 0, 0, 0, .int (4 : Int32)), (.aload_n 1, 0, 0, 0, .null), (.iload_n 2, 0, 0, 0, .null), (.iconst 0, 0, 0, 0, .int (0 : Int32))] [] (WW' := [w_Fk G a0 q6, w_Ld G a1 s1]) (lv' := [some (.ref (a0 0)), some (.ref (a1 0)), some (.int x2)]) (pc' := 55) (st' := [.int (0 : Int32), .int x2, .ref (a1 0), .int (4 : Int32), .int x2, .ref (a0 0)]) (by decide +kernel) rfl rfl ⟨trivial, trivial, trivial, trivial, trivial, trivial, trivial⟩ ?_
    refine zr_callV (c_X3_ofMan l G a1 s1 x2 (0 : Int32) q7 e7) (WW' := fun _ => [w_Fk G a0 q6, w_Ld G a1 s1]) (st := [.int (4 : Int32), .int x2, .ref (a0 0)]) (st' := [.int q7, .int (4 : Int32), .int x2, .ref (a0 0)]) [1] rfl rfl (fun _ => Nat.le_of_ble_eq_true rfl) (fun _ => rfl) rfl rfl nm_X3_ofMan zw_3_108 zw_3_67 zw_3_68 zw_1_7 zw_3_67n rfl rfl rfl (Nat.le_of_ble_eq_true rfl) ⟨Nat.le_of_ble_eq_true rfl, Nat.le_of_ble_eq_true rfl⟩ (by decide +kernel) (fun _ => ?_)
    obtain ⟨q8, e8, hf⟩ := zbi_of hf
    refine zr_callV (c_X1_put l G a0 q6 x2 (4 : Int32) q7 q8 e8) (WW' := fun _ => [w_Fk G a0 q8, w_Ld G a1 s1]) (st := []) (st' := []) [0] rfl rfl (fun _ => Nat.le_of_ble_eq_true rfl) (fun _ => rfl) rfl rfl nm_X1_put zw_3_104 zw_3_106 zw_0_10 zw_1_8 zw_3_105 rfl rfl rfl (Nat.le_of_ble_eq_true rfl) ⟨Nat.le_of_ble_eq_true rfl, Nat.le_of_ble_eq_true rfl⟩ (by decide +kernel) (fun _ => ?_)
    obtain ⟨q9, e9, hf⟩ := zbi_of hf
    refine zr_run [(.aload_n 0, 0, 0, 0, .null), (.iload_n 2, 0, 0, 0, .null), (.bipush 11, 0, 0, 0, .int (11 : Int32)), (.aload_n 1, 0, 0, 0, .null), (.iload_n 2, 0, 0, 0, .null), (.iconst 0, 0, 0, 0, .int (0 : Int32))] [] (WW' := [w_Fk G a0 q8, w_Ld G a1 s1]) (lv' := [some (.ref (a0 0)), some (.ref (a1 0)), some (.int x2)]) (pc' := 68) (st' := [.int (0 : Int32), .int x2, .ref (a1 0), .int (11 : Int32), .int x2, .ref (a0 0)]) (by decide +kernel) rfl rfl ⟨trivial, trivial, trivial, trivial, trivial, trivial, trivial⟩ ?_
    refine zr_callV (c_X3_ofMan l G a1 s1 x2 (0 : Int32) q9 e9) (WW' := fun _ => [w_Fk G a0 q8, w_Ld G a1 s1]) (st := [.int (11 : Int32), .int x2, .ref (a0 0)]) (st' := [.int q9, .int (11 : Int32), .int x2, .ref (a0 0)]) [1] rfl rfl (fun _ => Nat.le_of_ble_eq_true rfl) (fun _ => rfl) rfl rfl nm_X3_ofMan zw_3_108 zw_3_67 zw_3_68 zw_1_7 zw_3_67n rfl rfl rfl (Nat.le_of_ble_eq_true rfl) ⟨Nat.le_of_ble_eq_true rfl, Nat.le_of_ble_eq_true rfl⟩ (by decide +kernel) (fun _ => ?_)
    obtain ⟨q10, e10, hf⟩ := zbi_of hf
    refine zr_callV (c_X1_put l G a0 q8 x2 (11 : Int32) q9 q10 e10) (WW' := fun _ => [w_Fk G a0 q10, w_Ld G a1 s1]) (st := []) (st' := []) [0] rfl rfl (fun _ => Nat.le_of_ble_eq_true rfl) (fun _ => rfl) rfl rfl nm_X1_put zw_3_104 zw_3_106 zw_0_10 zw_1_8 zw_3_105 rfl rfl rfl (Nat.le_of_ble_eq_true rfl) ⟨Nat.le_of_ble_eq_true rfl, Nat.le_of_ble_eq_true rfl⟩ (by decide +kernel) (fun _ => ?_)
    obtain ⟨q11, e11, hf⟩ := zbi_of hf
    refine zr_run [(.aload_n 0, 0, 0, 0, .null), (.iload_n 2, 0, 0, 0, .null), (.bipush 7, 0, 0, 0, .int (7 : Int32)), (.aload_n 1, 0, 0, 0, .null), (.iload_n 2, 0, 0, 0, .null), (.iconst 1, 0, 0, 0, .int (1 : Int32))] [] (WW' := [w_Fk G a0 q10, w_Ld G a1 s1]) (lv' := [some (.ref (a0 0)), some (.ref (a1 0)), some (.int x2)]) (pc' := 81) (st' := [.int (1 : Int32), .int x2, .ref (a1 0), .int (7 : Int32), .int x2, .ref (a0 0)]) (by decide +kernel) rfl rfl ⟨trivial, trivial, trivial, trivial, trivial, trivial, trivial⟩ ?_
    refine zr_callV (c_X3_ofMan l G a1 s1 x2 (1 : Int32) q11 e11) (WW' := fun _ => [w_Fk G a0 q10, w_Ld G a1 s1]) (st := [.int (7 : Int32), .int x2, .ref (a0 0)]) (st' := [.int q11, .int (7 : Int32), .int x2, .ref (a0 0)]) [1] rfl rfl (fun _ => Nat.le_of_ble_eq_true rfl) (fun _ => rfl) rfl rfl nm_X3_ofMan zw_3_108 zw_3_67 zw_3_68 zw_1_7 zw_3_67n rfl rfl rfl (Nat.le_of_ble_eq_true rfl) ⟨Nat.le_of_ble_eq_true rfl, Nat.le_of_ble_eq_true rfl⟩ (by decide +kernel) (fun _ => ?_)
    obtain ⟨q12, e12, hf⟩ := zbi_of hf
    refine zr_callV (c_X1_put l G a0 q10 x2 (7 : Int32) q11 q12 e12) (WW' := fun _ => [w_Fk G a0 q12, w_Ld G a1 s1]) (st := []) (st' := []) [0] rfl rfl (fun _ => Nat.le_of_ble_eq_true rfl) (fun _ => rfl) rfl rfl nm_X1_put zw_3_104 zw_3_106 zw_0_10 zw_1_8 zw_3_105 rfl rfl rfl (Nat.le_of_ble_eq_true rfl) ⟨Nat.le_of_ble_eq_true rfl, Nat.le_of_ble_eq_true rfl⟩ (by decide +kernel) (fun _ => ?_)
    refine zr_run [(.iinc 2 1, 0, 0, 0, .int (1 : Int32))] [] (WW' := [w_Fk G a0 q12, w_Ld G a1 s1]) (lv' := [some (.ref (a0 0)), some (.ref (a1 0)), some (.int (x2 + (1 : Int32)))]) (pc' := 90) (st' := []) (by decide +kernel) rfl rfl ⟨trivial, trivial⟩ ?_
    refine zr_goto (off := -75) (tgt := 15) (by decide +kernel) (by decide) ?_
    exact hk15 q12 (x2 + (1 : Int32)) hf
  · have hf := ziff hf hc
    obtain rfl := Option.some.inj hf
    exact zr_vret (b0 := fun _ => 0) (by decide +kernel) rfl rfl rfl rfl rfl
theorem t_X1_settle_L15 (l : Launch) (G : zj_G) (a0 : Nat → Nat) (a1 : Nat → Nat) (W0 : List va_W) (r : FkT) (s1 : LdT)   : ∀ (n : Nat) (s0 : FkT) (x2 : Int32), f_X1_settle_L15 s1 n s0 x2 = some r → zj_J l G M_X1_settle W0 (zj_ret G M_X1_settle W0 (none) (fun _ => [w_Fk G a0 r, w_Ld G a1 s1])) 0 0 [w_Fk G a0 s0, w_Ld G a1 s1] [some (.ref (a0 0)), some (.ref (a1 0)), some (.int x2)] 15 [] := by
  intro n
  induction n with
  | zero => intro s0 x2 hf; exact nomatch (show none = some r from hf)
  | succ n ih => intro s0 x2 hf; exact t_X1_settle_H15 l G a0 a1 W0 r s0 s1  (f_X1_settle_L15 s1 n)  ih x2  hf
set_option maxRecDepth 100000 in
set_option maxHeartbeats 4000000 in
theorem c_X1_settle (l : Launch) (G : zj_G) (a0 : Nat → Nat) (a1 : Nat → Nat) (s0 : FkT) (s1 : LdT)  (r : FkT) (hf : f_X1_settle s0 s1 = some r) : zj_C l G M_X1_settle yX1_settle [w_Fk G a0 s0, w_Ld G a1 s1] [.ref (a0 0), .ref (a1 0)] (none) (fun _ => [w_Fk G a0 r, w_Ld G a1 s1]) := by
  have key : ∀ W0 : List va_W, zj_J l G M_X1_settle W0 (zj_ret G M_X1_settle W0 (none) (fun _ => [w_Fk G a0 r, w_Ld G a1 s1])) 0 0 [w_Fk G a0 s0, w_Ld G a1 s1] [some (.ref (a0 0)), some (.ref (a1 0)), none] 0 [] := by
    intro W0
    unfold f_X1_settle at hf
    obtain ⟨y1, e1, hf⟩ := zlet_of hf
    refine zr_run [(.aload_n 0, 0, 0, 0, .null), (.iconst 0, 0, 0, 0, .int (0 : Int32)), (.putfield 15, 0, 0, 1, .null)] [] (WW' := [w_Fk G a0 (Fk_s_day s0 (0 : Int32)), w_Ld G a1 s1]) (lv' := [some (.ref (a0 0)), some (.ref (a1 0)), none]) (pc' := 5) (st' := []) (by decide +kernel) rfl rfl ⟨trivial, trivial, ⟨rfl, rfl, rfl, trivial, rfl, rfl, zw_1_215⟩, trivial⟩ ?_
    refine zr_eq (WW2 := [w_Fk G a0 y1, w_Ld G a1 s1]) (lv2 := [some (.ref (a0 0)), some (.ref (a1 0)), none]) (st2 := []) (by rw [e1]) rfl rfl ?_
    refine zr_run [(.aload_n 0, 0, 0, 0, .null), (.getfield 11, 0, 0, 0, .null), (.iconst 0, 0, 0, 0, .int (0 : Int32))] [] (WW' := [w_Fk G a0 y1, w_Ld G a1 s1]) (lv' := [some (.ref (a0 0)), some (.ref (a1 0)), none]) (pc' := 10) (st' := [.int (0 : Int32), .ref (a0 1)]) (by decide +kernel) rfl rfl ⟨trivial, ⟨rfl, rfl, zw_1_214⟩, trivial, trivial⟩ ?_
    refine zr_fillI (b := 0) (c' := 1) rfl rfl rfl (Nat.le_of_ble_eq_true rfl) zw_3_103 zw_2_56 zw_1_13 zw_2_57 rfl (Nat.le_of_ble_eq_true rfl) ⟨Nat.le_of_ble_eq_true rfl, Nat.le_of_ble_eq_true rfl⟩ (by decide +kernel) ?_
    refine zr_eq (WW2 := [w_Fk G a0 (Fk_s_row y1 ((zr_fill 78 (Fk_row y1) (0 : Int32)))), w_Ld G a1 s1]) rfl rfl rfl ?_
    obtain ⟨y2, e2, hf⟩ := zlet_of hf
    refine zr_eq (WW2 := [w_Fk G a0 y2, w_Ld G a1 s1]) (lv2 := [some (.ref (a0 0)), some (.ref (a1 0)), none]) (st2 := []) (by rw [e2]) rfl rfl ?_
    refine zr_run [(.iconst 0, 0, 0, 0, .int (0 : Int32)), (.istore_n 2, 0, 0, 0, .null)] [] (WW' := [w_Fk G a0 y2, w_Ld G a1 s1]) (lv' := [some (.ref (a0 0)), some (.ref (a1 0)), some (.int (0 : Int32))]) (pc' := 15) (st' := []) (by decide +kernel) rfl rfl ⟨trivial, trivial, trivial⟩ ?_
    exact t_X1_settle_L15 l G a0 a1 W0 r s1 zFU y2 (0 : Int32) hf
  exact zj_entry [some (.ref (a0 0)), some (.ref (a1 0)), none] (by decide +kernel) rfl (by decide) (Nat.le_of_ble_eq_true rfl) rfl rfl (key _)
def M_X1_today : zj_M := (RX1, cX1_today, 1, (some .int), { frames := 0, cells := 0, slots := 0, locals := 0 }, false)
theorem nm_X1_today : zj_nm yX1_today 0 := ⟨by decide +kernel, by decide +kernel, by decide +kernel⟩
def f_X1_today  (s0 : FkT)  : Option (Int32) := some (Fk_day s0)
set_option maxRecDepth 100000 in
set_option maxHeartbeats 4000000 in
theorem c_X1_today (l : Launch) (G : zj_G) (a0 : Nat → Nat) (s0 : FkT)  (r : Int32) (hf : f_X1_today s0 = some r) : zj_C l G M_X1_today yX1_today [w_Fk G a0 s0] [.ref (a0 0)] (some (.int r)) (fun _ => [w_Fk G a0 s0]) := by
  have key : ∀ W0 : List va_W, zj_J l G M_X1_today W0 (zj_ret G M_X1_today W0 (some (.int r)) (fun _ => [w_Fk G a0 s0])) 0 0 [w_Fk G a0 s0] [some (.ref (a0 0))] 0 [] := by
    intro W0
    unfold f_X1_today at hf
    refine zr_run [(.aload_n 0, 0, 0, 0, .null), (.getfield 15, 0, 0, 1, .null)] [] (WW' := [w_Fk G a0 s0]) (lv' := [some (.ref (a0 0))]) (pc' := 4) (st' := [.int (Fk_day s0)]) (by decide +kernel) rfl rfl ⟨trivial, ⟨rfl, rfl, zw_1_215⟩, trivial⟩ ?_
    obtain rfl := Option.some.inj hf
    exact zr_iret (b0 := fun _ => 0) (by decide +kernel) rfl rfl rfl rfl rfl
  exact zj_entry [some (.ref (a0 0))] (by decide +kernel) rfl (by decide) (Nat.le_of_ble_eq_true rfl) rfl rfl (key _)
def M_X1_of : zj_M := (RX1, cX1_of, 4, (some .int), { frames := 0, cells := 0, slots := 0, locals := 0 }, false)
theorem nm_X1_of : zj_nm yX1_of 2 := ⟨by decide +kernel, by decide +kernel, by decide +kernel⟩
def f_X1_of_b20  (s0 : FkT)   : Option (Int32) := some (-1 : Int32)
def f_X1_of  (s0 : FkT) (x1 : Int32) (x2 : Int32) : Option (Int32) := (if ((x1 * (13 : Int32)) + x2) < 0 then f_X1_of_b20 s0 else (if ((x1 * (13 : Int32)) + x2) < (nI 78) then (if zb_in ((x1 * (13 : Int32)) + x2) 78 = true then some ((Fk_row s0) ((x1 * (13 : Int32)) + x2).toNatClampNeg) else none) else f_X1_of_b20 s0))
set_option maxRecDepth 100000 in
set_option maxHeartbeats 4000000 in
theorem t_X1_of_b20 (l : Launch) (G : zj_G) (a0 : Nat → Nat) (W0 : List va_W) (r : Int32) (s0 : FkT)    (hf : f_X1_of_b20 s0 = some r) : zj_J l G M_X1_of W0 (zj_ret G M_X1_of W0 (some (.int r)) (fun _ => [w_Fk G a0 s0])) 0 0 [w_Fk G a0 s0] [none, none, none, none] 20 [] := by
  unfold f_X1_of_b20 at hf
  refine zr_run [(.iconst (-1), 0, 0, 0, .int (-1 : Int32))] [] (WW' := [w_Fk G a0 s0]) (lv' := [none, none, none, none]) (pc' := 21) (st' := [.int (-1 : Int32)]) (by decide +kernel) rfl rfl ⟨trivial, trivial⟩ ?_
  refine zr_goto (off := 9) (tgt := 30) (by decide +kernel) (by decide) ?_
  obtain rfl := Option.some.inj hf
  exact zr_iret (b0 := fun _ => 0) (by decide +kernel) rfl rfl rfl rfl rfl
set_option maxRecDepth 100000 in
set_option maxHeartbeats 4000000 in
theorem c_X1_of (l : Launch) (G : zj_G) (a0 : Nat → Nat) (s0 : FkT) (x1 : Int32) (x2 : Int32) (r : Int32) (hf : f_X1_of s0 x1 x2 = some r) : zj_C l G M_X1_of yX1_of [w_Fk G a0 s0] [.ref (a0 0), .int x1, .int x2] (some (.int r)) (fun _ => [w_Fk G a0 s0]) := by
  have key : ∀ W0 : List va_W, zj_J l G M_X1_of W0 (zj_ret G M_X1_of W0 (some (.int r)) (fun _ => [w_Fk G a0 s0])) 0 0 [w_Fk G a0 s0] [some (.ref (a0 0)), some (.int x1), some (.int x2), none] 0 [] := by
    intro W0
    unfold f_X1_of at hf
    refine zr_run [(.iload_n 1, 0, 0, 0, .null), (.bipush 13, 0, 0, 0, .int (13 : Int32)), (.imul, 0, 0, 0, .null), (.iload_n 2, 0, 0, 0, .null), (.iadd, 0, 0, 0, .null), (.istore_n 3, 0, 0, 0, .null), (.iload_n 3, 0, 0, 0, .null)] [] (WW' := [w_Fk G a0 s0]) (lv' := [some (.ref (a0 0)), some (.int x1), some (.int x2), some (.int ((x1 * (13 : Int32)) + x2))]) (pc' := 8) (st' := [.int ((x1 * (13 : Int32)) + x2)]) (by decide +kernel) rfl rfl ⟨trivial, trivial, trivial, trivial, trivial, trivial, trivial, trivial⟩ ?_
    refine zr_if_lt (off := 12) (tgt := 20) (by decide +kernel) (by decide) (fun hc => ?_) (fun hc => ?_)
    · have hf := zift hf hc
      refine zr_run [] [0, 1, 2, 3] (WW' := [w_Fk G a0 s0]) (lv' := [none, none, none, none]) (pc' := 20) (st' := []) (by decide +kernel) rfl rfl trivial ?_
      exact t_X1_of_b20 l G a0 W0 r s0 hf
    · have hf := ziff hf hc
      refine zr_run [(.iload_n 3, 0, 0, 0, .null), (.aload_n 0, 0, 0, 0, .null), (.getfield 11, 0, 0, 0, .null)] [] (WW' := [w_Fk G a0 s0]) (lv' := [some (.ref (a0 0)), some (.int x1), some (.int x2), some (.int ((x1 * (13 : Int32)) + x2))]) (pc' := 16) (st' := [.ref (a0 1), .int ((x1 * (13 : Int32)) + x2)]) (by decide +kernel) rfl rfl ⟨trivial, trivial, ⟨rfl, rfl, zw_1_214⟩, trivial⟩ ?_
      refine zr_alenI (b := 0) (c' := 1) rfl rfl rfl (by decide +kernel) ?_
      refine zr_icmp_lt (off := 7) (tgt := 24) (by decide +kernel) (by decide) (fun hc => ?_) (fun hc => ?_)
      · have hf := zift hf hc
        obtain ⟨h1, hf⟩ := zck_of hf
        refine zr_run [(.aload_n 0, 0, 0, 0, .null), (.getfield 11, 0, 0, 0, .null), (.iload_n 3, 0, 0, 0, .null), (.iaload, 0, 1, 0, .null)] [] (WW' := [w_Fk G a0 s0]) (lv' := [some (.ref (a0 0)), some (.int x1), some (.int x2), some (.int ((x1 * (13 : Int32)) + x2))]) (pc' := 30) (st' := [.int ((Fk_row s0) ((x1 * (13 : Int32)) + x2).toNatClampNeg)]) (by decide +kernel) rfl rfl ⟨trivial, ⟨rfl, rfl, zw_1_214⟩, trivial, ⟨rfl, rfl, h1⟩, trivial⟩ ?_
        obtain rfl := Option.some.inj hf
        exact zr_iret (b0 := fun _ => 0) (by decide +kernel) rfl rfl rfl rfl rfl
      · have hf := ziff hf hc
        refine zr_run [] [0, 1, 2, 3] (WW' := [w_Fk G a0 s0]) (lv' := [none, none, none, none]) (pc' := 20) (st' := []) (by decide +kernel) rfl rfl trivial ?_
        exact t_X1_of_b20 l G a0 W0 r s0 hf
  exact zj_entry [some (.ref (a0 0)), some (.int x1), some (.int x2), none] (by decide +kernel) rfl (by decide) (Nat.le_of_ble_eq_true rfl) rfl rfl (key _)
def M_X1_more : zj_M := (RX1, cX1_more, 5, none, { frames := 0, cells := 0, slots := 0, locals := 0 }, false)
theorem nm_X1_more : zj_nm yX1_more 3 := ⟨by decide +kernel, by decide +kernel, by decide +kernel⟩
def f_X1_more  (s0 : FkT) (x1 : Int32) (x2 : Int32) (x3 : Int32) : Option (FkT) := (if ((x1 * (13 : Int32)) + x2) < 0 then some s0 else (if ((x1 * (13 : Int32)) + x2) < (nI 78) then (if zb_in ((x1 * (13 : Int32)) + x2) 78 = true then (zlet (((Fk_row s0) ((x1 * (13 : Int32)) + x2).toNatClampNeg) + x3) fun y2 => (if zb_in ((x1 * (13 : Int32)) + x2) 78 = true then (zlet (Fk_s_row s0 ((upd (Fk_row s0) ((x1 * (13 : Int32)) + x2).toNatClampNeg y2))) fun y4 => some y4) else none)) else none) else some s0))
set_option maxRecDepth 100000 in
set_option maxHeartbeats 4000000 in
theorem c_X1_more (l : Launch) (G : zj_G) (a0 : Nat → Nat) (s0 : FkT) (x1 : Int32) (x2 : Int32) (x3 : Int32) (r : FkT) (hf : f_X1_more s0 x1 x2 x3 = some r) : zj_C l G M_X1_more yX1_more [w_Fk G a0 s0] [.ref (a0 0), .int x1, .int x2, .int x3] (none) (fun _ => [w_Fk G a0 r]) := by
  have key : ∀ W0 : List va_W, zj_J l G M_X1_more W0 (zj_ret G M_X1_more W0 (none) (fun _ => [w_Fk G a0 r])) 0 0 [w_Fk G a0 s0] [some (.ref (a0 0)), some (.int x1), some (.int x2), some (.int x3), none] 0 [] := by
    intro W0
    unfold f_X1_more at hf
    refine zr_run [(.iload_n 1, 0, 0, 0, .null), (.bipush 13, 0, 0, 0, .int (13 : Int32)), (.imul, 0, 0, 0, .null), (.iload_n 2, 0, 0, 0, .null), (.iadd, 0, 0, 0, .null), (.istore 4, 0, 0, 0, .null), (.iload 4, 0, 0, 0, .null)] [] (WW' := [w_Fk G a0 s0]) (lv' := [some (.ref (a0 0)), some (.int x1), some (.int x2), some (.int x3), some (.int ((x1 * (13 : Int32)) + x2))]) (pc' := 10) (st' := [.int ((x1 * (13 : Int32)) + x2)]) (by decide +kernel) rfl rfl ⟨trivial, trivial, trivial, trivial, trivial, trivial, trivial, trivial⟩ ?_
    refine zr_if_lt (off := 24) (tgt := 34) (by decide +kernel) (by decide) (fun hc => ?_) (fun hc => ?_)
    · have hf := zift hf hc
      obtain rfl := Option.some.inj hf
      exact zr_vret (b0 := fun _ => 0) (by decide +kernel) rfl rfl rfl rfl rfl
    · have hf := ziff hf hc
      refine zr_run [(.iload 4, 0, 0, 0, .null), (.aload_n 0, 0, 0, 0, .null), (.getfield 11, 0, 0, 0, .null)] [] (WW' := [w_Fk G a0 s0]) (lv' := [some (.ref (a0 0)), some (.int x1), some (.int x2), some (.int x3), some (.int ((x1 * (13 : Int32)) + x2))]) (pc' := 19) (st' := [.ref (a0 1), .int ((x1 * (13 : Int32)) + x2)]) (by decide +kernel) rfl rfl ⟨trivial, trivial, ⟨rfl, rfl, zw_1_214⟩, trivial⟩ ?_
      refine zr_alenI (b := 0) (c' := 1) rfl rfl rfl (by decide +kernel) ?_
      refine zr_icmp_ge (off := 14) (tgt := 34) (by decide +kernel) (by decide) (fun hc => ?_) (fun hc => ?_)
      · have hf := zift hf hc
        obtain ⟨h1, hf⟩ := zck_of hf
        obtain ⟨y2, e2, hf⟩ := zlet_of hf
        refine zr_run [(.aload_n 0, 0, 0, 0, .null), (.getfield 11, 0, 0, 0, .null), (.iload 4, 0, 0, 0, .null), (.dup2, 0, 0, 0, .null), (.iaload, 0, 1, 0, .null), (.iload_n 3, 0, 0, 0, .null), (.iadd, 0, 0, 0, .null)] [] (WW' := [w_Fk G a0 s0]) (lv' := [some (.ref (a0 0)), some (.int x1), some (.int x2), some (.int x3), some (.int ((x1 * (13 : Int32)) + x2))]) (pc' := 33) (st' := [.int (((Fk_row s0) ((x1 * (13 : Int32)) + x2).toNatClampNeg) + x3), .int ((x1 * (13 : Int32)) + x2), .ref (a0 1)]) (by decide +kernel) rfl rfl ⟨trivial, ⟨rfl, rfl, zw_1_214⟩, trivial, trivial, ⟨rfl, rfl, h1⟩, trivial, trivial, trivial⟩ ?_
        refine zr_eq (WW2 := [w_Fk G a0 s0]) (lv2 := [some (.ref (a0 0)), some (.int x1), some (.int x2), some (.int x3), some (.int ((x1 * (13 : Int32)) + x2))]) (st2 := [.int y2, .int ((x1 * (13 : Int32)) + x2), .ref (a0 1)]) rfl rfl (by rw [e2]) ?_
        obtain ⟨h3, hf⟩ := zck_of hf
        obtain ⟨y4, e4, hf⟩ := zlet_of hf
        refine zr_run [(.iastore, 0, 1, 0, .null)] [] (WW' := [w_Fk G a0 (Fk_s_row s0 ((upd (Fk_row s0) ((x1 * (13 : Int32)) + x2).toNatClampNeg y2)))]) (lv' := [some (.ref (a0 0)), some (.int x1), some (.int x2), some (.int x3), some (.int ((x1 * (13 : Int32)) + x2))]) (pc' := 34) (st' := []) (by decide +kernel) rfl rfl ⟨⟨rfl, rfl, h3⟩, trivial⟩ ?_
        refine zr_eq (WW2 := [w_Fk G a0 y4]) (lv2 := [some (.ref (a0 0)), some (.int x1), some (.int x2), some (.int x3), some (.int ((x1 * (13 : Int32)) + x2))]) (st2 := []) (by rw [e4]) rfl rfl ?_
        obtain rfl := Option.some.inj hf
        exact zr_vret (b0 := fun _ => 0) (by decide +kernel) rfl rfl rfl rfl rfl
      · have hf := ziff hf hc
        obtain rfl := Option.some.inj hf
        exact zr_vret (b0 := fun _ => 0) (by decide +kernel) rfl rfl rfl rfl rfl
  exact zj_entry [some (.ref (a0 0)), some (.int x1), some (.int x2), some (.int x3), none] (by decide +kernel) rfl (by decide) (Nat.le_of_ble_eq_true rfl) rfl rfl (key _)
def M_X1_allMiles : zj_M := (RX1, cX1_allMiles, 3, (some .int), { frames := 1, cells := 0, slots := 0, locals := 23 }, false)
theorem nm_X1_allMiles : zj_nm yX1_allMiles 2 := ⟨by decide +kernel, by decide +kernel, by decide +kernel⟩
def f_X1_allMiles  (s0 : FkT) (s1 : LdT) (x2 : Int32) : Option (Int32) := ((f_X1_of s0 x2 (0 : Int32)).bind fun q1 => (if q1 = 0 then some (0 : Int32) else ((f_X1_of s0 x2 (4 : Int32)).bind fun q2 => ((f_X1_of s0 x2 (3 : Int32)).bind fun q3 => ((f_X3_milesBetween s1 q2 q3).bind fun q4 => some q4)))))
set_option maxRecDepth 100000 in
set_option maxHeartbeats 4000000 in
theorem c_X1_allMiles (l : Launch) (G : zj_G) (a0 : Nat → Nat) (a1 : Nat → Nat) (s0 : FkT) (s1 : LdT) (x2 : Int32) (r : Int32) (hf : f_X1_allMiles s0 s1 x2 = some r) : zj_C l G M_X1_allMiles yX1_allMiles [w_Fk G a0 s0, w_Ld G a1 s1] [.ref (a0 0), .ref (a1 0), .int x2] (some (.int r)) (fun _ => [w_Fk G a0 s0, w_Ld G a1 s1]) := by
  have key : ∀ W0 : List va_W, zj_J l G M_X1_allMiles W0 (zj_ret G M_X1_allMiles W0 (some (.int r)) (fun _ => [w_Fk G a0 s0, w_Ld G a1 s1])) 0 0 [w_Fk G a0 s0, w_Ld G a1 s1] [some (.ref (a0 0)), some (.ref (a1 0)), some (.int x2)] 0 [] := by
    intro W0
    unfold f_X1_allMiles at hf
    obtain ⟨q1, e1, hf⟩ := zbi_of hf
    refine zr_run [(.aload_n 0, 0, 0, 0, .null), (.iload_n 2, 0, 0, 0, .null), (.iconst 0, 0, 0, 0, .int (0 : Int32))] [] (WW' := [w_Fk G a0 s0, w_Ld G a1 s1]) (lv' := [some (.ref (a0 0)), some (.ref (a1 0)), some (.int x2)]) (pc' := 3) (st' := [.int (0 : Int32), .int x2, .ref (a0 0)]) (by decide +kernel) rfl rfl ⟨trivial, trivial, trivial, trivial⟩ ?_
    refine zr_callV (c_X1_of l G a0 s0 x2 (0 : Int32) q1 e1) (WW' := fun _ => [w_Fk G a0 s0, w_Ld G a1 s1]) (st := []) (st' := [.int q1]) [0] rfl rfl (fun _ => Nat.le_of_ble_eq_true rfl) (fun _ => rfl) rfl rfl nm_X1_of zw_3_141 zw_3_142 zw_3_143 zw_1_8 zw_3_142n rfl rfl rfl (Nat.le_of_ble_eq_true rfl) ⟨Nat.le_of_ble_eq_true rfl, Nat.le_of_ble_eq_true rfl⟩ (by decide +kernel) (fun _ => ?_)
    refine zr_if_ne (off := 7) (tgt := 13) (by decide +kernel) (by decide) (fun hc => ?_) (fun hc => ?_)
    · have hf := zift hf hc
      refine zr_run [(.iconst 0, 0, 0, 0, .int (0 : Int32))] [] (WW' := [w_Fk G a0 s0, w_Ld G a1 s1]) (lv' := [some (.ref (a0 0)), some (.ref (a1 0)), some (.int x2)]) (pc' := 10) (st' := [.int (0 : Int32)]) (by decide +kernel) rfl rfl ⟨trivial, trivial⟩ ?_
      refine zr_goto (off := 19) (tgt := 29) (by decide +kernel) (by decide) ?_
      obtain rfl := Option.some.inj hf
      exact zr_iret (b0 := fun _ => 0) (by decide +kernel) rfl rfl rfl rfl rfl
    · have hf := ziff hf hc
      obtain ⟨q2, e2, hf⟩ := zbi_of hf
      refine zr_run [(.aload_n 1, 0, 0, 0, .null), (.aload_n 0, 0, 0, 0, .null), (.iload_n 2, 0, 0, 0, .null), (.iconst 4, 0, 0, 0, .int (4 : Int32))] [] (WW' := [w_Fk G a0 s0, w_Ld G a1 s1]) (lv' := [some (.ref (a0 0)), some (.ref (a1 0)), some (.int x2)]) (pc' := 17) (st' := [.int (4 : Int32), .int x2, .ref (a0 0), .ref (a1 0)]) (by decide +kernel) rfl rfl ⟨trivial, trivial, trivial, trivial, trivial⟩ ?_
      refine zr_callV (c_X1_of l G a0 s0 x2 (4 : Int32) q2 e2) (WW' := fun _ => [w_Fk G a0 s0, w_Ld G a1 s1]) (st := [.ref (a1 0)]) (st' := [.int q2, .ref (a1 0)]) [0] rfl rfl (fun _ => Nat.le_of_ble_eq_true rfl) (fun _ => rfl) rfl rfl nm_X1_of zw_3_141 zw_3_142 zw_3_143 zw_1_8 zw_3_142n rfl rfl rfl (Nat.le_of_ble_eq_true rfl) ⟨Nat.le_of_ble_eq_true rfl, Nat.le_of_ble_eq_true rfl⟩ (by decide +kernel) (fun _ => ?_)
      obtain ⟨q3, e3, hf⟩ := zbi_of hf
      refine zr_run [(.aload_n 0, 0, 0, 0, .null), (.iload_n 2, 0, 0, 0, .null), (.iconst 3, 0, 0, 0, .int (3 : Int32))] [] (WW' := [w_Fk G a0 s0, w_Ld G a1 s1]) (lv' := [some (.ref (a0 0)), some (.ref (a1 0)), some (.int x2)]) (pc' := 23) (st' := [.int (3 : Int32), .int x2, .ref (a0 0), .int q2, .ref (a1 0)]) (by decide +kernel) rfl rfl ⟨trivial, trivial, trivial, trivial⟩ ?_
      refine zr_callV (c_X1_of l G a0 s0 x2 (3 : Int32) q3 e3) (WW' := fun _ => [w_Fk G a0 s0, w_Ld G a1 s1]) (st := [.int q2, .ref (a1 0)]) (st' := [.int q3, .int q2, .ref (a1 0)]) [0] rfl rfl (fun _ => Nat.le_of_ble_eq_true rfl) (fun _ => rfl) rfl rfl nm_X1_of zw_3_141 zw_3_142 zw_3_143 zw_1_8 zw_3_142n rfl rfl rfl (Nat.le_of_ble_eq_true rfl) ⟨Nat.le_of_ble_eq_true rfl, Nat.le_of_ble_eq_true rfl⟩ (by decide +kernel) (fun _ => ?_)
      obtain ⟨q4, e4, hf⟩ := zbi_of hf
      refine zr_callV (c_X3_milesBetween l G a1 s1 q2 q3 q4 e4) (WW' := fun _ => [w_Fk G a0 s0, w_Ld G a1 s1]) (st := []) (st' := [.int q4]) [1] rfl rfl (fun _ => Nat.le_of_ble_eq_true rfl) (fun _ => rfl) rfl rfl nm_X3_milesBetween zw_4_31 zw_3_88 zw_3_89 zw_1_7 zw_3_88n rfl rfl rfl (Nat.le_of_ble_eq_true rfl) ⟨Nat.le_of_ble_eq_true rfl, Nat.le_of_ble_eq_true rfl⟩ (by decide +kernel) (fun _ => ?_)
      obtain rfl := Option.some.inj hf
      exact zr_iret (b0 := fun _ => 0) (by decide +kernel) rfl rfl rfl rfl rfl
  exact zj_entry [some (.ref (a0 0)), some (.ref (a1 0)), some (.int x2)] (by decide +kernel) rfl (by decide) (Nat.le_of_ble_eq_true rfl) rfl rfl (key _)
def M_X1_daysYet : zj_M := (RX1, cX1_daysYet, 2, (some .int), { frames := 1, cells := 0, slots := 0, locals := 23 }, false)
theorem nm_X1_daysYet : zj_nm yX1_daysYet 1 := ⟨by decide +kernel, by decide +kernel, by decide +kernel⟩
def f_X1_daysYet  (s0 : FkT) (x1 : Int32) : Option (Int32) := ((f_X1_of s0 x1 (0 : Int32)).bind fun q1 => (if q1 = (1 : Int32) then ((f_X1_of s0 x1 (6 : Int32)).bind fun q2 => some q2) else some (0 : Int32)))
set_option maxRecDepth 100000 in
set_option maxHeartbeats 4000000 in
theorem c_X1_daysYet (l : Launch) (G : zj_G) (a0 : Nat → Nat) (s0 : FkT) (x1 : Int32) (r : Int32) (hf : f_X1_daysYet s0 x1 = some r) : zj_C l G M_X1_daysYet yX1_daysYet [w_Fk G a0 s0] [.ref (a0 0), .int x1] (some (.int r)) (fun _ => [w_Fk G a0 s0]) := by
  have key : ∀ W0 : List va_W, zj_J l G M_X1_daysYet W0 (zj_ret G M_X1_daysYet W0 (some (.int r)) (fun _ => [w_Fk G a0 s0])) 0 0 [w_Fk G a0 s0] [some (.ref (a0 0)), some (.int x1)] 0 [] := by
    intro W0
    unfold f_X1_daysYet at hf
    obtain ⟨q1, e1, hf⟩ := zbi_of hf
    refine zr_run [(.aload_n 0, 0, 0, 0, .null), (.iload_n 1, 0, 0, 0, .null), (.iconst 0, 0, 0, 0, .int (0 : Int32))] [] (WW' := [w_Fk G a0 s0]) (lv' := [some (.ref (a0 0)), some (.int x1)]) (pc' := 3) (st' := [.int (0 : Int32), .int x1, .ref (a0 0)]) (by decide +kernel) rfl rfl ⟨trivial, trivial, trivial, trivial⟩ ?_
    refine zr_callV (c_X1_of l G a0 s0 x1 (0 : Int32) q1 e1) (WW' := fun _ => [w_Fk G a0 s0]) (st := []) (st' := [.int q1]) [0] rfl rfl (fun _ => Nat.le_of_ble_eq_true rfl) (fun _ => rfl) rfl rfl nm_X1_of zw_3_141 zw_3_142 zw_3_143 zw_1_8 zw_3_142n rfl rfl rfl (Nat.le_of_ble_eq_true rfl) ⟨Nat.le_of_ble_eq_true rfl, Nat.le_of_ble_eq_true rfl⟩ (by decide +kernel) (fun _ => ?_)
    refine zr_run [(.iconst 1, 0, 0, 0, .int (1 : Int32))] [] (WW' := [w_Fk G a0 s0]) (lv' := [some (.ref (a0 0)), some (.int x1)]) (pc' := 7) (st' := [.int (1 : Int32), .int q1]) (by decide +kernel) rfl rfl ⟨trivial, trivial⟩ ?_
    refine zr_icmp_ne (off := 13) (tgt := 20) (by decide +kernel) (by decide) (fun hc => ?_) (fun hc => ?_)
    · have hf := zift hf hc
      obtain ⟨q2, e2, hf⟩ := zbi_of hf
      refine zr_run [(.aload_n 0, 0, 0, 0, .null), (.iload_n 1, 0, 0, 0, .null), (.bipush 6, 0, 0, 0, .int (6 : Int32))] [] (WW' := [w_Fk G a0 s0]) (lv' := [some (.ref (a0 0)), some (.int x1)]) (pc' := 14) (st' := [.int (6 : Int32), .int x1, .ref (a0 0)]) (by decide +kernel) rfl rfl ⟨trivial, trivial, trivial, trivial⟩ ?_
      refine zr_callV (c_X1_of l G a0 s0 x1 (6 : Int32) q2 e2) (WW' := fun _ => [w_Fk G a0 s0]) (st := []) (st' := [.int q2]) [0] rfl rfl (fun _ => Nat.le_of_ble_eq_true rfl) (fun _ => rfl) rfl rfl nm_X1_of zw_3_141 zw_3_142 zw_3_143 zw_1_8 zw_3_142n rfl rfl rfl (Nat.le_of_ble_eq_true rfl) ⟨Nat.le_of_ble_eq_true rfl, Nat.le_of_ble_eq_true rfl⟩ (by decide +kernel) (fun _ => ?_)
      refine zr_goto (off := 4) (tgt := 21) (by decide +kernel) (by decide) ?_
      obtain rfl := Option.some.inj hf
      exact zr_iret (b0 := fun _ => 0) (by decide +kernel) rfl rfl rfl rfl rfl
    · have hf := ziff hf hc
      refine zr_run [(.iconst 0, 0, 0, 0, .int (0 : Int32))] [] (WW' := [w_Fk G a0 s0]) (lv' := [some (.ref (a0 0)), some (.int x1)]) (pc' := 21) (st' := [.int (0 : Int32)]) (by decide +kernel) rfl rfl ⟨trivial, trivial⟩ ?_
      obtain rfl := Option.some.inj hf
      exact zr_iret (b0 := fun _ => 0) (by decide +kernel) rfl rfl rfl rfl rfl
  exact zj_entry [some (.ref (a0 0)), some (.int x1)] (by decide +kernel) rfl (by decide) (Nat.le_of_ble_eq_true rfl) rfl rfl (key _)
def M_X1_isJustAt : zj_M := (RX1, cX1_isJustAt, 3, (some .boolean), { frames := 1, cells := 0, slots := 0, locals := 23 }, false)
theorem nm_X1_isJustAt : zj_nm yX1_isJustAt 2 := ⟨by decide +kernel, by decide +kernel, by decide +kernel⟩
def f_X1_isJustAt_b35  (s0 : FkT)   : Option (Int32) := some (0 : Int32)
def f_X1_isJustAt  (s0 : FkT) (x1 : Int32) (x2 : Int32) : Option (Int32) := ((f_X1_of s0 x1 (0 : Int32)).bind fun q1 => (if (2 : Int32) < q1 then f_X1_isJustAt_b35 s0 else ((f_X1_of s0 x1 (12 : Int32)).bind fun q2 => (if q2 = 0 then ((f_X1_of s0 x1 (11 : Int32)).bind fun q3 => (if q3 = x2 then some (1 : Int32) else f_X1_isJustAt_b35 s0)) else f_X1_isJustAt_b35 s0))))
set_option maxRecDepth 100000 in
set_option maxHeartbeats 4000000 in
theorem t_X1_isJustAt_b35 (l : Launch) (G : zj_G) (a0 : Nat → Nat) (W0 : List va_W) (r : Int32) (s0 : FkT)    (hf : f_X1_isJustAt_b35 s0 = some r) : zj_J l G M_X1_isJustAt W0 (zj_ret G M_X1_isJustAt W0 (some (.int r)) (fun _ => [w_Fk G a0 s0])) 0 0 [w_Fk G a0 s0] [none, none, none] 35 [] := by
  unfold f_X1_isJustAt_b35 at hf
  refine zr_run [(.iconst 0, 0, 0, 0, .int (0 : Int32))] [] (WW' := [w_Fk G a0 s0]) (lv' := [none, none, none]) (pc' := 36) (st' := [.int (0 : Int32)]) (by decide +kernel) rfl rfl ⟨trivial, trivial⟩ ?_
  obtain rfl := Option.some.inj hf
  exact zr_zret (by decide) (b0 := fun _ => 0) (by decide +kernel) rfl rfl rfl rfl rfl
set_option maxRecDepth 100000 in
set_option maxHeartbeats 4000000 in
theorem c_X1_isJustAt (l : Launch) (G : zj_G) (a0 : Nat → Nat) (s0 : FkT) (x1 : Int32) (x2 : Int32) (r : Int32) (hf : f_X1_isJustAt s0 x1 x2 = some r) : zj_C l G M_X1_isJustAt yX1_isJustAt [w_Fk G a0 s0] [.ref (a0 0), .int x1, .int x2] (some (.int r)) (fun _ => [w_Fk G a0 s0]) := by
  have key : ∀ W0 : List va_W, zj_J l G M_X1_isJustAt W0 (zj_ret G M_X1_isJustAt W0 (some (.int r)) (fun _ => [w_Fk G a0 s0])) 0 0 [w_Fk G a0 s0] [some (.ref (a0 0)), some (.int x1), some (.int x2)] 0 [] := by
    intro W0
    unfold f_X1_isJustAt at hf
    obtain ⟨q1, e1, hf⟩ := zbi_of hf
    refine zr_run [(.aload_n 0, 0, 0, 0, .null), (.iload_n 1, 0, 0, 0, .null), (.iconst 0, 0, 0, 0, .int (0 : Int32))] [] (WW' := [w_Fk G a0 s0]) (lv' := [some (.ref (a0 0)), some (.int x1), some (.int x2)]) (pc' := 3) (st' := [.int (0 : Int32), .int x1, .ref (a0 0)]) (by decide +kernel) rfl rfl ⟨trivial, trivial, trivial, trivial⟩ ?_
    refine zr_callV (c_X1_of l G a0 s0 x1 (0 : Int32) q1 e1) (WW' := fun _ => [w_Fk G a0 s0]) (st := []) (st' := [.int q1]) [0] rfl rfl (fun _ => Nat.le_of_ble_eq_true rfl) (fun _ => rfl) rfl rfl nm_X1_of zw_3_141 zw_3_142 zw_3_143 zw_1_8 zw_3_142n rfl rfl rfl (Nat.le_of_ble_eq_true rfl) ⟨Nat.le_of_ble_eq_true rfl, Nat.le_of_ble_eq_true rfl⟩ (by decide +kernel) (fun _ => ?_)
    refine zr_run [(.iconst 2, 0, 0, 0, .int (2 : Int32))] [] (WW' := [w_Fk G a0 s0]) (lv' := [some (.ref (a0 0)), some (.int x1), some (.int x2)]) (pc' := 7) (st' := [.int (2 : Int32), .int q1]) (by decide +kernel) rfl rfl ⟨trivial, trivial⟩ ?_
    refine zr_icmp_gt (off := 28) (tgt := 35) (by decide +kernel) (by decide) (fun hc => ?_) (fun hc => ?_)
    · have hf := zift hf hc
      refine zr_run [] [0, 1, 2] (WW' := [w_Fk G a0 s0]) (lv' := [none, none, none]) (pc' := 35) (st' := []) (by decide +kernel) rfl rfl trivial ?_
      exact t_X1_isJustAt_b35 l G a0 W0 r s0 hf
    · have hf := ziff hf hc
      obtain ⟨q2, e2, hf⟩ := zbi_of hf
      refine zr_run [(.aload_n 0, 0, 0, 0, .null), (.iload_n 1, 0, 0, 0, .null), (.bipush 12, 0, 0, 0, .int (12 : Int32))] [] (WW' := [w_Fk G a0 s0]) (lv' := [some (.ref (a0 0)), some (.int x1), some (.int x2)]) (pc' := 14) (st' := [.int (12 : Int32), .int x1, .ref (a0 0)]) (by decide +kernel) rfl rfl ⟨trivial, trivial, trivial, trivial⟩ ?_
      refine zr_callV (c_X1_of l G a0 s0 x1 (12 : Int32) q2 e2) (WW' := fun _ => [w_Fk G a0 s0]) (st := []) (st' := [.int q2]) [0] rfl rfl (fun _ => Nat.le_of_ble_eq_true rfl) (fun _ => rfl) rfl rfl nm_X1_of zw_3_141 zw_3_142 zw_3_143 zw_1_8 zw_3_142n rfl rfl rfl (Nat.le_of_ble_eq_true rfl) ⟨Nat.le_of_ble_eq_true rfl, Nat.le_of_ble_eq_true rfl⟩ (by decide +kernel) (fun _ => ?_)
      refine zr_if_ne (off := 18) (tgt := 35) (by decide +kernel) (by decide) (fun hc => ?_) (fun hc => ?_)
      · have hf := zift hf hc
        obtain ⟨q3, e3, hf⟩ := zbi_of hf
        refine zr_run [(.aload_n 0, 0, 0, 0, .null), (.iload_n 1, 0, 0, 0, .null), (.bipush 11, 0, 0, 0, .int (11 : Int32))] [] (WW' := [w_Fk G a0 s0]) (lv' := [some (.ref (a0 0)), some (.int x1), some (.int x2)]) (pc' := 24) (st' := [.int (11 : Int32), .int x1, .ref (a0 0)]) (by decide +kernel) rfl rfl ⟨trivial, trivial, trivial, trivial⟩ ?_
        refine zr_callV (c_X1_of l G a0 s0 x1 (11 : Int32) q3 e3) (WW' := fun _ => [w_Fk G a0 s0]) (st := []) (st' := [.int q3]) [0] rfl rfl (fun _ => Nat.le_of_ble_eq_true rfl) (fun _ => rfl) rfl rfl nm_X1_of zw_3_141 zw_3_142 zw_3_143 zw_1_8 zw_3_142n rfl rfl rfl (Nat.le_of_ble_eq_true rfl) ⟨Nat.le_of_ble_eq_true rfl, Nat.le_of_ble_eq_true rfl⟩ (by decide +kernel) (fun _ => ?_)
        refine zr_run [(.iload_n 2, 0, 0, 0, .null)] [] (WW' := [w_Fk G a0 s0]) (lv' := [some (.ref (a0 0)), some (.int x1), some (.int x2)]) (pc' := 28) (st' := [.int x2, .int q3]) (by decide +kernel) rfl rfl ⟨trivial, trivial⟩ ?_
        refine zr_icmp_ne (off := 7) (tgt := 35) (by decide +kernel) (by decide) (fun hc => ?_) (fun hc => ?_)
        · have hf := zift hf hc
          refine zr_run [(.iconst 1, 0, 0, 0, .int (1 : Int32))] [] (WW' := [w_Fk G a0 s0]) (lv' := [some (.ref (a0 0)), some (.int x1), some (.int x2)]) (pc' := 32) (st' := [.int (1 : Int32)]) (by decide +kernel) rfl rfl ⟨trivial, trivial⟩ ?_
          refine zr_goto (off := 4) (tgt := 36) (by decide +kernel) (by decide) ?_
          obtain rfl := Option.some.inj hf
          exact zr_zret (by decide) (b0 := fun _ => 0) (by decide +kernel) rfl rfl rfl rfl rfl
        · have hf := ziff hf hc
          refine zr_run [] [0, 1, 2] (WW' := [w_Fk G a0 s0]) (lv' := [none, none, none]) (pc' := 35) (st' := []) (by decide +kernel) rfl rfl trivial ?_
          exact t_X1_isJustAt_b35 l G a0 W0 r s0 hf
      · have hf := ziff hf hc
        refine zr_run [] [0, 1, 2] (WW' := [w_Fk G a0 s0]) (lv' := [none, none, none]) (pc' := 35) (st' := []) (by decide +kernel) rfl rfl trivial ?_
        exact t_X1_isJustAt_b35 l G a0 W0 r s0 hf
  exact zj_entry [some (.ref (a0 0)), some (.int x1), some (.int x2)] (by decide +kernel) rfl (by decide) (Nat.le_of_ble_eq_true rfl) rfl rfl (key _)
def M_X1_menAt : zj_M := (RX1, cX1_menAt, 5, (some .int), { frames := 2, cells := 0, slots := 0, locals := 45 }, false)
theorem nm_X1_menAt : zj_nm yX1_menAt 2 := ⟨by decide +kernel, by decide +kernel, by decide +kernel⟩
def f_X1_menAt_b28  (s0 : FkT) (k5 : Int32 → Int32 → Int32 → Int32 → Option (Int32)) (x1 : Int32) (x2 : Int32) (x3 : Int32) (x4 : Int32) : Option (Int32) := k5 x1 x2 x3 (x4 + (1 : Int32))
def f_X1_menAt_H5  (s0 : FkT) (k5 : Int32 → Int32 → Int32 → Int32 → Option (Int32)) (x1 : Int32) (x2 : Int32) (x3 : Int32) (x4 : Int32) : Option (Int32) := (if x4 < x1 then ((f_X1_isJustAt s0 x4 x2).bind fun q1 => (if q1 = 0 then f_X1_menAt_b28 s0 k5 x1 x2 x3 x4 else f_X1_menAt_b28 s0 k5 x1 x2 (x3 ||| (zr_shl (1 : Int32) x4)) x4)) else some x3)
def f_X1_menAt_L5  (s0 : FkT)  : Nat → Int32 → Int32 → Int32 → Int32 → Option (Int32)
  | 0 => fun _ _ _ _ => none
  | n + 1 => fun x1 x2 x3 x4 => f_X1_menAt_H5 s0 (f_X1_menAt_L5 s0 n) x1 x2 x3 x4
def f_X1_menAt  (s0 : FkT) (x1 : Int32) (x2 : Int32) : Option (Int32) := f_X1_menAt_L5 s0 zFU x1 x2 (0 : Int32) (0 : Int32)
set_option maxRecDepth 100000 in
set_option maxHeartbeats 4000000 in
theorem t_X1_menAt_b28 (l : Launch) (G : zj_G) (a0 : Nat → Nat) (W0 : List va_W) (r : Int32) (s0 : FkT) (k5 : Int32 → Int32 → Int32 → Int32 → Option (Int32)) (hk5 : ∀ (x1 : Int32) (x2 : Int32) (x3 : Int32) (x4 : Int32), k5 x1 x2 x3 x4 = some r → zj_J l G M_X1_menAt W0 (zj_ret G M_X1_menAt W0 (some (.int r)) (fun _ => [w_Fk G a0 s0])) 0 0 [w_Fk G a0 s0] [some (.ref (a0 0)), some (.int x1), some (.int x2), some (.int x3), some (.int x4)] 5 []) (x1 : Int32) (x2 : Int32) (x3 : Int32) (x4 : Int32) (hf : f_X1_menAt_b28 s0 k5 x1 x2 x3 x4 = some r) : zj_J l G M_X1_menAt W0 (zj_ret G M_X1_menAt W0 (some (.int r)) (fun _ => [w_Fk G a0 s0])) 0 0 [w_Fk G a0 s0] [some (.ref (a0 0)), some (.int x1), some (.int x2), some (.int x3), some (.int x4)] 28 [] := by
  unfold f_X1_menAt_b28 at hf
  refine zr_run [(.iinc 4 1, 0, 0, 0, .int (1 : Int32))] [] (WW' := [w_Fk G a0 s0]) (lv' := [some (.ref (a0 0)), some (.int x1), some (.int x2), some (.int x3), some (.int (x4 + (1 : Int32)))]) (pc' := 31) (st' := []) (by decide +kernel) rfl rfl ⟨trivial, trivial⟩ ?_
  refine zr_goto (off := -26) (tgt := 5) (by decide +kernel) (by decide) ?_
  exact hk5 x1 x2 x3 (x4 + (1 : Int32)) hf
set_option maxRecDepth 100000 in
set_option maxHeartbeats 4000000 in
theorem t_X1_menAt_H5 (l : Launch) (G : zj_G) (a0 : Nat → Nat) (W0 : List va_W) (r : Int32) (s0 : FkT) (k5 : Int32 → Int32 → Int32 → Int32 → Option (Int32)) (hk5 : ∀ (x1 : Int32) (x2 : Int32) (x3 : Int32) (x4 : Int32), k5 x1 x2 x3 x4 = some r → zj_J l G M_X1_menAt W0 (zj_ret G M_X1_menAt W0 (some (.int r)) (fun _ => [w_Fk G a0 s0])) 0 0 [w_Fk G a0 s0] [some (.ref (a0 0)), some (.int x1), some (.int x2), some (.int x3), some (.int x4)] 5 []) (x1 : Int32) (x2 : Int32) (x3 : Int32) (x4 : Int32) (hf : f_X1_menAt_H5 s0 k5 x1 x2 x3 x4 = some r) : zj_J l G M_X1_menAt W0 (zj_ret G M_X1_menAt W0 (some (.int r)) (fun _ => [w_Fk G a0 s0])) 0 0 [w_Fk G a0 s0] [some (.ref (a0 0)), some (.int x1), some (.int x2), some (.int x3), some (.int x4)] 5 [] := by
  unfold f_X1_menAt_H5 at hf
  refine zr_run [(.iload 4, 0, 0, 0, .null), (.iload_n 1, 0, 0, 0, .null)] [] (WW' := [w_Fk G a0 s0]) (lv' := [some (.ref (a0 0)), some (.int x1), some (.int x2), some (.int x3), some (.int x4)]) (pc' := 8) (st' := [.int x1, .int x4]) (by decide +kernel) rfl rfl ⟨trivial, trivial, trivial⟩ ?_
  refine zr_icmp_ge (off := 26) (tgt := 34) (by decide +kernel) (by decide) (fun hc => ?_) (fun hc => ?_)
  · have hf := zift hf hc
    obtain ⟨q1, e1, hf⟩ := zbi_of hf
    refine zr_run [(.aload_n 0, 0, 0, 0, .null), (.iload 4, 0, 0, 0, .null), (.iload_n 2, 0, 0, 0, .null)] [] (WW' := [w_Fk G a0 s0]) (lv' := [some (.ref (a0 0)), some (.int x1), some (.int x2), some (.int x3), some (.int x4)]) (pc' := 15) (st' := [.int x2, .int x4, .ref (a0 0)]) (by decide +kernel) rfl rfl ⟨trivial, trivial, trivial, trivial⟩ ?_
    refine zr_callV (c_X1_isJustAt l G a0 s0 x4 x2 q1 e1) (WW' := fun _ => [w_Fk G a0 s0]) (st := []) (st' := [.int q1]) [0] rfl rfl (fun _ => Nat.le_of_ble_eq_true rfl) (fun _ => rfl) rfl rfl nm_X1_isJustAt zw_3_137 zw_3_138 zw_3_139 zw_1_8 zw_3_140 rfl rfl rfl (Nat.le_of_ble_eq_true rfl) ⟨Nat.le_of_ble_eq_true rfl, Nat.le_of_ble_eq_true rfl⟩ (by decide +kernel) (fun _ => ?_)
    refine zr_if_eq (off := 10) (tgt := 28) (by decide +kernel) (by decide) (fun hc => ?_) (fun hc => ?_)
    · have hf := zift hf hc
      exact t_X1_menAt_b28 l G a0 W0 r s0 k5 hk5 x1 x2 x3 x4 hf
    · have hf := ziff hf hc
      refine zr_run [(.iload_n 3, 0, 0, 0, .null), (.iconst 1, 0, 0, 0, .int (1 : Int32)), (.iload 4, 0, 0, 0, .null), (.ishl, 0, 0, 0, .null), (.ior, 0, 0, 0, .null), (.istore_n 3, 0, 0, 0, .null)] [] (WW' := [w_Fk G a0 s0]) (lv' := [some (.ref (a0 0)), some (.int x1), some (.int x2), some (.int (x3 ||| (zr_shl (1 : Int32) x4))), some (.int x4)]) (pc' := 28) (st' := []) (by decide +kernel) rfl rfl ⟨trivial, trivial, trivial, trivial, trivial, trivial, trivial⟩ ?_
      exact t_X1_menAt_b28 l G a0 W0 r s0 k5 hk5 x1 x2 (x3 ||| (zr_shl (1 : Int32) x4)) x4 hf
  · have hf := ziff hf hc
    refine zr_run [(.iload_n 3, 0, 0, 0, .null)] [] (WW' := [w_Fk G a0 s0]) (lv' := [some (.ref (a0 0)), some (.int x1), some (.int x2), some (.int x3), some (.int x4)]) (pc' := 35) (st' := [.int x3]) (by decide +kernel) rfl rfl ⟨trivial, trivial⟩ ?_
    obtain rfl := Option.some.inj hf
    exact zr_iret (b0 := fun _ => 0) (by decide +kernel) rfl rfl rfl rfl rfl
theorem t_X1_menAt_L5 (l : Launch) (G : zj_G) (a0 : Nat → Nat) (W0 : List va_W) (r : Int32) (s0 : FkT)   : ∀ (n : Nat) (x1 : Int32) (x2 : Int32) (x3 : Int32) (x4 : Int32), f_X1_menAt_L5 s0 n x1 x2 x3 x4 = some r → zj_J l G M_X1_menAt W0 (zj_ret G M_X1_menAt W0 (some (.int r)) (fun _ => [w_Fk G a0 s0])) 0 0 [w_Fk G a0 s0] [some (.ref (a0 0)), some (.int x1), some (.int x2), some (.int x3), some (.int x4)] 5 [] := by
  intro n
  induction n with
  | zero => intro x1 x2 x3 x4 hf; exact nomatch (show none = some r from hf)
  | succ n ih => intro x1 x2 x3 x4 hf; exact t_X1_menAt_H5 l G a0 W0 r s0  (f_X1_menAt_L5 s0 n)  ih x1 x2 x3 x4  hf
set_option maxRecDepth 100000 in
set_option maxHeartbeats 4000000 in
theorem c_X1_menAt (l : Launch) (G : zj_G) (a0 : Nat → Nat) (s0 : FkT) (x1 : Int32) (x2 : Int32) (r : Int32) (hf : f_X1_menAt s0 x1 x2 = some r) : zj_C l G M_X1_menAt yX1_menAt [w_Fk G a0 s0] [.ref (a0 0), .int x1, .int x2] (some (.int r)) (fun _ => [w_Fk G a0 s0]) := by
  have key : ∀ W0 : List va_W, zj_J l G M_X1_menAt W0 (zj_ret G M_X1_menAt W0 (some (.int r)) (fun _ => [w_Fk G a0 s0])) 0 0 [w_Fk G a0 s0] [some (.ref (a0 0)), some (.int x1), some (.int x2), none, none] 0 [] := by
    intro W0
    unfold f_X1_menAt at hf
    refine zr_run [(.iconst 0, 0, 0, 0, .int (0 : Int32)), (.istore_n 3, 0, 0, 0, .null), (.iconst 0, 0, 0, 0, .int (0 : Int32)), (.istore 4, 0, 0, 0, .null)] [] (WW' := [w_Fk G a0 s0]) (lv' := [some (.ref (a0 0)), some (.int x1), some (.int x2), some (.int (0 : Int32)), some (.int (0 : Int32))]) (pc' := 5) (st' := []) (by decide +kernel) rfl rfl ⟨trivial, trivial, trivial, trivial, trivial⟩ ?_
    exact t_X1_menAt_L5 l G a0 W0 r s0 zFU x1 x2 (0 : Int32) (0 : Int32) hf
  exact zj_entry [some (.ref (a0 0)), some (.int x1), some (.int x2), none, none] (by decide +kernel) rfl (by decide) (Nat.le_of_ble_eq_true rfl) rfl rfl (key _)
def M_X1_menWho : zj_M := (RX1, cX1_menWho, 5, (some .int), { frames := 1, cells := 0, slots := 0, locals := 23 }, false)
theorem nm_X1_menWho : zj_nm yX1_menWho 2 := ⟨by decide +kernel, by decide +kernel, by decide +kernel⟩
def f_X1_menWho_b29  (s0 : FkT) (k5 : Int32 → Int32 → Int32 → Int32 → Option (Int32)) (x1 : Int32) (x2 : Int32) (x3 : Int32) (x4 : Int32) : Option (Int32) := k5 x1 x2 x3 (x4 + (1 : Int32))
def f_X1_menWho_H5  (s0 : FkT) (k5 : Int32 → Int32 → Int32 → Int32 → Option (Int32)) (x1 : Int32) (x2 : Int32) (x3 : Int32) (x4 : Int32) : Option (Int32) := (if x4 < x1 then ((f_X1_of s0 x4 (0 : Int32)).bind fun q1 => (if q1 = x2 then f_X1_menWho_b29 s0 k5 x1 x2 (x3 ||| (zr_shl (1 : Int32) x4)) x4 else f_X1_menWho_b29 s0 k5 x1 x2 x3 x4)) else some x3)
def f_X1_menWho_L5  (s0 : FkT)  : Nat → Int32 → Int32 → Int32 → Int32 → Option (Int32)
  | 0 => fun _ _ _ _ => none
  | n + 1 => fun x1 x2 x3 x4 => f_X1_menWho_H5 s0 (f_X1_menWho_L5 s0 n) x1 x2 x3 x4
def f_X1_menWho  (s0 : FkT) (x1 : Int32) (x2 : Int32) : Option (Int32) := f_X1_menWho_L5 s0 zFU x1 x2 (0 : Int32) (0 : Int32)
set_option maxRecDepth 100000 in
set_option maxHeartbeats 4000000 in
theorem t_X1_menWho_b29 (l : Launch) (G : zj_G) (a0 : Nat → Nat) (W0 : List va_W) (r : Int32) (s0 : FkT) (k5 : Int32 → Int32 → Int32 → Int32 → Option (Int32)) (hk5 : ∀ (x1 : Int32) (x2 : Int32) (x3 : Int32) (x4 : Int32), k5 x1 x2 x3 x4 = some r → zj_J l G M_X1_menWho W0 (zj_ret G M_X1_menWho W0 (some (.int r)) (fun _ => [w_Fk G a0 s0])) 0 0 [w_Fk G a0 s0] [some (.ref (a0 0)), some (.int x1), some (.int x2), some (.int x3), some (.int x4)] 5 []) (x1 : Int32) (x2 : Int32) (x3 : Int32) (x4 : Int32) (hf : f_X1_menWho_b29 s0 k5 x1 x2 x3 x4 = some r) : zj_J l G M_X1_menWho W0 (zj_ret G M_X1_menWho W0 (some (.int r)) (fun _ => [w_Fk G a0 s0])) 0 0 [w_Fk G a0 s0] [some (.ref (a0 0)), some (.int x1), some (.int x2), some (.int x3), some (.int x4)] 29 [] := by
  unfold f_X1_menWho_b29 at hf
  refine zr_run [(.iinc 4 1, 0, 0, 0, .int (1 : Int32))] [] (WW' := [w_Fk G a0 s0]) (lv' := [some (.ref (a0 0)), some (.int x1), some (.int x2), some (.int x3), some (.int (x4 + (1 : Int32)))]) (pc' := 32) (st' := []) (by decide +kernel) rfl rfl ⟨trivial, trivial⟩ ?_
  refine zr_goto (off := -27) (tgt := 5) (by decide +kernel) (by decide) ?_
  exact hk5 x1 x2 x3 (x4 + (1 : Int32)) hf
set_option maxRecDepth 100000 in
set_option maxHeartbeats 4000000 in
theorem t_X1_menWho_H5 (l : Launch) (G : zj_G) (a0 : Nat → Nat) (W0 : List va_W) (r : Int32) (s0 : FkT) (k5 : Int32 → Int32 → Int32 → Int32 → Option (Int32)) (hk5 : ∀ (x1 : Int32) (x2 : Int32) (x3 : Int32) (x4 : Int32), k5 x1 x2 x3 x4 = some r → zj_J l G M_X1_menWho W0 (zj_ret G M_X1_menWho W0 (some (.int r)) (fun _ => [w_Fk G a0 s0])) 0 0 [w_Fk G a0 s0] [some (.ref (a0 0)), some (.int x1), some (.int x2), some (.int x3), some (.int x4)] 5 []) (x1 : Int32) (x2 : Int32) (x3 : Int32) (x4 : Int32) (hf : f_X1_menWho_H5 s0 k5 x1 x2 x3 x4 = some r) : zj_J l G M_X1_menWho W0 (zj_ret G M_X1_menWho W0 (some (.int r)) (fun _ => [w_Fk G a0 s0])) 0 0 [w_Fk G a0 s0] [some (.ref (a0 0)), some (.int x1), some (.int x2), some (.int x3), some (.int x4)] 5 [] := by
  unfold f_X1_menWho_H5 at hf
  refine zr_run [(.iload 4, 0, 0, 0, .null), (.iload_n 1, 0, 0, 0, .null)] [] (WW' := [w_Fk G a0 s0]) (lv' := [some (.ref (a0 0)), some (.int x1), some (.int x2), some (.int x3), some (.int x4)]) (pc' := 8) (st' := [.int x1, .int x4]) (by decide +kernel) rfl rfl ⟨trivial, trivial, trivial⟩ ?_
  refine zr_icmp_ge (off := 27) (tgt := 35) (by decide +kernel) (by decide) (fun hc => ?_) (fun hc => ?_)
  · have hf := zift hf hc
    obtain ⟨q1, e1, hf⟩ := zbi_of hf
    refine zr_run [(.aload_n 0, 0, 0, 0, .null), (.iload 4, 0, 0, 0, .null), (.iconst 0, 0, 0, 0, .int (0 : Int32))] [] (WW' := [w_Fk G a0 s0]) (lv' := [some (.ref (a0 0)), some (.int x1), some (.int x2), some (.int x3), some (.int x4)]) (pc' := 15) (st' := [.int (0 : Int32), .int x4, .ref (a0 0)]) (by decide +kernel) rfl rfl ⟨trivial, trivial, trivial, trivial⟩ ?_
    refine zr_callV (c_X1_of l G a0 s0 x4 (0 : Int32) q1 e1) (WW' := fun _ => [w_Fk G a0 s0]) (st := []) (st' := [.int q1]) [0] rfl rfl (fun _ => Nat.le_of_ble_eq_true rfl) (fun _ => rfl) rfl rfl nm_X1_of zw_3_141 zw_3_142 zw_3_143 zw_1_8 zw_3_142n rfl rfl rfl (Nat.le_of_ble_eq_true rfl) ⟨Nat.le_of_ble_eq_true rfl, Nat.le_of_ble_eq_true rfl⟩ (by decide +kernel) (fun _ => ?_)
    refine zr_run [(.iload_n 2, 0, 0, 0, .null)] [] (WW' := [w_Fk G a0 s0]) (lv' := [some (.ref (a0 0)), some (.int x1), some (.int x2), some (.int x3), some (.int x4)]) (pc' := 19) (st' := [.int x2, .int q1]) (by decide +kernel) rfl rfl ⟨trivial, trivial⟩ ?_
    refine zr_icmp_ne (off := 10) (tgt := 29) (by decide +kernel) (by decide) (fun hc => ?_) (fun hc => ?_)
    · have hf := zift hf hc
      refine zr_run [(.iload_n 3, 0, 0, 0, .null), (.iconst 1, 0, 0, 0, .int (1 : Int32)), (.iload 4, 0, 0, 0, .null), (.ishl, 0, 0, 0, .null), (.ior, 0, 0, 0, .null), (.istore_n 3, 0, 0, 0, .null)] [] (WW' := [w_Fk G a0 s0]) (lv' := [some (.ref (a0 0)), some (.int x1), some (.int x2), some (.int (x3 ||| (zr_shl (1 : Int32) x4))), some (.int x4)]) (pc' := 29) (st' := []) (by decide +kernel) rfl rfl ⟨trivial, trivial, trivial, trivial, trivial, trivial, trivial⟩ ?_
      exact t_X1_menWho_b29 l G a0 W0 r s0 k5 hk5 x1 x2 (x3 ||| (zr_shl (1 : Int32) x4)) x4 hf
    · have hf := ziff hf hc
      exact t_X1_menWho_b29 l G a0 W0 r s0 k5 hk5 x1 x2 x3 x4 hf
  · have hf := ziff hf hc
    refine zr_run [(.iload_n 3, 0, 0, 0, .null)] [] (WW' := [w_Fk G a0 s0]) (lv' := [some (.ref (a0 0)), some (.int x1), some (.int x2), some (.int x3), some (.int x4)]) (pc' := 36) (st' := [.int x3]) (by decide +kernel) rfl rfl ⟨trivial, trivial⟩ ?_
    obtain rfl := Option.some.inj hf
    exact zr_iret (b0 := fun _ => 0) (by decide +kernel) rfl rfl rfl rfl rfl
theorem t_X1_menWho_L5 (l : Launch) (G : zj_G) (a0 : Nat → Nat) (W0 : List va_W) (r : Int32) (s0 : FkT)   : ∀ (n : Nat) (x1 : Int32) (x2 : Int32) (x3 : Int32) (x4 : Int32), f_X1_menWho_L5 s0 n x1 x2 x3 x4 = some r → zj_J l G M_X1_menWho W0 (zj_ret G M_X1_menWho W0 (some (.int r)) (fun _ => [w_Fk G a0 s0])) 0 0 [w_Fk G a0 s0] [some (.ref (a0 0)), some (.int x1), some (.int x2), some (.int x3), some (.int x4)] 5 [] := by
  intro n
  induction n with
  | zero => intro x1 x2 x3 x4 hf; exact nomatch (show none = some r from hf)
  | succ n ih => intro x1 x2 x3 x4 hf; exact t_X1_menWho_H5 l G a0 W0 r s0  (f_X1_menWho_L5 s0 n)  ih x1 x2 x3 x4  hf
set_option maxRecDepth 100000 in
set_option maxHeartbeats 4000000 in
theorem c_X1_menWho (l : Launch) (G : zj_G) (a0 : Nat → Nat) (s0 : FkT) (x1 : Int32) (x2 : Int32) (r : Int32) (hf : f_X1_menWho s0 x1 x2 = some r) : zj_C l G M_X1_menWho yX1_menWho [w_Fk G a0 s0] [.ref (a0 0), .int x1, .int x2] (some (.int r)) (fun _ => [w_Fk G a0 s0]) := by
  have key : ∀ W0 : List va_W, zj_J l G M_X1_menWho W0 (zj_ret G M_X1_menWho W0 (some (.int r)) (fun _ => [w_Fk G a0 s0])) 0 0 [w_Fk G a0 s0] [some (.ref (a0 0)), some (.int x1), some (.int x2), none, none] 0 [] := by
    intro W0
    unfold f_X1_menWho at hf
    refine zr_run [(.iconst 0, 0, 0, 0, .int (0 : Int32)), (.istore_n 3, 0, 0, 0, .null), (.iconst 0, 0, 0, 0, .int (0 : Int32)), (.istore 4, 0, 0, 0, .null)] [] (WW' := [w_Fk G a0 s0]) (lv' := [some (.ref (a0 0)), some (.int x1), some (.int x2), some (.int (0 : Int32)), some (.int (0 : Int32))]) (pc' := 5) (st' := []) (by decide +kernel) rfl rfl ⟨trivial, trivial, trivial, trivial, trivial⟩ ?_
    exact t_X1_menWho_L5 l G a0 W0 r s0 zFU x1 x2 (0 : Int32) (0 : Int32) hf
  exact zj_entry [some (.ref (a0 0)), some (.int x1), some (.int x2), none, none] (by decide +kernel) rfl (by decide) (Nat.le_of_ble_eq_true rfl) rfl rfl (key _)
def M_X1_swears : zj_M := (RX1, cX1_swears, 5, (some .int), { frames := 2, cells := 0, slots := 0, locals := 45 }, false)
theorem nm_X1_swears : zj_nm yX1_swears 4 := ⟨by decide +kernel, by decide +kernel, by decide +kernel⟩
def f_X1_swears  (s0 : FkT) (s1 : LdT) (x2 : Int32) (x3 : Int32) (x4 : Int32) : Option (Int32 × FkT) := ((f_X1_of s0 x2 (0 : Int32)).bind fun q1 => (if q1 = 0 then ((f_X1_of s0 x2 (4 : Int32)).bind fun q2 => ((f_X3_joined s1 q2 x3).bind fun q3 => (if q3 = 0 then some ((2 : Int32), s0) else ((f_X1_of s0 x2 (2 : Int32)).bind fun q4 => (if q4 < (2 : Int32) then ((f_X1_put s0 x2 (0 : Int32) (1 : Int32)).bind fun q5 => ((f_X1_more q5 x2 (2 : Int32) (1 : Int32)).bind fun q6 => ((f_X1_put q6 x2 (3 : Int32) x3).bind fun q7 => ((f_X1_put q7 x2 (5 : Int32) (0 : Int32)).bind fun q8 => ((f_X1_put q8 x2 (6 : Int32) x4).bind fun q9 => ((f_X3_ofMan s1 x2 (1 : Int32)).bind fun q10 => ((f_X1_put q9 x2 (7 : Int32) q10).bind fun q11 => ((f_X1_put q11 x2 (8 : Int32) (0 : Int32)).bind fun q12 => some ((0 : Int32), q12))))))))) else some ((3 : Int32), s0)))))) else some ((1 : Int32), s0)))
set_option maxRecDepth 100000 in
set_option maxHeartbeats 4000000 in
theorem c_X1_swears (l : Launch) (G : zj_G) (a0 : Nat → Nat) (a1 : Nat → Nat) (s0 : FkT) (s1 : LdT) (x2 : Int32) (x3 : Int32) (x4 : Int32) (r : Int32 × FkT) (hf : f_X1_swears s0 s1 x2 x3 x4 = some r) : zj_C l G M_X1_swears yX1_swears [w_Fk G a0 s0, w_Ld G a1 s1] [.ref (a0 0), .ref (a1 0), .int x2, .int x3, .int x4] (some (.int r.1)) (fun _ => [w_Fk G a0 r.2, w_Ld G a1 s1]) := by
  have key : ∀ W0 : List va_W, zj_J l G M_X1_swears W0 (zj_ret G M_X1_swears W0 (some (.int r.1)) (fun _ => [w_Fk G a0 r.2, w_Ld G a1 s1])) 0 0 [w_Fk G a0 s0, w_Ld G a1 s1] [some (.ref (a0 0)), some (.ref (a1 0)), some (.int x2), some (.int x3), some (.int x4)] 0 [] := by
    intro W0
    unfold f_X1_swears at hf
    obtain ⟨q1, e1, hf⟩ := zbi_of hf
    refine zr_run [(.aload_n 0, 0, 0, 0, .null), (.iload_n 2, 0, 0, 0, .null), (.iconst 0, 0, 0, 0, .int (0 : Int32))] [] (WW' := [w_Fk G a0 s0, w_Ld G a1 s1]) (lv' := [some (.ref (a0 0)), some (.ref (a1 0)), some (.int x2), some (.int x3), some (.int x4)]) (pc' := 3) (st' := [.int (0 : Int32), .int x2, .ref (a0 0)]) (by decide +kernel) rfl rfl ⟨trivial, trivial, trivial, trivial⟩ ?_
    refine zr_callV (c_X1_of l G a0 s0 x2 (0 : Int32) q1 e1) (WW' := fun _ => [w_Fk G a0 s0, w_Ld G a1 s1]) (st := []) (st' := [.int q1]) [0] rfl rfl (fun _ => Nat.le_of_ble_eq_true rfl) (fun _ => rfl) rfl rfl nm_X1_of zw_3_141 zw_3_142 zw_3_143 zw_1_8 zw_3_142n rfl rfl rfl (Nat.le_of_ble_eq_true rfl) ⟨Nat.le_of_ble_eq_true rfl, Nat.le_of_ble_eq_true rfl⟩ (by decide +kernel) (fun _ => ?_)
    refine zr_if_eq (off := 5) (tgt := 11) (by decide +kernel) (by decide) (fun hc => ?_) (fun hc => ?_)
    · have hf := zift hf hc
      obtain ⟨q2, e2, hf⟩ := zbi_of hf
      refine zr_run [(.aload_n 1, 0, 0, 0, .null), (.aload_n 0, 0, 0, 0, .null), (.iload_n 2, 0, 0, 0, .null), (.iconst 4, 0, 0, 0, .int (4 : Int32))] [] (WW' := [w_Fk G a0 s0, w_Ld G a1 s1]) (lv' := [some (.ref (a0 0)), some (.ref (a1 0)), some (.int x2), some (.int x3), some (.int x4)]) (pc' := 15) (st' := [.int (4 : Int32), .int x2, .ref (a0 0), .ref (a1 0)]) (by decide +kernel) rfl rfl ⟨trivial, trivial, trivial, trivial, trivial⟩ ?_
      refine zr_callV (c_X1_of l G a0 s0 x2 (4 : Int32) q2 e2) (WW' := fun _ => [w_Fk G a0 s0, w_Ld G a1 s1]) (st := [.ref (a1 0)]) (st' := [.int q2, .ref (a1 0)]) [0] rfl rfl (fun _ => Nat.le_of_ble_eq_true rfl) (fun _ => rfl) rfl rfl nm_X1_of zw_3_141 zw_3_142 zw_3_143 zw_1_8 zw_3_142n rfl rfl rfl (Nat.le_of_ble_eq_true rfl) ⟨Nat.le_of_ble_eq_true rfl, Nat.le_of_ble_eq_true rfl⟩ (by decide +kernel) (fun _ => ?_)
      obtain ⟨q3, e3, hf⟩ := zbi_of hf
      refine zr_run [(.iload_n 3, 0, 0, 0, .null)] [] (WW' := [w_Fk G a0 s0, w_Ld G a1 s1]) (lv' := [some (.ref (a0 0)), some (.ref (a1 0)), some (.int x2), some (.int x3), some (.int x4)]) (pc' := 19) (st' := [.int x3, .int q2, .ref (a1 0)]) (by decide +kernel) rfl rfl ⟨trivial, trivial⟩ ?_
      refine zr_callV (c_X3_joined l G a1 s1 q2 x3 q3 e3) (WW' := fun _ => [w_Fk G a0 s0, w_Ld G a1 s1]) (st := []) (st' := [.int q3]) [1] rfl rfl (fun _ => Nat.le_of_ble_eq_true rfl) (fun _ => rfl) rfl rfl nm_X3_joined zw_3_188 zw_3_84 zw_3_85 zw_1_7 zw_3_86 rfl rfl rfl (Nat.le_of_ble_eq_true rfl) ⟨Nat.le_of_ble_eq_true rfl, Nat.le_of_ble_eq_true rfl⟩ (by decide +kernel) (fun _ => ?_)
      refine zr_if_ne (off := 5) (tgt := 27) (by decide +kernel) (by decide) (fun hc => ?_) (fun hc => ?_)
      · have hf := zift hf hc
        refine zr_run [(.iconst 2, 0, 0, 0, .int (2 : Int32))] [] (WW' := [w_Fk G a0 s0, w_Ld G a1 s1]) (lv' := [some (.ref (a0 0)), some (.ref (a1 0)), some (.int x2), some (.int x3), some (.int x4)]) (pc' := 26) (st' := [.int (2 : Int32)]) (by decide +kernel) rfl rfl ⟨trivial, trivial⟩ ?_
        obtain rfl := Option.some.inj hf
        exact zr_iret (b0 := fun _ => 0) (by decide +kernel) rfl rfl rfl rfl rfl
      · have hf := ziff hf hc
        obtain ⟨q4, e4, hf⟩ := zbi_of hf
        refine zr_run [(.aload_n 0, 0, 0, 0, .null), (.iload_n 2, 0, 0, 0, .null), (.iconst 2, 0, 0, 0, .int (2 : Int32))] [] (WW' := [w_Fk G a0 s0, w_Ld G a1 s1]) (lv' := [some (.ref (a0 0)), some (.ref (a1 0)), some (.int x2), some (.int x3), some (.int x4)]) (pc' := 30) (st' := [.int (2 : Int32), .int x2, .ref (a0 0)]) (by decide +kernel) rfl rfl ⟨trivial, trivial, trivial, trivial⟩ ?_
        refine zr_callV (c_X1_of l G a0 s0 x2 (2 : Int32) q4 e4) (WW' := fun _ => [w_Fk G a0 s0, w_Ld G a1 s1]) (st := []) (st' := [.int q4]) [0] rfl rfl (fun _ => Nat.le_of_ble_eq_true rfl) (fun _ => rfl) rfl rfl nm_X1_of zw_3_141 zw_3_142 zw_3_143 zw_1_8 zw_3_142n rfl rfl rfl (Nat.le_of_ble_eq_true rfl) ⟨Nat.le_of_ble_eq_true rfl, Nat.le_of_ble_eq_true rfl⟩ (by decide +kernel) (fun _ => ?_)
        refine zr_run [(.iconst 2, 0, 0, 0, .int (2 : Int32))] [] (WW' := [w_Fk G a0 s0, w_Ld G a1 s1]) (lv' := [some (.ref (a0 0)), some (.ref (a1 0)), some (.int x2), some (.int x3), some (.int x4)]) (pc' := 34) (st' := [.int (2 : Int32), .int q4]) (by decide +kernel) rfl rfl ⟨trivial, trivial⟩ ?_
        refine zr_icmp_lt (off := 5) (tgt := 39) (by decide +kernel) (by decide) (fun hc => ?_) (fun hc => ?_)
        · have hf := zift hf hc
          obtain ⟨q5, e5, hf⟩ := zbi_of hf
          refine zr_run [(.aload_n 0, 0, 0, 0, .null), (.iload_n 2, 0, 0, 0, .null), (.iconst 0, 0, 0, 0, .int (0 : Int32)), (.iconst 1, 0, 0, 0, .int (1 : Int32))] [] (WW' := [w_Fk G a0 s0, w_Ld G a1 s1]) (lv' := [some (.ref (a0 0)), some (.ref (a1 0)), some (.int x2), some (.int x3), some (.int x4)]) (pc' := 43) (st' := [.int (1 : Int32), .int (0 : Int32), .int x2, .ref (a0 0)]) (by decide +kernel) rfl rfl ⟨trivial, trivial, trivial, trivial, trivial⟩ ?_
          refine zr_callV (c_X1_put l G a0 s0 x2 (0 : Int32) (1 : Int32) q5 e5) (WW' := fun _ => [w_Fk G a0 q5, w_Ld G a1 s1]) (st := []) (st' := []) [0] rfl rfl (fun _ => Nat.le_of_ble_eq_true rfl) (fun _ => rfl) rfl rfl nm_X1_put zw_3_104 zw_3_106 zw_0_10 zw_1_8 zw_3_105 rfl rfl rfl (Nat.le_of_ble_eq_true rfl) ⟨Nat.le_of_ble_eq_true rfl, Nat.le_of_ble_eq_true rfl⟩ (by decide +kernel) (fun _ => ?_)
          obtain ⟨q6, e6, hf⟩ := zbi_of hf
          refine zr_run [(.aload_n 0, 0, 0, 0, .null), (.iload_n 2, 0, 0, 0, .null), (.iconst 2, 0, 0, 0, .int (2 : Int32)), (.iconst 1, 0, 0, 0, .int (1 : Int32))] [] (WW' := [w_Fk G a0 q5, w_Ld G a1 s1]) (lv' := [some (.ref (a0 0)), some (.ref (a1 0)), some (.int x2), some (.int x3), some (.int x4)]) (pc' := 50) (st' := [.int (1 : Int32), .int (2 : Int32), .int x2, .ref (a0 0)]) (by decide +kernel) rfl rfl ⟨trivial, trivial, trivial, trivial, trivial⟩ ?_
          refine zr_callV (c_X1_more l G a0 q5 x2 (2 : Int32) (1 : Int32) q6 e6) (WW' := fun _ => [w_Fk G a0 q6, w_Ld G a1 s1]) (st := []) (st' := []) [0] rfl rfl (fun _ => Nat.le_of_ble_eq_true rfl) (fun _ => rfl) rfl rfl nm_X1_more zw_3_189 zw_3_191 zw_0_11 zw_1_8 zw_3_190 rfl rfl rfl (Nat.le_of_ble_eq_true rfl) ⟨Nat.le_of_ble_eq_true rfl, Nat.le_of_ble_eq_true rfl⟩ (by decide +kernel) (fun _ => ?_)
          obtain ⟨q7, e7, hf⟩ := zbi_of hf
          refine zr_run [(.aload_n 0, 0, 0, 0, .null), (.iload_n 2, 0, 0, 0, .null), (.iconst 3, 0, 0, 0, .int (3 : Int32)), (.iload_n 3, 0, 0, 0, .null)] [] (WW' := [w_Fk G a0 q6, w_Ld G a1 s1]) (lv' := [some (.ref (a0 0)), some (.ref (a1 0)), some (.int x2), some (.int x3), some (.int x4)]) (pc' := 57) (st' := [.int x3, .int (3 : Int32), .int x2, .ref (a0 0)]) (by decide +kernel) rfl rfl ⟨trivial, trivial, trivial, trivial, trivial⟩ ?_
          refine zr_callV (c_X1_put l G a0 q6 x2 (3 : Int32) x3 q7 e7) (WW' := fun _ => [w_Fk G a0 q7, w_Ld G a1 s1]) (st := []) (st' := []) [0] rfl rfl (fun _ => Nat.le_of_ble_eq_true rfl) (fun _ => rfl) rfl rfl nm_X1_put zw_3_104 zw_3_106 zw_0_10 zw_1_8 zw_3_105 rfl rfl rfl (Nat.le_of_ble_eq_true rfl) ⟨Nat.le_of_ble_eq_true rfl, Nat.le_of_ble_eq_true rfl⟩ (by decide +kernel) (fun _ => ?_)
          obtain ⟨q8, e8, hf⟩ := zbi_of hf
          refine zr_run [(.aload_n 0, 0, 0, 0, .null), (.iload_n 2, 0, 0, 0, .null), (.iconst 5, 0, 0, 0, .int (5 : Int32)), (.iconst 0, 0, 0, 0, .int (0 : Int32))] [] (WW' := [w_Fk G a0 q7, w_Ld G a1 s1]) (lv' := [some (.ref (a0 0)), some (.ref (a1 0)), some (.int x2), some (.int x3), some (.int x4)]) (pc' := 64) (st' := [.int (0 : Int32), .int (5 : Int32), .int x2, .ref (a0 0)]) (by decide +kernel) rfl rfl ⟨trivial, trivial, trivial, trivial, trivial⟩ ?_
          refine zr_callV (c_X1_put l G a0 q7 x2 (5 : Int32) (0 : Int32) q8 e8) (WW' := fun _ => [w_Fk G a0 q8, w_Ld G a1 s1]) (st := []) (st' := []) [0] rfl rfl (fun _ => Nat.le_of_ble_eq_true rfl) (fun _ => rfl) rfl rfl nm_X1_put zw_3_104 zw_3_106 zw_0_10 zw_1_8 zw_3_105 rfl rfl rfl (Nat.le_of_ble_eq_true rfl) ⟨Nat.le_of_ble_eq_true rfl, Nat.le_of_ble_eq_true rfl⟩ (by decide +kernel) (fun _ => ?_)
          obtain ⟨q9, e9, hf⟩ := zbi_of hf
          refine zr_run [(.aload_n 0, 0, 0, 0, .null), (.iload_n 2, 0, 0, 0, .null), (.bipush 6, 0, 0, 0, .int (6 : Int32)), (.iload 4, 0, 0, 0, .null)] [] (WW' := [w_Fk G a0 q8, w_Ld G a1 s1]) (lv' := [some (.ref (a0 0)), some (.ref (a1 0)), some (.int x2), some (.int x3), some (.int x4)]) (pc' := 73) (st' := [.int x4, .int (6 : Int32), .int x2, .ref (a0 0)]) (by decide +kernel) rfl rfl ⟨trivial, trivial, trivial, trivial, trivial⟩ ?_
          refine zr_callV (c_X1_put l G a0 q8 x2 (6 : Int32) x4 q9 e9) (WW' := fun _ => [w_Fk G a0 q9, w_Ld G a1 s1]) (st := []) (st' := []) [0] rfl rfl (fun _ => Nat.le_of_ble_eq_true rfl) (fun _ => rfl) rfl rfl nm_X1_put zw_3_104 zw_3_106 zw_0_10 zw_1_8 zw_3_105 rfl rfl rfl (Nat.le_of_ble_eq_true rfl) ⟨Nat.le_of_ble_eq_true rfl, Nat.le_of_ble_eq_true rfl⟩ (by decide +kernel) (fun _ => ?_)
          obtain ⟨q10, e10, hf⟩ := zbi_of hf
          refine zr_run [(.aload_n 0, 0, 0, 0, .null), (.iload_n 2, 0, 0, 0, .null), (.bipush 7, 0, 0, 0, .int (7 : Int32)), (.aload_n 1, 0, 0, 0, .null), (.iload_n 2, 0, 0, 0, .null), (.iconst 1, 0, 0, 0, .int (1 : Int32))] [] (WW' := [w_Fk G a0 q9, w_Ld G a1 s1]) (lv' := [some (.ref (a0 0)), some (.ref (a1 0)), some (.int x2), some (.int x3), some (.int x4)]) (pc' := 83) (st' := [.int (1 : Int32), .int x2, .ref (a1 0), .int (7 : Int32), .int x2, .ref (a0 0)]) (by decide +kernel) rfl rfl ⟨trivial, trivial, trivial, trivial, trivial, trivial, trivial⟩ ?_
          refine zr_callV (c_X3_ofMan l G a1 s1 x2 (1 : Int32) q10 e10) (WW' := fun _ => [w_Fk G a0 q9, w_Ld G a1 s1]) (st := [.int (7 : Int32), .int x2, .ref (a0 0)]) (st' := [.int q10, .int (7 : Int32), .int x2, .ref (a0 0)]) [1] rfl rfl (fun _ => Nat.le_of_ble_eq_true rfl) (fun _ => rfl) rfl rfl nm_X3_ofMan zw_3_108 zw_3_67 zw_3_68 zw_1_7 zw_3_67n rfl rfl rfl (Nat.le_of_ble_eq_true rfl) ⟨Nat.le_of_ble_eq_true rfl, Nat.le_of_ble_eq_true rfl⟩ (by decide +kernel) (fun _ => ?_)
          obtain ⟨q11, e11, hf⟩ := zbi_of hf
          refine zr_callV (c_X1_put l G a0 q9 x2 (7 : Int32) q10 q11 e11) (WW' := fun _ => [w_Fk G a0 q11, w_Ld G a1 s1]) (st := []) (st' := []) [0] rfl rfl (fun _ => Nat.le_of_ble_eq_true rfl) (fun _ => rfl) rfl rfl nm_X1_put zw_3_104 zw_3_106 zw_0_10 zw_1_8 zw_3_105 rfl rfl rfl (Nat.le_of_ble_eq_true rfl) ⟨Nat.le_of_ble_eq_true rfl, Nat.le_of_ble_eq_true rfl⟩ (by decide +kernel) (fun _ => ?_)
          obtain ⟨q12, e12, hf⟩ := zbi_of hf
          refine zr_run [(.aload_n 0, 0, 0, 0, .null), (.iload_n 2, 0, 0, 0, .null), (.bipush 8, 0, 0, 0, .int (8 : Int32)), (.iconst 0, 0, 0, 0, .int (0 : Int32))] [] (WW' := [w_Fk G a0 q11, w_Ld G a1 s1]) (lv' := [some (.ref (a0 0)), some (.ref (a1 0)), some (.int x2), some (.int x3), some (.int x4)]) (pc' := 94) (st' := [.int (0 : Int32), .int (8 : Int32), .int x2, .ref (a0 0)]) (by decide +kernel) rfl rfl ⟨trivial, trivial, trivial, trivial, trivial⟩ ?_
          refine zr_callV (c_X1_put l G a0 q11 x2 (8 : Int32) (0 : Int32) q12 e12) (WW' := fun _ => [w_Fk G a0 q12, w_Ld G a1 s1]) (st := []) (st' := []) [0] rfl rfl (fun _ => Nat.le_of_ble_eq_true rfl) (fun _ => rfl) rfl rfl nm_X1_put zw_3_104 zw_3_106 zw_0_10 zw_1_8 zw_3_105 rfl rfl rfl (Nat.le_of_ble_eq_true rfl) ⟨Nat.le_of_ble_eq_true rfl, Nat.le_of_ble_eq_true rfl⟩ (by decide +kernel) (fun _ => ?_)
          refine zr_run [(.iconst 0, 0, 0, 0, .int (0 : Int32))] [] (WW' := [w_Fk G a0 q12, w_Ld G a1 s1]) (lv' := [some (.ref (a0 0)), some (.ref (a1 0)), some (.int x2), some (.int x3), some (.int x4)]) (pc' := 98) (st' := [.int (0 : Int32)]) (by decide +kernel) rfl rfl ⟨trivial, trivial⟩ ?_
          obtain rfl := Option.some.inj hf
          exact zr_iret (b0 := fun _ => 0) (by decide +kernel) rfl rfl rfl rfl rfl
        · have hf := ziff hf hc
          refine zr_run [(.iconst 3, 0, 0, 0, .int (3 : Int32))] [] (WW' := [w_Fk G a0 s0, w_Ld G a1 s1]) (lv' := [some (.ref (a0 0)), some (.ref (a1 0)), some (.int x2), some (.int x3), some (.int x4)]) (pc' := 38) (st' := [.int (3 : Int32)]) (by decide +kernel) rfl rfl ⟨trivial, trivial⟩ ?_
          obtain rfl := Option.some.inj hf
          exact zr_iret (b0 := fun _ => 0) (by decide +kernel) rfl rfl rfl rfl rfl
    · have hf := ziff hf hc
      refine zr_run [(.iconst 1, 0, 0, 0, .int (1 : Int32))] [] (WW' := [w_Fk G a0 s0, w_Ld G a1 s1]) (lv' := [some (.ref (a0 0)), some (.ref (a1 0)), some (.int x2), some (.int x3), some (.int x4)]) (pc' := 10) (st' := [.int (1 : Int32)]) (by decide +kernel) rfl rfl ⟨trivial, trivial⟩ ?_
      obtain rfl := Option.some.inj hf
      exact zr_iret (b0 := fun _ => 0) (by decide +kernel) rfl rfl rfl rfl rfl
  exact zj_entry [some (.ref (a0 0)), some (.ref (a1 0)), some (.int x2), some (.int x3), some (.int x4)] (by decide +kernel) rfl (by decide) (Nat.le_of_ble_eq_true rfl) rfl rfl (key _)
def M_X1_orders : zj_M := (RX1, cX1_orders, 4, (some .int), { frames := 1, cells := 0, slots := 0, locals := 24 }, false)
theorem nm_X1_orders : zj_nm yX1_orders 3 := ⟨by decide +kernel, by decide +kernel, by decide +kernel⟩
def f_X1_orders  (s0 : FkT) (s1 : LdT) (x2 : Int32) (x3 : Int32) : Option (Int32 × FkT) := ((f_X1_of s0 x2 (0 : Int32)).bind fun q1 => (if q1 = (1 : Int32) then ((f_X3_ofMan s1 x2 (1 : Int32)).bind fun q2 => (if q2 < x3 then some ((2 : Int32), s0) else ((f_X1_of s0 x2 (7 : Int32)).bind fun q3 => (if x3 = q3 then some ((3 : Int32), s0) else ((f_X1_put s0 x2 (7 : Int32) x3).bind fun q4 => some ((0 : Int32), q4)))))) else some ((1 : Int32), s0)))
set_option maxRecDepth 100000 in
set_option maxHeartbeats 4000000 in
theorem c_X1_orders (l : Launch) (G : zj_G) (a0 : Nat → Nat) (a1 : Nat → Nat) (s0 : FkT) (s1 : LdT) (x2 : Int32) (x3 : Int32) (r : Int32 × FkT) (hf : f_X1_orders s0 s1 x2 x3 = some r) : zj_C l G M_X1_orders yX1_orders [w_Fk G a0 s0, w_Ld G a1 s1] [.ref (a0 0), .ref (a1 0), .int x2, .int x3] (some (.int r.1)) (fun _ => [w_Fk G a0 r.2, w_Ld G a1 s1]) := by
  have key : ∀ W0 : List va_W, zj_J l G M_X1_orders W0 (zj_ret G M_X1_orders W0 (some (.int r.1)) (fun _ => [w_Fk G a0 r.2, w_Ld G a1 s1])) 0 0 [w_Fk G a0 s0, w_Ld G a1 s1] [some (.ref (a0 0)), some (.ref (a1 0)), some (.int x2), some (.int x3)] 0 [] := by
    intro W0
    unfold f_X1_orders at hf
    obtain ⟨q1, e1, hf⟩ := zbi_of hf
    refine zr_run [(.aload_n 0, 0, 0, 0, .null), (.iload_n 2, 0, 0, 0, .null), (.iconst 0, 0, 0, 0, .int (0 : Int32))] [] (WW' := [w_Fk G a0 s0, w_Ld G a1 s1]) (lv' := [some (.ref (a0 0)), some (.ref (a1 0)), some (.int x2), some (.int x3)]) (pc' := 3) (st' := [.int (0 : Int32), .int x2, .ref (a0 0)]) (by decide +kernel) rfl rfl ⟨trivial, trivial, trivial, trivial⟩ ?_
    refine zr_callV (c_X1_of l G a0 s0 x2 (0 : Int32) q1 e1) (WW' := fun _ => [w_Fk G a0 s0, w_Ld G a1 s1]) (st := []) (st' := [.int q1]) [0] rfl rfl (fun _ => Nat.le_of_ble_eq_true rfl) (fun _ => rfl) rfl rfl nm_X1_of zw_3_141 zw_3_142 zw_3_143 zw_1_8 zw_3_142n rfl rfl rfl (Nat.le_of_ble_eq_true rfl) ⟨Nat.le_of_ble_eq_true rfl, Nat.le_of_ble_eq_true rfl⟩ (by decide +kernel) (fun _ => ?_)
    refine zr_run [(.iconst 1, 0, 0, 0, .int (1 : Int32))] [] (WW' := [w_Fk G a0 s0, w_Ld G a1 s1]) (lv' := [some (.ref (a0 0)), some (.ref (a1 0)), some (.int x2), some (.int x3)]) (pc' := 7) (st' := [.int (1 : Int32), .int q1]) (by decide +kernel) rfl rfl ⟨trivial, trivial⟩ ?_
    refine zr_icmp_eq (off := 5) (tgt := 12) (by decide +kernel) (by decide) (fun hc => ?_) (fun hc => ?_)
    · have hf := zift hf hc
      obtain ⟨q2, e2, hf⟩ := zbi_of hf
      refine zr_run [(.iload_n 3, 0, 0, 0, .null), (.aload_n 1, 0, 0, 0, .null), (.iload_n 2, 0, 0, 0, .null), (.iconst 1, 0, 0, 0, .int (1 : Int32))] [] (WW' := [w_Fk G a0 s0, w_Ld G a1 s1]) (lv' := [some (.ref (a0 0)), some (.ref (a1 0)), some (.int x2), some (.int x3)]) (pc' := 16) (st' := [.int (1 : Int32), .int x2, .ref (a1 0), .int x3]) (by decide +kernel) rfl rfl ⟨trivial, trivial, trivial, trivial, trivial⟩ ?_
      refine zr_callV (c_X3_ofMan l G a1 s1 x2 (1 : Int32) q2 e2) (WW' := fun _ => [w_Fk G a0 s0, w_Ld G a1 s1]) (st := [.int x3]) (st' := [.int q2, .int x3]) [1] rfl rfl (fun _ => Nat.le_of_ble_eq_true rfl) (fun _ => rfl) rfl rfl nm_X3_ofMan zw_3_108 zw_3_67 zw_3_68 zw_1_7 zw_3_67n rfl rfl rfl (Nat.le_of_ble_eq_true rfl) ⟨Nat.le_of_ble_eq_true rfl, Nat.le_of_ble_eq_true rfl⟩ (by decide +kernel) (fun _ => ?_)
      refine zr_icmp_le (off := 5) (tgt := 24) (by decide +kernel) (by decide) (fun hc => ?_) (fun hc => ?_)
      · have hf := zift hf hc
        refine zr_run [(.iconst 2, 0, 0, 0, .int (2 : Int32))] [] (WW' := [w_Fk G a0 s0, w_Ld G a1 s1]) (lv' := [some (.ref (a0 0)), some (.ref (a1 0)), some (.int x2), some (.int x3)]) (pc' := 23) (st' := [.int (2 : Int32)]) (by decide +kernel) rfl rfl ⟨trivial, trivial⟩ ?_
        obtain rfl := Option.some.inj hf
        exact zr_iret (b0 := fun _ => 0) (by decide +kernel) rfl rfl rfl rfl rfl
      · have hf := ziff hf hc
        obtain ⟨q3, e3, hf⟩ := zbi_of hf
        refine zr_run [(.iload_n 3, 0, 0, 0, .null), (.aload_n 0, 0, 0, 0, .null), (.iload_n 2, 0, 0, 0, .null), (.bipush 7, 0, 0, 0, .int (7 : Int32))] [] (WW' := [w_Fk G a0 s0, w_Ld G a1 s1]) (lv' := [some (.ref (a0 0)), some (.ref (a1 0)), some (.int x2), some (.int x3)]) (pc' := 29) (st' := [.int (7 : Int32), .int x2, .ref (a0 0), .int x3]) (by decide +kernel) rfl rfl ⟨trivial, trivial, trivial, trivial, trivial⟩ ?_
        refine zr_callV (c_X1_of l G a0 s0 x2 (7 : Int32) q3 e3) (WW' := fun _ => [w_Fk G a0 s0, w_Ld G a1 s1]) (st := [.int x3]) (st' := [.int q3, .int x3]) [0] rfl rfl (fun _ => Nat.le_of_ble_eq_true rfl) (fun _ => rfl) rfl rfl nm_X1_of zw_3_141 zw_3_142 zw_3_143 zw_1_8 zw_3_142n rfl rfl rfl (Nat.le_of_ble_eq_true rfl) ⟨Nat.le_of_ble_eq_true rfl, Nat.le_of_ble_eq_true rfl⟩ (by decide +kernel) (fun _ => ?_)
        refine zr_icmp_ne (off := 5) (tgt := 37) (by decide +kernel) (by decide) (fun hc => ?_) (fun hc => ?_)
        · have hf := zift hf hc
          refine zr_run [(.iconst 3, 0, 0, 0, .int (3 : Int32))] [] (WW' := [w_Fk G a0 s0, w_Ld G a1 s1]) (lv' := [some (.ref (a0 0)), some (.ref (a1 0)), some (.int x2), some (.int x3)]) (pc' := 36) (st' := [.int (3 : Int32)]) (by decide +kernel) rfl rfl ⟨trivial, trivial⟩ ?_
          obtain rfl := Option.some.inj hf
          exact zr_iret (b0 := fun _ => 0) (by decide +kernel) rfl rfl rfl rfl rfl
        · have hf := ziff hf hc
          obtain ⟨q4, e4, hf⟩ := zbi_of hf
          refine zr_run [(.aload_n 0, 0, 0, 0, .null), (.iload_n 2, 0, 0, 0, .null), (.bipush 7, 0, 0, 0, .int (7 : Int32)), (.iload_n 3, 0, 0, 0, .null)] [] (WW' := [w_Fk G a0 s0, w_Ld G a1 s1]) (lv' := [some (.ref (a0 0)), some (.ref (a1 0)), some (.int x2), some (.int x3)]) (pc' := 42) (st' := [.int x3, .int (7 : Int32), .int x2, .ref (a0 0)]) (by decide +kernel) rfl rfl ⟨trivial, trivial, trivial, trivial, trivial⟩ ?_
          refine zr_callV (c_X1_put l G a0 s0 x2 (7 : Int32) x3 q4 e4) (WW' := fun _ => [w_Fk G a0 q4, w_Ld G a1 s1]) (st := []) (st' := []) [0] rfl rfl (fun _ => Nat.le_of_ble_eq_true rfl) (fun _ => rfl) rfl rfl nm_X1_put zw_3_104 zw_3_106 zw_0_10 zw_1_8 zw_3_105 rfl rfl rfl (Nat.le_of_ble_eq_true rfl) ⟨Nat.le_of_ble_eq_true rfl, Nat.le_of_ble_eq_true rfl⟩ (by decide +kernel) (fun _ => ?_)
          refine zr_run [(.iconst 0, 0, 0, 0, .int (0 : Int32))] [] (WW' := [w_Fk G a0 q4, w_Ld G a1 s1]) (lv' := [some (.ref (a0 0)), some (.ref (a1 0)), some (.int x2), some (.int x3)]) (pc' := 46) (st' := [.int (0 : Int32)]) (by decide +kernel) rfl rfl ⟨trivial, trivial⟩ ?_
          obtain rfl := Option.some.inj hf
          exact zr_iret (b0 := fun _ => 0) (by decide +kernel) rfl rfl rfl rfl rfl
    · have hf := ziff hf hc
      refine zr_run [(.iconst 1, 0, 0, 0, .int (1 : Int32))] [] (WW' := [w_Fk G a0 s0, w_Ld G a1 s1]) (lv' := [some (.ref (a0 0)), some (.ref (a1 0)), some (.int x2), some (.int x3)]) (pc' := 11) (st' := [.int (1 : Int32)]) (by decide +kernel) rfl rfl ⟨trivial, trivial⟩ ?_
      obtain rfl := Option.some.inj hf
      exact zr_iret (b0 := fun _ => 0) (by decide +kernel) rfl rfl rfl rfl rfl
  exact zj_entry [some (.ref (a0 0)), some (.ref (a1 0)), some (.int x2), some (.int x3)] (by decide +kernel) rfl (by decide) (Nat.le_of_ble_eq_true rfl) rfl rfl (key _)
def M_X1_slips : zj_M := (RX1, cX1_slips, 2, (some .int), { frames := 1, cells := 0, slots := 0, locals := 24 }, false)
theorem nm_X1_slips : zj_nm yX1_slips 1 := ⟨by decide +kernel, by decide +kernel, by decide +kernel⟩
def f_X1_slips  (s0 : FkT) (x1 : Int32) : Option (Int32 × FkT) := ((f_X1_of s0 x1 (0 : Int32)).bind fun q1 => (if q1 = (1 : Int32) then ((f_X1_put s0 x1 (0 : Int32) (4 : Int32)).bind fun q2 => some ((0 : Int32), q2)) else some ((1 : Int32), s0)))
set_option maxRecDepth 100000 in
set_option maxHeartbeats 4000000 in
theorem c_X1_slips (l : Launch) (G : zj_G) (a0 : Nat → Nat) (s0 : FkT) (x1 : Int32) (r : Int32 × FkT) (hf : f_X1_slips s0 x1 = some r) : zj_C l G M_X1_slips yX1_slips [w_Fk G a0 s0] [.ref (a0 0), .int x1] (some (.int r.1)) (fun _ => [w_Fk G a0 r.2]) := by
  have key : ∀ W0 : List va_W, zj_J l G M_X1_slips W0 (zj_ret G M_X1_slips W0 (some (.int r.1)) (fun _ => [w_Fk G a0 r.2])) 0 0 [w_Fk G a0 s0] [some (.ref (a0 0)), some (.int x1)] 0 [] := by
    intro W0
    unfold f_X1_slips at hf
    obtain ⟨q1, e1, hf⟩ := zbi_of hf
    refine zr_run [(.aload_n 0, 0, 0, 0, .null), (.iload_n 1, 0, 0, 0, .null), (.iconst 0, 0, 0, 0, .int (0 : Int32))] [] (WW' := [w_Fk G a0 s0]) (lv' := [some (.ref (a0 0)), some (.int x1)]) (pc' := 3) (st' := [.int (0 : Int32), .int x1, .ref (a0 0)]) (by decide +kernel) rfl rfl ⟨trivial, trivial, trivial, trivial⟩ ?_
    refine zr_callV (c_X1_of l G a0 s0 x1 (0 : Int32) q1 e1) (WW' := fun _ => [w_Fk G a0 s0]) (st := []) (st' := [.int q1]) [0] rfl rfl (fun _ => Nat.le_of_ble_eq_true rfl) (fun _ => rfl) rfl rfl nm_X1_of zw_3_141 zw_3_142 zw_3_143 zw_1_8 zw_3_142n rfl rfl rfl (Nat.le_of_ble_eq_true rfl) ⟨Nat.le_of_ble_eq_true rfl, Nat.le_of_ble_eq_true rfl⟩ (by decide +kernel) (fun _ => ?_)
    refine zr_run [(.iconst 1, 0, 0, 0, .int (1 : Int32))] [] (WW' := [w_Fk G a0 s0]) (lv' := [some (.ref (a0 0)), some (.int x1)]) (pc' := 7) (st' := [.int (1 : Int32), .int q1]) (by decide +kernel) rfl rfl ⟨trivial, trivial⟩ ?_
    refine zr_icmp_eq (off := 5) (tgt := 12) (by decide +kernel) (by decide) (fun hc => ?_) (fun hc => ?_)
    · have hf := zift hf hc
      obtain ⟨q2, e2, hf⟩ := zbi_of hf
      refine zr_run [(.aload_n 0, 0, 0, 0, .null), (.iload_n 1, 0, 0, 0, .null), (.iconst 0, 0, 0, 0, .int (0 : Int32)), (.iconst 4, 0, 0, 0, .int (4 : Int32))] [] (WW' := [w_Fk G a0 s0]) (lv' := [some (.ref (a0 0)), some (.int x1)]) (pc' := 16) (st' := [.int (4 : Int32), .int (0 : Int32), .int x1, .ref (a0 0)]) (by decide +kernel) rfl rfl ⟨trivial, trivial, trivial, trivial, trivial⟩ ?_
      refine zr_callV (c_X1_put l G a0 s0 x1 (0 : Int32) (4 : Int32) q2 e2) (WW' := fun _ => [w_Fk G a0 q2]) (st := []) (st' := []) [0] rfl rfl (fun _ => Nat.le_of_ble_eq_true rfl) (fun _ => rfl) rfl rfl nm_X1_put zw_3_104 zw_3_106 zw_0_10 zw_1_8 zw_3_105 rfl rfl rfl (Nat.le_of_ble_eq_true rfl) ⟨Nat.le_of_ble_eq_true rfl, Nat.le_of_ble_eq_true rfl⟩ (by decide +kernel) (fun _ => ?_)
      refine zr_run [(.iconst 0, 0, 0, 0, .int (0 : Int32))] [] (WW' := [w_Fk G a0 q2]) (lv' := [some (.ref (a0 0)), some (.int x1)]) (pc' := 20) (st' := [.int (0 : Int32)]) (by decide +kernel) rfl rfl ⟨trivial, trivial⟩ ?_
      obtain rfl := Option.some.inj hf
      exact zr_iret (b0 := fun _ => 0) (by decide +kernel) rfl rfl rfl rfl rfl
    · have hf := ziff hf hc
      refine zr_run [(.iconst 1, 0, 0, 0, .int (1 : Int32))] [] (WW' := [w_Fk G a0 s0]) (lv' := [some (.ref (a0 0)), some (.int x1)]) (pc' := 11) (st' := [.int (1 : Int32)]) (by decide +kernel) rfl rfl ⟨trivial, trivial⟩ ?_
      obtain rfl := Option.some.inj hf
      exact zr_iret (b0 := fun _ => 0) (by decide +kernel) rfl rfl rfl rfl rfl
  exact zj_entry [some (.ref (a0 0)), some (.int x1)] (by decide +kernel) rfl (by decide) (Nat.le_of_ble_eq_true rfl) rfl rfl (key _)
def M_X1_enters : zj_M := (RX1, cX1_enters, 4, (some .int), { frames := 1, cells := 0, slots := 0, locals := 24 }, false)
theorem nm_X1_enters : zj_nm yX1_enters 2 := ⟨by decide +kernel, by decide +kernel, by decide +kernel⟩
def f_X1_enters  (s0 : FkT) (s1 : LdT) (x2 : Int32) : Option (Int32 × FkT) := ((f_X1_of s0 x2 (0 : Int32)).bind fun q1 => (if q1 = (1 : Int32) then ((f_X1_of s0 x2 (11 : Int32)).bind fun q2 => ((f_X1_of s0 x2 (12 : Int32)).bind fun q3 => (if q3 = 0 then ((f_X3_ofPlace s1 q2 (0 : Int32)).bind fun q4 => (if q4 = 0 then ((f_X1_put s0 x2 (0 : Int32) (0 : Int32)).bind fun q5 => ((f_X1_put q5 x2 (4 : Int32) q2).bind fun q6 => ((f_X1_put q6 x2 (5 : Int32) (0 : Int32)).bind fun q7 => ((f_X1_put q7 x2 (8 : Int32) (0 : Int32)).bind fun q8 => some ((0 : Int32), q8))))) else some ((2 : Int32), s0))) else some ((2 : Int32), s0)))) else some ((1 : Int32), s0)))
set_option maxRecDepth 100000 in
set_option maxHeartbeats 4000000 in
theorem c_X1_enters (l : Launch) (G : zj_G) (a0 : Nat → Nat) (a1 : Nat → Nat) (s0 : FkT) (s1 : LdT) (x2 : Int32) (r : Int32 × FkT) (hf : f_X1_enters s0 s1 x2 = some r) : zj_C l G M_X1_enters yX1_enters [w_Fk G a0 s0, w_Ld G a1 s1] [.ref (a0 0), .ref (a1 0), .int x2] (some (.int r.1)) (fun _ => [w_Fk G a0 r.2, w_Ld G a1 s1]) := by
  have key : ∀ W0 : List va_W, zj_J l G M_X1_enters W0 (zj_ret G M_X1_enters W0 (some (.int r.1)) (fun _ => [w_Fk G a0 r.2, w_Ld G a1 s1])) 0 0 [w_Fk G a0 s0, w_Ld G a1 s1] [some (.ref (a0 0)), some (.ref (a1 0)), some (.int x2), none] 0 [] := by
    intro W0
    unfold f_X1_enters at hf
    obtain ⟨q1, e1, hf⟩ := zbi_of hf
    refine zr_run [(.aload_n 0, 0, 0, 0, .null), (.iload_n 2, 0, 0, 0, .null), (.iconst 0, 0, 0, 0, .int (0 : Int32))] [] (WW' := [w_Fk G a0 s0, w_Ld G a1 s1]) (lv' := [some (.ref (a0 0)), some (.ref (a1 0)), some (.int x2), none]) (pc' := 3) (st' := [.int (0 : Int32), .int x2, .ref (a0 0)]) (by decide +kernel) rfl rfl ⟨trivial, trivial, trivial, trivial⟩ ?_
    refine zr_callV (c_X1_of l G a0 s0 x2 (0 : Int32) q1 e1) (WW' := fun _ => [w_Fk G a0 s0, w_Ld G a1 s1]) (st := []) (st' := [.int q1]) [0] rfl rfl (fun _ => Nat.le_of_ble_eq_true rfl) (fun _ => rfl) rfl rfl nm_X1_of zw_3_141 zw_3_142 zw_3_143 zw_1_8 zw_3_142n rfl rfl rfl (Nat.le_of_ble_eq_true rfl) ⟨Nat.le_of_ble_eq_true rfl, Nat.le_of_ble_eq_true rfl⟩ (by decide +kernel) (fun _ => ?_)
    refine zr_run [(.iconst 1, 0, 0, 0, .int (1 : Int32))] [] (WW' := [w_Fk G a0 s0, w_Ld G a1 s1]) (lv' := [some (.ref (a0 0)), some (.ref (a1 0)), some (.int x2), none]) (pc' := 7) (st' := [.int (1 : Int32), .int q1]) (by decide +kernel) rfl rfl ⟨trivial, trivial⟩ ?_
    refine zr_icmp_eq (off := 5) (tgt := 12) (by decide +kernel) (by decide) (fun hc => ?_) (fun hc => ?_)
    · have hf := zift hf hc
      obtain ⟨q2, e2, hf⟩ := zbi_of hf
      refine zr_run [(.aload_n 0, 0, 0, 0, .null), (.iload_n 2, 0, 0, 0, .null), (.bipush 11, 0, 0, 0, .int (11 : Int32))] [] (WW' := [w_Fk G a0 s0, w_Ld G a1 s1]) (lv' := [some (.ref (a0 0)), some (.ref (a1 0)), some (.int x2), none]) (pc' := 16) (st' := [.int (11 : Int32), .int x2, .ref (a0 0)]) (by decide +kernel) rfl rfl ⟨trivial, trivial, trivial, trivial⟩ ?_
      refine zr_callV (c_X1_of l G a0 s0 x2 (11 : Int32) q2 e2) (WW' := fun _ => [w_Fk G a0 s0, w_Ld G a1 s1]) (st := []) (st' := [.int q2]) [0] rfl rfl (fun _ => Nat.le_of_ble_eq_true rfl) (fun _ => rfl) rfl rfl nm_X1_of zw_3_141 zw_3_142 zw_3_143 zw_1_8 zw_3_142n rfl rfl rfl (Nat.le_of_ble_eq_true rfl) ⟨Nat.le_of_ble_eq_true rfl, Nat.le_of_ble_eq_true rfl⟩ (by decide +kernel) (fun _ => ?_)
      obtain ⟨q3, e3, hf⟩ := zbi_of hf
      refine zr_run [(.istore_n 3, 0, 0, 0, .null), (.aload_n 0, 0, 0, 0, .null), (.iload_n 2, 0, 0, 0, .null), (.bipush 12, 0, 0, 0, .int (12 : Int32))] [] (WW' := [w_Fk G a0 s0, w_Ld G a1 s1]) (lv' := [some (.ref (a0 0)), some (.ref (a1 0)), some (.int x2), some (.int q2)]) (pc' := 24) (st' := [.int (12 : Int32), .int x2, .ref (a0 0)]) (by decide +kernel) rfl rfl ⟨trivial, trivial, trivial, trivial, trivial⟩ ?_
      refine zr_callV (c_X1_of l G a0 s0 x2 (12 : Int32) q3 e3) (WW' := fun _ => [w_Fk G a0 s0, w_Ld G a1 s1]) (st := []) (st' := [.int q3]) [0] rfl rfl (fun _ => Nat.le_of_ble_eq_true rfl) (fun _ => rfl) rfl rfl nm_X1_of zw_3_141 zw_3_142 zw_3_143 zw_1_8 zw_3_142n rfl rfl rfl (Nat.le_of_ble_eq_true rfl) ⟨Nat.le_of_ble_eq_true rfl, Nat.le_of_ble_eq_true rfl⟩ (by decide +kernel) (fun _ => ?_)
      refine zr_if_ne (off := 12) (tgt := 39) (by decide +kernel) (by decide) (fun hc => ?_) (fun hc => ?_)
      · have hf := zift hf hc
        obtain ⟨q4, e4, hf⟩ := zbi_of hf
        refine zr_run [(.aload_n 1, 0, 0, 0, .null), (.iload_n 3, 0, 0, 0, .null), (.iconst 0, 0, 0, 0, .int (0 : Int32))] [] (WW' := [w_Fk G a0 s0, w_Ld G a1 s1]) (lv' := [some (.ref (a0 0)), some (.ref (a1 0)), some (.int x2), some (.int q2)]) (pc' := 33) (st' := [.int (0 : Int32), .int q2, .ref (a1 0)]) (by decide +kernel) rfl rfl ⟨trivial, trivial, trivial, trivial⟩ ?_
        refine zr_callV (c_X3_ofPlace l G a1 s1 q2 (0 : Int32) q4 e4) (WW' := fun _ => [w_Fk G a0 s0, w_Ld G a1 s1]) (st := []) (st' := [.int q4]) [1] rfl rfl (fun _ => Nat.le_of_ble_eq_true rfl) (fun _ => rfl) rfl rfl nm_X3_ofPlace zw_3_226 zw_3_55 zw_3_56 zw_1_7 zw_3_55n rfl rfl rfl (Nat.le_of_ble_eq_true rfl) ⟨Nat.le_of_ble_eq_true rfl, Nat.le_of_ble_eq_true rfl⟩ (by decide +kernel) (fun _ => ?_)
        refine zr_if_eq (off := 5) (tgt := 41) (by decide +kernel) (by decide) (fun hc => ?_) (fun hc => ?_)
        · have hf := zift hf hc
          obtain ⟨q5, e5, hf⟩ := zbi_of hf
          refine zr_run [(.aload_n 0, 0, 0, 0, .null), (.iload_n 2, 0, 0, 0, .null), (.iconst 0, 0, 0, 0, .int (0 : Int32)), (.iconst 0, 0, 0, 0, .int (0 : Int32))] [] (WW' := [w_Fk G a0 s0, w_Ld G a1 s1]) (lv' := [some (.ref (a0 0)), some (.ref (a1 0)), some (.int x2), some (.int q2)]) (pc' := 45) (st' := [.int (0 : Int32), .int (0 : Int32), .int x2, .ref (a0 0)]) (by decide +kernel) rfl rfl ⟨trivial, trivial, trivial, trivial, trivial⟩ ?_
          refine zr_callV (c_X1_put l G a0 s0 x2 (0 : Int32) (0 : Int32) q5 e5) (WW' := fun _ => [w_Fk G a0 q5, w_Ld G a1 s1]) (st := []) (st' := []) [0] rfl rfl (fun _ => Nat.le_of_ble_eq_true rfl) (fun _ => rfl) rfl rfl nm_X1_put zw_3_104 zw_3_106 zw_0_10 zw_1_8 zw_3_105 rfl rfl rfl (Nat.le_of_ble_eq_true rfl) ⟨Nat.le_of_ble_eq_true rfl, Nat.le_of_ble_eq_true rfl⟩ (by decide +kernel) (fun _ => ?_)
          obtain ⟨q6, e6, hf⟩ := zbi_of hf
          refine zr_run [(.aload_n 0, 0, 0, 0, .null), (.iload_n 2, 0, 0, 0, .null), (.iconst 4, 0, 0, 0, .int (4 : Int32)), (.iload_n 3, 0, 0, 0, .null)] [] (WW' := [w_Fk G a0 q5, w_Ld G a1 s1]) (lv' := [some (.ref (a0 0)), some (.ref (a1 0)), some (.int x2), some (.int q2)]) (pc' := 52) (st' := [.int q2, .int (4 : Int32), .int x2, .ref (a0 0)]) (by decide +kernel) rfl rfl ⟨trivial, trivial, trivial, trivial, trivial⟩ ?_
          refine zr_callV (c_X1_put l G a0 q5 x2 (4 : Int32) q2 q6 e6) (WW' := fun _ => [w_Fk G a0 q6, w_Ld G a1 s1]) (st := []) (st' := []) [0] rfl rfl (fun _ => Nat.le_of_ble_eq_true rfl) (fun _ => rfl) rfl rfl nm_X1_put zw_3_104 zw_3_106 zw_0_10 zw_1_8 zw_3_105 rfl rfl rfl (Nat.le_of_ble_eq_true rfl) ⟨Nat.le_of_ble_eq_true rfl, Nat.le_of_ble_eq_true rfl⟩ (by decide +kernel) (fun _ => ?_)
          obtain ⟨q7, e7, hf⟩ := zbi_of hf
          refine zr_run [(.aload_n 0, 0, 0, 0, .null), (.iload_n 2, 0, 0, 0, .null), (.iconst 5, 0, 0, 0, .int (5 : Int32)), (.iconst 0, 0, 0, 0, .int (0 : Int32))] [] (WW' := [w_Fk G a0 q6, w_Ld G a1 s1]) (lv' := [some (.ref (a0 0)), some (.ref (a1 0)), some (.int x2), some (.int q2)]) (pc' := 59) (st' := [.int (0 : Int32), .int (5 : Int32), .int x2, .ref (a0 0)]) (by decide +kernel) rfl rfl ⟨trivial, trivial, trivial, trivial, trivial⟩ ?_
          refine zr_callV (c_X1_put l G a0 q6 x2 (5 : Int32) (0 : Int32) q7 e7) (WW' := fun _ => [w_Fk G a0 q7, w_Ld G a1 s1]) (st := []) (st' := []) [0] rfl rfl (fun _ => Nat.le_of_ble_eq_true rfl) (fun _ => rfl) rfl rfl nm_X1_put zw_3_104 zw_3_106 zw_0_10 zw_1_8 zw_3_105 rfl rfl rfl (Nat.le_of_ble_eq_true rfl) ⟨Nat.le_of_ble_eq_true rfl, Nat.le_of_ble_eq_true rfl⟩ (by decide +kernel) (fun _ => ?_)
          obtain ⟨q8, e8, hf⟩ := zbi_of hf
          refine zr_run [(.aload_n 0, 0, 0, 0, .null), (.iload_n 2, 0, 0, 0, .null), (.bipush 8, 0, 0, 0, .int (8 : Int32)), (.iconst 0, 0, 0, 0, .int (0 : Int32))] [] (WW' := [w_Fk G a0 q7, w_Ld G a1 s1]) (lv' := [some (.ref (a0 0)), some (.ref (a1 0)), some (.int x2), some (.int q2)]) (pc' := 67) (st' := [.int (0 : Int32), .int (8 : Int32), .int x2, .ref (a0 0)]) (by decide +kernel) rfl rfl ⟨trivial, trivial, trivial, trivial, trivial⟩ ?_
          refine zr_callV (c_X1_put l G a0 q7 x2 (8 : Int32) (0 : Int32) q8 e8) (WW' := fun _ => [w_Fk G a0 q8, w_Ld G a1 s1]) (st := []) (st' := []) [0] rfl rfl (fun _ => Nat.le_of_ble_eq_true rfl) (fun _ => rfl) rfl rfl nm_X1_put zw_3_104 zw_3_106 zw_0_10 zw_1_8 zw_3_105 rfl rfl rfl (Nat.le_of_ble_eq_true rfl) ⟨Nat.le_of_ble_eq_true rfl, Nat.le_of_ble_eq_true rfl⟩ (by decide +kernel) (fun _ => ?_)
          refine zr_run [(.iconst 0, 0, 0, 0, .int (0 : Int32))] [] (WW' := [w_Fk G a0 q8, w_Ld G a1 s1]) (lv' := [some (.ref (a0 0)), some (.ref (a1 0)), some (.int x2), some (.int q2)]) (pc' := 71) (st' := [.int (0 : Int32)]) (by decide +kernel) rfl rfl ⟨trivial, trivial⟩ ?_
          obtain rfl := Option.some.inj hf
          exact zr_iret (b0 := fun _ => 0) (by decide +kernel) rfl rfl rfl rfl rfl
        · have hf := ziff hf hc
          refine zr_run [(.iconst 2, 0, 0, 0, .int (2 : Int32))] [] (WW' := [w_Fk G a0 s0, w_Ld G a1 s1]) (lv' := [some (.ref (a0 0)), some (.ref (a1 0)), some (.int x2), some (.int q2)]) (pc' := 40) (st' := [.int (2 : Int32)]) (by decide +kernel) rfl rfl ⟨trivial, trivial⟩ ?_
          obtain rfl := Option.some.inj hf
          exact zr_iret (b0 := fun _ => 0) (by decide +kernel) rfl rfl rfl rfl rfl
      · have hf := ziff hf hc
        refine zr_run [(.iconst 2, 0, 0, 0, .int (2 : Int32))] [] (WW' := [w_Fk G a0 s0, w_Ld G a1 s1]) (lv' := [some (.ref (a0 0)), some (.ref (a1 0)), some (.int x2), some (.int q2)]) (pc' := 40) (st' := [.int (2 : Int32)]) (by decide +kernel) rfl rfl ⟨trivial, trivial⟩ ?_
        obtain rfl := Option.some.inj hf
        exact zr_iret (b0 := fun _ => 0) (by decide +kernel) rfl rfl rfl rfl rfl
    · have hf := ziff hf hc
      refine zr_run [(.iconst 1, 0, 0, 0, .int (1 : Int32))] [] (WW' := [w_Fk G a0 s0, w_Ld G a1 s1]) (lv' := [some (.ref (a0 0)), some (.ref (a1 0)), some (.int x2), none]) (pc' := 11) (st' := [.int (1 : Int32)]) (by decide +kernel) rfl rfl ⟨trivial, trivial⟩ ?_
      obtain rfl := Option.some.inj hf
      exact zr_iret (b0 := fun _ => 0) (by decide +kernel) rfl rfl rfl rfl rfl
  exact zj_entry [some (.ref (a0 0)), some (.ref (a1 0)), some (.int x2), none] (by decide +kernel) rfl (by decide) (Nat.le_of_ble_eq_true rfl) rfl rfl (key _)
def M_X1_gets : zj_M := (RX1, cX1_gets, 3, (some .int), { frames := 1, cells := 0, slots := 0, locals := 24 }, false)
theorem nm_X1_gets : zj_nm yX1_gets 2 := ⟨by decide +kernel, by decide +kernel, by decide +kernel⟩
def f_X1_gets  (s0 : FkT) (x1 : Int32) (x2 : Int32) : Option (Int32 × FkT) := ((f_X1_of s0 x1 (0 : Int32)).bind fun q1 => (if (2 : Int32) < q1 then some ((1 : Int32), s0) else ((f_X1_of s0 x1 (1 : Int32)).bind fun q2 => ((f_X1_put s0 x1 (1 : Int32) (zr_mminF (999 : Int32) (q2 + x2))).bind fun q3 => some ((0 : Int32), q3)))))
set_option maxRecDepth 100000 in
set_option maxHeartbeats 4000000 in
theorem c_X1_gets (l : Launch) (G : zj_G) (a0 : Nat → Nat) (s0 : FkT) (x1 : Int32) (x2 : Int32) (r : Int32 × FkT) (hf : f_X1_gets s0 x1 x2 = some r) : zj_C l G M_X1_gets yX1_gets [w_Fk G a0 s0] [.ref (a0 0), .int x1, .int x2] (some (.int r.1)) (fun _ => [w_Fk G a0 r.2]) := by
  have key : ∀ W0 : List va_W, zj_J l G M_X1_gets W0 (zj_ret G M_X1_gets W0 (some (.int r.1)) (fun _ => [w_Fk G a0 r.2])) 0 0 [w_Fk G a0 s0] [some (.ref (a0 0)), some (.int x1), some (.int x2)] 0 [] := by
    intro W0
    unfold f_X1_gets at hf
    obtain ⟨q1, e1, hf⟩ := zbi_of hf
    refine zr_run [(.aload_n 0, 0, 0, 0, .null), (.iload_n 1, 0, 0, 0, .null), (.iconst 0, 0, 0, 0, .int (0 : Int32))] [] (WW' := [w_Fk G a0 s0]) (lv' := [some (.ref (a0 0)), some (.int x1), some (.int x2)]) (pc' := 3) (st' := [.int (0 : Int32), .int x1, .ref (a0 0)]) (by decide +kernel) rfl rfl ⟨trivial, trivial, trivial, trivial⟩ ?_
    refine zr_callV (c_X1_of l G a0 s0 x1 (0 : Int32) q1 e1) (WW' := fun _ => [w_Fk G a0 s0]) (st := []) (st' := [.int q1]) [0] rfl rfl (fun _ => Nat.le_of_ble_eq_true rfl) (fun _ => rfl) rfl rfl nm_X1_of zw_3_141 zw_3_142 zw_3_143 zw_1_8 zw_3_142n rfl rfl rfl (Nat.le_of_ble_eq_true rfl) ⟨Nat.le_of_ble_eq_true rfl, Nat.le_of_ble_eq_true rfl⟩ (by decide +kernel) (fun _ => ?_)
    refine zr_run [(.iconst 2, 0, 0, 0, .int (2 : Int32))] [] (WW' := [w_Fk G a0 s0]) (lv' := [some (.ref (a0 0)), some (.int x1), some (.int x2)]) (pc' := 7) (st' := [.int (2 : Int32), .int q1]) (by decide +kernel) rfl rfl ⟨trivial, trivial⟩ ?_
    refine zr_icmp_le (off := 5) (tgt := 12) (by decide +kernel) (by decide) (fun hc => ?_) (fun hc => ?_)
    · have hf := zift hf hc
      refine zr_run [(.iconst 1, 0, 0, 0, .int (1 : Int32))] [] (WW' := [w_Fk G a0 s0]) (lv' := [some (.ref (a0 0)), some (.int x1), some (.int x2)]) (pc' := 11) (st' := [.int (1 : Int32)]) (by decide +kernel) rfl rfl ⟨trivial, trivial⟩ ?_
      obtain rfl := Option.some.inj hf
      exact zr_iret (b0 := fun _ => 0) (by decide +kernel) rfl rfl rfl rfl rfl
    · have hf := ziff hf hc
      obtain ⟨q2, e2, hf⟩ := zbi_of hf
      refine zr_run [(.aload_n 0, 0, 0, 0, .null), (.iload_n 1, 0, 0, 0, .null), (.iconst 1, 0, 0, 0, .int (1 : Int32)), (.sipush 999, 0, 0, 0, .int (999 : Int32)), (.aload_n 0, 0, 0, 0, .null), (.iload_n 1, 0, 0, 0, .null), (.iconst 1, 0, 0, 0, .int (1 : Int32))] [] (WW' := [w_Fk G a0 s0]) (lv' := [some (.ref (a0 0)), some (.int x1), some (.int x2)]) (pc' := 21) (st' := [.int (1 : Int32), .int x1, .ref (a0 0), .int (999 : Int32), .int (1 : Int32), .int x1, .ref (a0 0)]) (by decide +kernel) rfl rfl ⟨trivial, trivial, trivial, trivial, trivial, trivial, trivial, trivial⟩ ?_
      refine zr_callV (c_X1_of l G a0 s0 x1 (1 : Int32) q2 e2) (WW' := fun _ => [w_Fk G a0 s0]) (st := [.int (999 : Int32), .int (1 : Int32), .int x1, .ref (a0 0)]) (st' := [.int q2, .int (999 : Int32), .int (1 : Int32), .int x1, .ref (a0 0)]) [0] rfl rfl (fun _ => Nat.le_of_ble_eq_true rfl) (fun _ => rfl) rfl rfl nm_X1_of zw_3_141 zw_3_142 zw_3_143 zw_1_8 zw_3_142n rfl rfl rfl (Nat.le_of_ble_eq_true rfl) ⟨Nat.le_of_ble_eq_true rfl, Nat.le_of_ble_eq_true rfl⟩ (by decide +kernel) (fun _ => ?_)
      refine zr_run [(.iload_n 2, 0, 0, 0, .null), (.iadd, 0, 0, 0, .null)] [] (WW' := [w_Fk G a0 s0]) (lv' := [some (.ref (a0 0)), some (.int x1), some (.int x2)]) (pc' := 26) (st' := [.int (q2 + x2), .int (999 : Int32), .int (1 : Int32), .int x1, .ref (a0 0)]) (by decide +kernel) rfl rfl ⟨trivial, trivial, trivial⟩ ?_
      refine zr_mmin zw_3_235 zw_3_236 zw_1_24 zw_3_237 (Nat.le_of_ble_eq_true rfl) (Nat.le_of_ble_eq_true rfl) ⟨Nat.le_of_ble_eq_true rfl, Nat.le_of_ble_eq_true rfl⟩ (by decide +kernel) ?_
      obtain ⟨q3, e3, hf⟩ := zbi_of hf
      refine zr_callV (c_X1_put l G a0 s0 x1 (1 : Int32) (zr_mminF (999 : Int32) (q2 + x2)) q3 e3) (WW' := fun _ => [w_Fk G a0 q3]) (st := []) (st' := []) [0] rfl rfl (fun _ => Nat.le_of_ble_eq_true rfl) (fun _ => rfl) rfl rfl nm_X1_put zw_3_104 zw_3_106 zw_0_10 zw_1_8 zw_3_105 rfl rfl rfl (Nat.le_of_ble_eq_true rfl) ⟨Nat.le_of_ble_eq_true rfl, Nat.le_of_ble_eq_true rfl⟩ (by decide +kernel) (fun _ => ?_)
      refine zr_run [(.iconst 0, 0, 0, 0, .int (0 : Int32))] [] (WW' := [w_Fk G a0 q3]) (lv' := [some (.ref (a0 0)), some (.int x1), some (.int x2)]) (pc' := 33) (st' := [.int (0 : Int32)]) (by decide +kernel) rfl rfl ⟨trivial, trivial⟩ ?_
      obtain rfl := Option.some.inj hf
      exact zr_iret (b0 := fun _ => 0) (by decide +kernel) rfl rfl rfl rfl rfl
  exact zj_entry [some (.ref (a0 0)), some (.int x1), some (.int x2)] (by decide +kernel) rfl (by decide) (Nat.le_of_ble_eq_true rfl) rfl rfl (key _)
def M_X1_daysToCome : zj_M := (RX1, cX1_daysToCome, 1, (some .int), { frames := 0, cells := 0, slots := 0, locals := 0 }, false)
theorem nm_X1_daysToCome : zj_nm yX1_daysToCome 0 := ⟨by decide +kernel, by decide +kernel, by decide +kernel⟩
def f_X1_daysToCome  (s0 : FkT)  : Option (Int32) := some ((400 : Int32) - (Fk_day s0))
set_option maxRecDepth 100000 in
set_option maxHeartbeats 4000000 in
theorem c_X1_daysToCome (l : Launch) (G : zj_G) (a0 : Nat → Nat) (s0 : FkT)  (r : Int32) (hf : f_X1_daysToCome s0 = some r) : zj_C l G M_X1_daysToCome yX1_daysToCome [w_Fk G a0 s0] [.ref (a0 0)] (some (.int r)) (fun _ => [w_Fk G a0 s0]) := by
  have key : ∀ W0 : List va_W, zj_J l G M_X1_daysToCome W0 (zj_ret G M_X1_daysToCome W0 (some (.int r)) (fun _ => [w_Fk G a0 s0])) 0 0 [w_Fk G a0 s0] [some (.ref (a0 0))] 0 [] := by
    intro W0
    unfold f_X1_daysToCome at hf
    refine zr_run [(.sipush 400, 0, 0, 0, .int (400 : Int32)), (.aload_n 0, 0, 0, 0, .null), (.getfield 15, 0, 0, 1, .null), (.isub, 0, 0, 0, .null)] [] (WW' := [w_Fk G a0 s0]) (lv' := [some (.ref (a0 0))]) (pc' := 8) (st' := [.int ((400 : Int32) - (Fk_day s0))]) (by decide +kernel) rfl rfl ⟨trivial, trivial, ⟨rfl, rfl, zw_1_215⟩, trivial, trivial⟩ ?_
    obtain rfl := Option.some.inj hf
    exact zr_iret (b0 := fun _ => 0) (by decide +kernel) rfl rfl rfl rfl rfl
  exact zj_entry [some (.ref (a0 0))] (by decide +kernel) rfl (by decide) (Nat.le_of_ble_eq_true rfl) rfl rfl (key _)
def M_X1_draw : zj_M := (RX1, cX1_draw, 2, (some .int), { frames := 0, cells := 0, slots := 0, locals := 0 }, false)
theorem nm_X1_draw : zj_nm yX1_draw 1 := ⟨by decide +kernel, by decide +kernel, by decide +kernel⟩
def f_X1_draw  (s0 : FkT) (x1 : Int32) : Option (Int32 × FkT) := (zlet (((Fk_seed s0) * (1103515245 : Int32)) + (12345 : Int32)) fun y1 => (zlet (Fk_s_seed s0 y1) fun y2 => (if x1 < (1 : Int32) then some ((0 : Int32), y2) else (if zb_nz x1 = true then some ((zr_rem (zr_ushr (Fk_seed y2) (8 : Int32)) x1), y2) else none))))
set_option maxRecDepth 100000 in
set_option maxHeartbeats 4000000 in
theorem c_X1_draw (l : Launch) (G : zj_G) (a0 : Nat → Nat) (s0 : FkT) (x1 : Int32) (r : Int32 × FkT) (hf : f_X1_draw s0 x1 = some r) : zj_C l G M_X1_draw yX1_draw [w_Fk G a0 s0] [.ref (a0 0), .int x1] (some (.int r.1)) (fun _ => [w_Fk G a0 r.2]) := by
  have key : ∀ W0 : List va_W, zj_J l G M_X1_draw W0 (zj_ret G M_X1_draw W0 (some (.int r.1)) (fun _ => [w_Fk G a0 r.2])) 0 0 [w_Fk G a0 s0] [some (.ref (a0 0)), some (.int x1)] 0 [] := by
    intro W0
    unfold f_X1_draw at hf
    obtain ⟨y1, e1, hf⟩ := zlet_of hf
    refine zr_run [(.aload_n 0, 0, 0, 0, .null), (.aload_n 0, 0, 0, 0, .null), (.getfield 19, 0, 0, 2, .null), (.ldc 79, 0, 0, 0, .int (1103515245 : Int32)), (.imul, 0, 0, 0, .null), (.sipush 12345, 0, 0, 0, .int (12345 : Int32)), (.iadd, 0, 0, 0, .null)] [] (WW' := [w_Fk G a0 s0]) (lv' := [some (.ref (a0 0)), some (.int x1)]) (pc' := 12) (st' := [.int (((Fk_seed s0) * (1103515245 : Int32)) + (12345 : Int32)), .ref (a0 0)]) (by decide +kernel) rfl rfl ⟨trivial, trivial, ⟨rfl, rfl, zw_1_216⟩, zw_4_22, trivial, trivial, trivial, trivial⟩ ?_
    refine zr_eq (WW2 := [w_Fk G a0 s0]) (lv2 := [some (.ref (a0 0)), some (.int x1)]) (st2 := [.int y1, .ref (a0 0)]) rfl rfl (by rw [e1]) ?_
    obtain ⟨y2, e2, hf⟩ := zlet_of hf
    refine zr_run [(.putfield 19, 0, 0, 2, .null)] [] (WW' := [w_Fk G a0 (Fk_s_seed s0 y1)]) (lv' := [some (.ref (a0 0)), some (.int x1)]) (pc' := 15) (st' := []) (by decide +kernel) rfl rfl ⟨⟨rfl, rfl, rfl, trivial, rfl, rfl, zw_1_216⟩, trivial⟩ ?_
    refine zr_eq (WW2 := [w_Fk G a0 y2]) (lv2 := [some (.ref (a0 0)), some (.int x1)]) (st2 := []) (by rw [e2]) rfl rfl ?_
    refine zr_run [(.iload_n 1, 0, 0, 0, .null), (.iconst 1, 0, 0, 0, .int (1 : Int32))] [] (WW' := [w_Fk G a0 y2]) (lv' := [some (.ref (a0 0)), some (.int x1)]) (pc' := 17) (st' := [.int (1 : Int32), .int x1]) (by decide +kernel) rfl rfl ⟨trivial, trivial, trivial⟩ ?_
    refine zr_icmp_ge (off := 7) (tgt := 24) (by decide +kernel) (by decide) (fun hc => ?_) (fun hc => ?_)
    · have hf := zift hf hc
      refine zr_run [(.iconst 0, 0, 0, 0, .int (0 : Int32))] [] (WW' := [w_Fk G a0 y2]) (lv' := [some (.ref (a0 0)), some (.int x1)]) (pc' := 21) (st' := [.int (0 : Int32)]) (by decide +kernel) rfl rfl ⟨trivial, trivial⟩ ?_
      refine zr_goto (off := 12) (tgt := 33) (by decide +kernel) (by decide) ?_
      obtain rfl := Option.some.inj hf
      exact zr_iret (b0 := fun _ => 0) (by decide +kernel) rfl rfl rfl rfl rfl
    · have hf := ziff hf hc
      obtain ⟨h3, hf⟩ := zck_of hf
      refine zr_run [(.aload_n 0, 0, 0, 0, .null), (.getfield 19, 0, 0, 2, .null), (.bipush 8, 0, 0, 0, .int (8 : Int32)), (.iushr, 0, 0, 0, .null), (.iload_n 1, 0, 0, 0, .null), (.irem, 0, 0, 0, .null)] [] (WW' := [w_Fk G a0 y2]) (lv' := [some (.ref (a0 0)), some (.int x1)]) (pc' := 33) (st' := [.int (zr_rem (zr_ushr (Fk_seed y2) (8 : Int32)) x1)]) (by decide +kernel) rfl rfl ⟨trivial, ⟨rfl, rfl, zw_1_216⟩, trivial, trivial, trivial, h3, trivial⟩ ?_
      obtain rfl := Option.some.inj hf
      exact zr_iret (b0 := fun _ => 0) (by decide +kernel) rfl rfl rfl rfl rfl
  exact zj_entry [some (.ref (a0 0)), some (.int x1)] (by decide +kernel) rfl (by decide) (Nat.le_of_ble_eq_true rfl) rfl rfl (key _)
def M_X1_waitForShip : zj_M := (RX1, cX1_waitForShip, 6, none, { frames := 1, cells := 0, slots := 0, locals := 24 }, false)
theorem nm_X1_waitForShip : zj_nm yX1_waitForShip 2 := ⟨by decide +kernel, by decide +kernel, by decide +kernel⟩
def f_X1_waitForShip_b72  (s0 : FkT) (s1 : LdT)  (x2 : Int32) : Option (FkT) := ((f_X1_more s0 x2 (9 : Int32) (1 : Int32)).bind fun q5 => some q5)
def f_X1_waitForShip_b27  (s0 : FkT) (s1 : LdT)  (x2 : Int32) (x3 : Int32) (z0 : Int32) : Option (FkT) := ((f_X3_ofPlace s1 x3 (2 : Int32)).bind fun q4 => (if z0 = 0 then f_X1_waitForShip_b72 s0 s1 x2 else ((f_X1_of s0 x2 (1 : Int32)).bind fun q6 => (if q6 < q4 then f_X1_waitForShip_b72 s0 s1 x2 else ((f_X1_more s0 x2 (1 : Int32) (-q4)).bind fun q7 => ((f_X1_put q7 x2 (0 : Int32) (3 : Int32)).bind fun q8 => some q8))))))
def f_X1_waitForShip  (s0 : FkT) (s1 : LdT) (x2 : Int32) : Option (FkT) := ((f_X1_of s0 x2 (3 : Int32)).bind fun q1 => ((f_X1_draw s0 (12 : Int32)).bind fun q2 => ((f_X3_ofPlace s1 q1 (1 : Int32)).bind fun q3 => (if q2.1 < q3 then f_X1_waitForShip_b27 q2.2 s1 x2 q1 (1 : Int32) else f_X1_waitForShip_b27 q2.2 s1 x2 q1 (0 : Int32)))))
set_option maxRecDepth 100000 in
set_option maxHeartbeats 4000000 in
theorem t_X1_waitForShip_b72 (l : Launch) (G : zj_G) (a0 : Nat → Nat) (a1 : Nat → Nat) (W0 : List va_W) (r : FkT) (s0 : FkT) (s1 : LdT)   (x2 : Int32) (hf : f_X1_waitForShip_b72 s0 s1 x2 = some r) : zj_J l G M_X1_waitForShip W0 (zj_ret G M_X1_waitForShip W0 (none) (fun _ => [w_Fk G a0 r, w_Ld G a1 s1])) 0 0 [w_Fk G a0 s0, w_Ld G a1 s1] [some (.ref (a0 0)), none, some (.int x2), none, none, none] 72 [] := by
  unfold f_X1_waitForShip_b72 at hf
  obtain ⟨q5, e5, hf⟩ := zbi_of hf
  refine zr_run [(.aload_n 0, 0, 0, 0, .null), (.iload_n 2, 0, 0, 0, .null), (.bipush 9, 0, 0, 0, .int (9 : Int32)), (.iconst 1, 0, 0, 0, .int (1 : Int32))] [] (WW' := [w_Fk G a0 s0, w_Ld G a1 s1]) (lv' := [some (.ref (a0 0)), none, some (.int x2), none, none, none]) (pc' := 77) (st' := [.int (1 : Int32), .int (9 : Int32), .int x2, .ref (a0 0)]) (by decide +kernel) rfl rfl ⟨trivial, trivial, trivial, trivial, trivial⟩ ?_
  refine zr_callV (c_X1_more l G a0 s0 x2 (9 : Int32) (1 : Int32) q5 e5) (WW' := fun _ => [w_Fk G a0 q5, w_Ld G a1 s1]) (st := []) (st' := []) [0] rfl rfl (fun _ => Nat.le_of_ble_eq_true rfl) (fun _ => rfl) rfl rfl nm_X1_more zw_3_189 zw_3_191 zw_0_11 zw_1_8 zw_3_190 rfl rfl rfl (Nat.le_of_ble_eq_true rfl) ⟨Nat.le_of_ble_eq_true rfl, Nat.le_of_ble_eq_true rfl⟩ (by decide +kernel) (fun _ => ?_)
  obtain rfl := Option.some.inj hf
  exact zr_vret (b0 := fun _ => 0) (by decide +kernel) rfl rfl rfl rfl rfl
set_option maxRecDepth 100000 in
set_option maxHeartbeats 4000000 in
theorem t_X1_waitForShip_b27 (l : Launch) (G : zj_G) (a0 : Nat → Nat) (a1 : Nat → Nat) (W0 : List va_W) (r : FkT) (s0 : FkT) (s1 : LdT)   (x2 : Int32) (x3 : Int32) (z0 : Int32) (hf : f_X1_waitForShip_b27 s0 s1 x2 x3 z0 = some r) : zj_J l G M_X1_waitForShip W0 (zj_ret G M_X1_waitForShip W0 (none) (fun _ => [w_Fk G a0 r, w_Ld G a1 s1])) 0 0 [w_Fk G a0 s0, w_Ld G a1 s1] [some (.ref (a0 0)), some (.ref (a1 0)), some (.int x2), some (.int x3), none, none] 27 [.int z0] := by
  unfold f_X1_waitForShip_b27 at hf
  obtain ⟨q4, e4, hf⟩ := zbi_of hf
  refine zr_run [(.istore 4, 0, 0, 0, .null), (.aload_n 1, 0, 0, 0, .null), (.iload_n 3, 0, 0, 0, .null), (.iconst 2, 0, 0, 0, .int (2 : Int32))] [] (WW' := [w_Fk G a0 s0, w_Ld G a1 s1]) (lv' := [some (.ref (a0 0)), some (.ref (a1 0)), some (.int x2), some (.int x3), some (.int z0), none]) (pc' := 32) (st' := [.int (2 : Int32), .int x3, .ref (a1 0)]) (by decide +kernel) rfl rfl ⟨trivial, trivial, trivial, trivial, trivial⟩ ?_
  refine zr_callV (c_X3_ofPlace l G a1 s1 x3 (2 : Int32) q4 e4) (WW' := fun _ => [w_Fk G a0 s0, w_Ld G a1 s1]) (st := []) (st' := [.int q4]) [1] rfl rfl (fun _ => Nat.le_of_ble_eq_true rfl) (fun _ => rfl) rfl rfl nm_X3_ofPlace zw_3_226 zw_3_55 zw_3_56 zw_1_7 zw_3_55n rfl rfl rfl (Nat.le_of_ble_eq_true rfl) ⟨Nat.le_of_ble_eq_true rfl, Nat.le_of_ble_eq_true rfl⟩ (by decide +kernel) (fun _ => ?_)
  refine zr_run [(.istore 5, 0, 0, 0, .null), (.iload 4, 0, 0, 0, .null)] [] (WW' := [w_Fk G a0 s0, w_Ld G a1 s1]) (lv' := [some (.ref (a0 0)), some (.ref (a1 0)), some (.int x2), some (.int x3), some (.int z0), some (.int q4)]) (pc' := 39) (st' := [.int z0]) (by decide +kernel) rfl rfl ⟨trivial, trivial, trivial⟩ ?_
  refine zr_if_eq (off := 33) (tgt := 72) (by decide +kernel) (by decide) (fun hc => ?_) (fun hc => ?_)
  · have hf := zift hf hc
    refine zr_run [] [1, 3, 4, 5] (WW' := [w_Fk G a0 s0, w_Ld G a1 s1]) (lv' := [some (.ref (a0 0)), none, some (.int x2), none, none, none]) (pc' := 72) (st' := []) (by decide +kernel) rfl rfl trivial ?_
    exact t_X1_waitForShip_b72 l G a0 a1 W0 r s0 s1 x2 hf
  · have hf := ziff hf hc
    obtain ⟨q6, e6, hf⟩ := zbi_of hf
    refine zr_run [(.aload_n 0, 0, 0, 0, .null), (.iload_n 2, 0, 0, 0, .null), (.iconst 1, 0, 0, 0, .int (1 : Int32))] [] (WW' := [w_Fk G a0 s0, w_Ld G a1 s1]) (lv' := [some (.ref (a0 0)), some (.ref (a1 0)), some (.int x2), some (.int x3), some (.int z0), some (.int q4)]) (pc' := 45) (st' := [.int (1 : Int32), .int x2, .ref (a0 0)]) (by decide +kernel) rfl rfl ⟨trivial, trivial, trivial, trivial⟩ ?_
    refine zr_callV (c_X1_of l G a0 s0 x2 (1 : Int32) q6 e6) (WW' := fun _ => [w_Fk G a0 s0, w_Ld G a1 s1]) (st := []) (st' := [.int q6]) [0] rfl rfl (fun _ => Nat.le_of_ble_eq_true rfl) (fun _ => rfl) rfl rfl nm_X1_of zw_3_141 zw_3_142 zw_3_143 zw_1_8 zw_3_142n rfl rfl rfl (Nat.le_of_ble_eq_true rfl) ⟨Nat.le_of_ble_eq_true rfl, Nat.le_of_ble_eq_true rfl⟩ (by decide +kernel) (fun _ => ?_)
    refine zr_run [(.iload 5, 0, 0, 0, .null)] [] (WW' := [w_Fk G a0 s0, w_Ld G a1 s1]) (lv' := [some (.ref (a0 0)), some (.ref (a1 0)), some (.int x2), some (.int x3), some (.int z0), some (.int q4)]) (pc' := 50) (st' := [.int q4, .int q6]) (by decide +kernel) rfl rfl ⟨trivial, trivial⟩ ?_
    refine zr_icmp_lt (off := 22) (tgt := 72) (by decide +kernel) (by decide) (fun hc => ?_) (fun hc => ?_)
    · have hf := zift hf hc
      refine zr_run [] [1, 3, 4, 5] (WW' := [w_Fk G a0 s0, w_Ld G a1 s1]) (lv' := [some (.ref (a0 0)), none, some (.int x2), none, none, none]) (pc' := 72) (st' := []) (by decide +kernel) rfl rfl trivial ?_
      exact t_X1_waitForShip_b72 l G a0 a1 W0 r s0 s1 x2 hf
    · have hf := ziff hf hc
      obtain ⟨q7, e7, hf⟩ := zbi_of hf
      refine zr_run [(.aload_n 0, 0, 0, 0, .null), (.iload_n 2, 0, 0, 0, .null), (.iconst 1, 0, 0, 0, .int (1 : Int32)), (.iload 5, 0, 0, 0, .null), (.ineg, 0, 0, 0, .null)] [] (WW' := [w_Fk G a0 s0, w_Ld G a1 s1]) (lv' := [some (.ref (a0 0)), some (.ref (a1 0)), some (.int x2), some (.int x3), some (.int z0), some (.int q4)]) (pc' := 59) (st' := [.int (-q4), .int (1 : Int32), .int x2, .ref (a0 0)]) (by decide +kernel) rfl rfl ⟨trivial, trivial, trivial, trivial, trivial, trivial⟩ ?_
      refine zr_callV (c_X1_more l G a0 s0 x2 (1 : Int32) (-q4) q7 e7) (WW' := fun _ => [w_Fk G a0 q7, w_Ld G a1 s1]) (st := []) (st' := []) [0] rfl rfl (fun _ => Nat.le_of_ble_eq_true rfl) (fun _ => rfl) rfl rfl nm_X1_more zw_3_189 zw_3_191 zw_0_11 zw_1_8 zw_3_190 rfl rfl rfl (Nat.le_of_ble_eq_true rfl) ⟨Nat.le_of_ble_eq_true rfl, Nat.le_of_ble_eq_true rfl⟩ (by decide +kernel) (fun _ => ?_)
      obtain ⟨q8, e8, hf⟩ := zbi_of hf
      refine zr_run [(.aload_n 0, 0, 0, 0, .null), (.iload_n 2, 0, 0, 0, .null), (.iconst 0, 0, 0, 0, .int (0 : Int32)), (.iconst 3, 0, 0, 0, .int (3 : Int32))] [] (WW' := [w_Fk G a0 q7, w_Ld G a1 s1]) (lv' := [some (.ref (a0 0)), some (.ref (a1 0)), some (.int x2), some (.int x3), some (.int z0), some (.int q4)]) (pc' := 66) (st' := [.int (3 : Int32), .int (0 : Int32), .int x2, .ref (a0 0)]) (by decide +kernel) rfl rfl ⟨trivial, trivial, trivial, trivial, trivial⟩ ?_
      refine zr_callV (c_X1_put l G a0 q7 x2 (0 : Int32) (3 : Int32) q8 e8) (WW' := fun _ => [w_Fk G a0 q8, w_Ld G a1 s1]) (st := []) (st' := []) [0] rfl rfl (fun _ => Nat.le_of_ble_eq_true rfl) (fun _ => rfl) rfl rfl nm_X1_put zw_3_104 zw_3_106 zw_0_10 zw_1_8 zw_3_105 rfl rfl rfl (Nat.le_of_ble_eq_true rfl) ⟨Nat.le_of_ble_eq_true rfl, Nat.le_of_ble_eq_true rfl⟩ (by decide +kernel) (fun _ => ?_)
      refine zr_goto (off := 11) (tgt := 80) (by decide +kernel) (by decide) ?_
      obtain rfl := Option.some.inj hf
      exact zr_vret (b0 := fun _ => 0) (by decide +kernel) rfl rfl rfl rfl rfl
set_option maxRecDepth 100000 in
set_option maxHeartbeats 4000000 in
theorem c_X1_waitForShip (l : Launch) (G : zj_G) (a0 : Nat → Nat) (a1 : Nat → Nat) (s0 : FkT) (s1 : LdT) (x2 : Int32) (r : FkT) (hf : f_X1_waitForShip s0 s1 x2 = some r) : zj_C l G M_X1_waitForShip yX1_waitForShip [w_Fk G a0 s0, w_Ld G a1 s1] [.ref (a0 0), .ref (a1 0), .int x2] (none) (fun _ => [w_Fk G a0 r, w_Ld G a1 s1]) := by
  have key : ∀ W0 : List va_W, zj_J l G M_X1_waitForShip W0 (zj_ret G M_X1_waitForShip W0 (none) (fun _ => [w_Fk G a0 r, w_Ld G a1 s1])) 0 0 [w_Fk G a0 s0, w_Ld G a1 s1] [some (.ref (a0 0)), some (.ref (a1 0)), some (.int x2), none, none, none] 0 [] := by
    intro W0
    unfold f_X1_waitForShip at hf
    obtain ⟨q1, e1, hf⟩ := zbi_of hf
    refine zr_run [(.aload_n 0, 0, 0, 0, .null), (.iload_n 2, 0, 0, 0, .null), (.iconst 3, 0, 0, 0, .int (3 : Int32))] [] (WW' := [w_Fk G a0 s0, w_Ld G a1 s1]) (lv' := [some (.ref (a0 0)), some (.ref (a1 0)), some (.int x2), none, none, none]) (pc' := 3) (st' := [.int (3 : Int32), .int x2, .ref (a0 0)]) (by decide +kernel) rfl rfl ⟨trivial, trivial, trivial, trivial⟩ ?_
    refine zr_callV (c_X1_of l G a0 s0 x2 (3 : Int32) q1 e1) (WW' := fun _ => [w_Fk G a0 s0, w_Ld G a1 s1]) (st := []) (st' := [.int q1]) [0] rfl rfl (fun _ => Nat.le_of_ble_eq_true rfl) (fun _ => rfl) rfl rfl nm_X1_of zw_3_141 zw_3_142 zw_3_143 zw_1_8 zw_3_142n rfl rfl rfl (Nat.le_of_ble_eq_true rfl) ⟨Nat.le_of_ble_eq_true rfl, Nat.le_of_ble_eq_true rfl⟩ (by decide +kernel) (fun _ => ?_)
    obtain ⟨q2, e2, hf⟩ := zbi_of hf
    refine zr_run [(.istore_n 3, 0, 0, 0, .null), (.aload_n 0, 0, 0, 0, .null), (.bipush 12, 0, 0, 0, .int (12 : Int32))] [] (WW' := [w_Fk G a0 s0, w_Ld G a1 s1]) (lv' := [some (.ref (a0 0)), some (.ref (a1 0)), some (.int x2), some (.int q1), none, none]) (pc' := 10) (st' := [.int (12 : Int32), .ref (a0 0)]) (by decide +kernel) rfl rfl ⟨trivial, trivial, trivial, trivial⟩ ?_
    refine zr_callV (c_X1_draw l G a0 s0 (12 : Int32) q2 e2) (WW' := fun _ => [w_Fk G a0 q2.2, w_Ld G a1 s1]) (st := []) (st' := [.int q2.1]) [0] rfl rfl (fun _ => Nat.le_of_ble_eq_true rfl) (fun _ => rfl) rfl rfl nm_X1_draw zw_4_18 zw_4_20 zw_0_15 zw_1_8 zw_4_21 rfl rfl rfl (Nat.le_of_ble_eq_true rfl) ⟨Nat.le_of_ble_eq_true rfl, Nat.le_of_ble_eq_true rfl⟩ (by decide +kernel) (fun _ => ?_)
    obtain ⟨q3, e3, hf⟩ := zbi_of hf
    refine zr_run [(.aload_n 1, 0, 0, 0, .null), (.iload_n 3, 0, 0, 0, .null), (.iconst 1, 0, 0, 0, .int (1 : Int32))] [] (WW' := [w_Fk G a0 q2.2, w_Ld G a1 s1]) (lv' := [some (.ref (a0 0)), some (.ref (a1 0)), some (.int x2), some (.int q1), none, none]) (pc' := 16) (st' := [.int (1 : Int32), .int q1, .ref (a1 0), .int q2.1]) (by decide +kernel) rfl rfl ⟨trivial, trivial, trivial, trivial⟩ ?_
    refine zr_callV (c_X3_ofPlace l G a1 s1 q1 (1 : Int32) q3 e3) (WW' := fun _ => [w_Fk G a0 q2.2, w_Ld G a1 s1]) (st := [.int q2.1]) (st' := [.int q3, .int q2.1]) [1] rfl rfl (fun _ => Nat.le_of_ble_eq_true rfl) (fun _ => rfl) rfl rfl nm_X3_ofPlace zw_3_226 zw_3_55 zw_3_56 zw_1_7 zw_3_55n rfl rfl rfl (Nat.le_of_ble_eq_true rfl) ⟨Nat.le_of_ble_eq_true rfl, Nat.le_of_ble_eq_true rfl⟩ (by decide +kernel) (fun _ => ?_)
    refine zr_icmp_ge (off := 7) (tgt := 26) (by decide +kernel) (by decide) (fun hc => ?_) (fun hc => ?_)
    · have hf := zift hf hc
      refine zr_run [(.iconst 1, 0, 0, 0, .int (1 : Int32))] [] (WW' := [w_Fk G a0 q2.2, w_Ld G a1 s1]) (lv' := [some (.ref (a0 0)), some (.ref (a1 0)), some (.int x2), some (.int q1), none, none]) (pc' := 23) (st' := [.int (1 : Int32)]) (by decide +kernel) rfl rfl ⟨trivial, trivial⟩ ?_
      refine zr_goto (off := 4) (tgt := 27) (by decide +kernel) (by decide) ?_
      exact t_X1_waitForShip_b27 l G a0 a1 W0 r q2.2 s1 x2 q1 (1 : Int32) hf
    · have hf := ziff hf hc
      refine zr_run [(.iconst 0, 0, 0, 0, .int (0 : Int32))] [] (WW' := [w_Fk G a0 q2.2, w_Ld G a1 s1]) (lv' := [some (.ref (a0 0)), some (.ref (a1 0)), some (.int x2), some (.int q1), none, none]) (pc' := 27) (st' := [.int (0 : Int32)]) (by decide +kernel) rfl rfl ⟨trivial, trivial⟩ ?_
      exact t_X1_waitForShip_b27 l G a0 a1 W0 r q2.2 s1 x2 q1 (0 : Int32) hf
  exact zj_entry [some (.ref (a0 0)), some (.ref (a1 0)), some (.int x2), none, none, none] (by decide +kernel) rfl (by decide) (Nat.le_of_ble_eq_true rfl) rfl rfl (key _)
def M_X1_meetsFord : zj_M := (RX1, cX1_meetsFord, 9, (some .boolean), { frames := 1, cells := 0, slots := 0, locals := 23 }, false)
theorem nm_X1_meetsFord : zj_nm yX1_meetsFord 3 := ⟨by decide +kernel, by decide +kernel, by decide +kernel⟩
def f_X1_meetsFord_H31  (s0 : FkT) (s1 : LdT) (k31 : Int32 → Int32 → Int32 → Int32 → Int32 → Option (Int32)) (x3 : Int32) (x4 : Int32) (x5 : Int32) (x6 : Int32) (x7 : Int32) : Option (Int32) := (if x7 < (10 : Int32) then (if 0 < x3 then (if 0 < x6 then (if x5 = x4 then some (0 : Int32) else ((f_X3_roadToward s1 x5 x4).bind fun q4 => ((f_X3_ofRoad s1 q4 (4 : Int32)).bind fun q5 => (if q5 = (1 : Int32) then some (1 : Int32) else ((f_X3_ofRoad s1 q4 (2 : Int32)).bind fun q6 => ((f_X3_nextTo s1 x5 x4).bind fun q7 => k31 x3 x4 q7 (x6 - q6) (x7 + (1 : Int32)))))))) else some (0 : Int32)) else some (0 : Int32)) else some (0 : Int32))
def f_X1_meetsFord_L31  (s0 : FkT) (s1 : LdT)  : Nat → Int32 → Int32 → Int32 → Int32 → Int32 → Option (Int32)
  | 0 => fun _ _ _ _ _ => none
  | n + 1 => fun x3 x4 x5 x6 x7 => f_X1_meetsFord_H31 s0 s1 (f_X1_meetsFord_L31 s0 s1 n) x3 x4 x5 x6 x7
def f_X1_meetsFord  (s0 : FkT) (s1 : LdT) (x2 : Int32) (x3 : Int32) : Option (Int32) := ((f_X1_of s0 x2 (3 : Int32)).bind fun q1 => ((f_X1_of s0 x2 (11 : Int32)).bind fun q2 => ((f_X1_of s0 x2 (12 : Int32)).bind fun q3 => f_X1_meetsFord_L31 s0 s1 zFU x3 q1 q2 (x3 + q3) (0 : Int32))))
set_option maxRecDepth 100000 in
set_option maxHeartbeats 4000000 in
theorem t_X1_meetsFord_H31 (l : Launch) (G : zj_G) (a0 : Nat → Nat) (a1 : Nat → Nat) (W0 : List va_W) (r : Int32) (s0 : FkT) (s1 : LdT) (k31 : Int32 → Int32 → Int32 → Int32 → Int32 → Option (Int32)) (hk31 : ∀ (x3 : Int32) (x4 : Int32) (x5 : Int32) (x6 : Int32) (x7 : Int32), k31 x3 x4 x5 x6 x7 = some r → zj_J l G M_X1_meetsFord W0 (zj_ret G M_X1_meetsFord W0 (some (.int r)) (fun _ => [w_Fk G a0 s0, w_Ld G a1 s1])) 0 0 [w_Fk G a0 s0, w_Ld G a1 s1] [none, some (.ref (a1 0)), none, some (.int x3), some (.int x4), some (.int x5), some (.int x6), some (.int x7), none] 31 []) (x3 : Int32) (x4 : Int32) (x5 : Int32) (x6 : Int32) (x7 : Int32) (hf : f_X1_meetsFord_H31 s0 s1 k31 x3 x4 x5 x6 x7 = some r) : zj_J l G M_X1_meetsFord W0 (zj_ret G M_X1_meetsFord W0 (some (.int r)) (fun _ => [w_Fk G a0 s0, w_Ld G a1 s1])) 0 0 [w_Fk G a0 s0, w_Ld G a1 s1] [none, some (.ref (a1 0)), none, some (.int x3), some (.int x4), some (.int x5), some (.int x6), some (.int x7), none] 31 [] := by
  unfold f_X1_meetsFord_H31 at hf
  refine zr_run [(.iload 7, 0, 0, 0, .null), (.bipush 10, 0, 0, 0, .int (10 : Int32))] [] (WW' := [w_Fk G a0 s0, w_Ld G a1 s1]) (lv' := [none, some (.ref (a1 0)), none, some (.int x3), some (.int x4), some (.int x5), some (.int x6), some (.int x7), none]) (pc' := 35) (st' := [.int (10 : Int32), .int x7]) (by decide +kernel) rfl rfl ⟨trivial, trivial, trivial⟩ ?_
  refine zr_icmp_ge (off := 70) (tgt := 105) (by decide +kernel) (by decide) (fun hc => ?_) (fun hc => ?_)
  · have hf := zift hf hc
    refine zr_run [(.iload_n 3, 0, 0, 0, .null)] [] (WW' := [w_Fk G a0 s0, w_Ld G a1 s1]) (lv' := [none, some (.ref (a1 0)), none, some (.int x3), some (.int x4), some (.int x5), some (.int x6), some (.int x7), none]) (pc' := 39) (st' := [.int x3]) (by decide +kernel) rfl rfl ⟨trivial, trivial⟩ ?_
    refine zr_if_le (off := 66) (tgt := 105) (by decide +kernel) (by decide) (fun hc => ?_) (fun hc => ?_)
    · have hf := zift hf hc
      refine zr_run [(.iload 6, 0, 0, 0, .null)] [] (WW' := [w_Fk G a0 s0, w_Ld G a1 s1]) (lv' := [none, some (.ref (a1 0)), none, some (.int x3), some (.int x4), some (.int x5), some (.int x6), some (.int x7), none]) (pc' := 44) (st' := [.int x6]) (by decide +kernel) rfl rfl ⟨trivial, trivial⟩ ?_
      refine zr_if_le (off := 61) (tgt := 105) (by decide +kernel) (by decide) (fun hc => ?_) (fun hc => ?_)
      · have hf := zift hf hc
        refine zr_run [(.iload 5, 0, 0, 0, .null), (.iload 4, 0, 0, 0, .null)] [] (WW' := [w_Fk G a0 s0, w_Ld G a1 s1]) (lv' := [none, some (.ref (a1 0)), none, some (.int x3), some (.int x4), some (.int x5), some (.int x6), some (.int x7), none]) (pc' := 51) (st' := [.int x4, .int x5]) (by decide +kernel) rfl rfl ⟨trivial, trivial, trivial⟩ ?_
        refine zr_icmp_eq (off := 54) (tgt := 105) (by decide +kernel) (by decide) (fun hc => ?_) (fun hc => ?_)
        · have hf := zift hf hc
          refine zr_run [(.iconst 0, 0, 0, 0, .int (0 : Int32))] [] (WW' := [w_Fk G a0 s0, w_Ld G a1 s1]) (lv' := [none, some (.ref (a1 0)), none, some (.int x3), some (.int x4), some (.int x5), some (.int x6), some (.int x7), none]) (pc' := 106) (st' := [.int (0 : Int32)]) (by decide +kernel) rfl rfl ⟨trivial, trivial⟩ ?_
          obtain rfl := Option.some.inj hf
          exact zr_zret (by decide) (b0 := fun _ => 0) (by decide +kernel) rfl rfl rfl rfl rfl
        · have hf := ziff hf hc
          obtain ⟨q4, e4, hf⟩ := zbi_of hf
          refine zr_run [(.aload_n 1, 0, 0, 0, .null), (.iload 5, 0, 0, 0, .null), (.iload 4, 0, 0, 0, .null)] [] (WW' := [w_Fk G a0 s0, w_Ld G a1 s1]) (lv' := [none, some (.ref (a1 0)), none, some (.int x3), some (.int x4), some (.int x5), some (.int x6), some (.int x7), none]) (pc' := 59) (st' := [.int x4, .int x5, .ref (a1 0)]) (by decide +kernel) rfl rfl ⟨trivial, trivial, trivial, trivial⟩ ?_
          refine zr_callV (c_X3_roadToward l G a1 s1 x5 x4 q4 e4) (WW' := fun _ => [w_Fk G a0 s0, w_Ld G a1 s1]) (st := []) (st' := [.int q4]) [1] rfl rfl (fun _ => Nat.le_of_ble_eq_true rfl) (fun _ => rfl) rfl rfl nm_X3_roadToward zw_4_36 zw_4_37 zw_4_38 zw_1_7 zw_4_37n rfl rfl rfl (Nat.le_of_ble_eq_true rfl) ⟨Nat.le_of_ble_eq_true rfl, Nat.le_of_ble_eq_true rfl⟩ (by decide +kernel) (fun _ => ?_)
          obtain ⟨q5, e5, hf⟩ := zbi_of hf
          refine zr_run [(.istore 8, 0, 0, 0, .null), (.aload_n 1, 0, 0, 0, .null), (.iload 8, 0, 0, 0, .null), (.iconst 4, 0, 0, 0, .int (4 : Int32))] [] (WW' := [w_Fk G a0 s0, w_Ld G a1 s1]) (lv' := [none, some (.ref (a1 0)), none, some (.int x3), some (.int x4), some (.int x5), some (.int x6), some (.int x7), some (.int q4)]) (pc' := 68) (st' := [.int (4 : Int32), .int q4, .ref (a1 0)]) (by decide +kernel) rfl rfl ⟨trivial, trivial, trivial, trivial, trivial⟩ ?_
          refine zr_callV (c_X3_ofRoad l G a1 s1 q4 (4 : Int32) q5 e5) (WW' := fun _ => [w_Fk G a0 s0, w_Ld G a1 s1]) (st := []) (st' := [.int q5]) [1] rfl rfl (fun _ => Nat.le_of_ble_eq_true rfl) (fun _ => rfl) rfl rfl nm_X3_ofRoad zw_4_40 zw_3_80 zw_3_81 zw_1_7 zw_3_80n rfl rfl rfl (Nat.le_of_ble_eq_true rfl) ⟨Nat.le_of_ble_eq_true rfl, Nat.le_of_ble_eq_true rfl⟩ (by decide +kernel) (fun _ => ?_)
          refine zr_run [(.iconst 1, 0, 0, 0, .int (1 : Int32))] [] (WW' := [w_Fk G a0 s0, w_Ld G a1 s1]) (lv' := [none, some (.ref (a1 0)), none, some (.int x3), some (.int x4), some (.int x5), some (.int x6), some (.int x7), some (.int q4)]) (pc' := 72) (st' := [.int (1 : Int32), .int q5]) (by decide +kernel) rfl rfl ⟨trivial, trivial⟩ ?_
          refine zr_icmp_ne (off := 5) (tgt := 77) (by decide +kernel) (by decide) (fun hc => ?_) (fun hc => ?_)
          · have hf := zift hf hc
            refine zr_run [(.iconst 1, 0, 0, 0, .int (1 : Int32))] [] (WW' := [w_Fk G a0 s0, w_Ld G a1 s1]) (lv' := [none, some (.ref (a1 0)), none, some (.int x3), some (.int x4), some (.int x5), some (.int x6), some (.int x7), some (.int q4)]) (pc' := 76) (st' := [.int (1 : Int32)]) (by decide +kernel) rfl rfl ⟨trivial, trivial⟩ ?_
            obtain rfl := Option.some.inj hf
            exact zr_zret (by decide) (b0 := fun _ => 0) (by decide +kernel) rfl rfl rfl rfl rfl
          · have hf := ziff hf hc
            obtain ⟨q6, e6, hf⟩ := zbi_of hf
            refine zr_run [(.iload 6, 0, 0, 0, .null), (.aload_n 1, 0, 0, 0, .null), (.iload 8, 0, 0, 0, .null), (.iconst 2, 0, 0, 0, .int (2 : Int32))] [] (WW' := [w_Fk G a0 s0, w_Ld G a1 s1]) (lv' := [none, some (.ref (a1 0)), none, some (.int x3), some (.int x4), some (.int x5), some (.int x6), some (.int x7), some (.int q4)]) (pc' := 83) (st' := [.int (2 : Int32), .int q4, .ref (a1 0), .int x6]) (by decide +kernel) rfl rfl ⟨trivial, trivial, trivial, trivial, trivial⟩ ?_
            refine zr_callV (c_X3_ofRoad l G a1 s1 q4 (2 : Int32) q6 e6) (WW' := fun _ => [w_Fk G a0 s0, w_Ld G a1 s1]) (st := [.int x6]) (st' := [.int q6, .int x6]) [1] rfl rfl (fun _ => Nat.le_of_ble_eq_true rfl) (fun _ => rfl) rfl rfl nm_X3_ofRoad zw_4_40 zw_3_80 zw_3_81 zw_1_7 zw_3_80n rfl rfl rfl (Nat.le_of_ble_eq_true rfl) ⟨Nat.le_of_ble_eq_true rfl, Nat.le_of_ble_eq_true rfl⟩ (by decide +kernel) (fun _ => ?_)
            obtain ⟨q7, e7, hf⟩ := zbi_of hf
            refine zr_run [(.isub, 0, 0, 0, .null), (.istore 6, 0, 0, 0, .null), (.aload_n 1, 0, 0, 0, .null), (.iload 5, 0, 0, 0, .null), (.iload 4, 0, 0, 0, .null)] [] (WW' := [w_Fk G a0 s0, w_Ld G a1 s1]) (lv' := [none, some (.ref (a1 0)), none, some (.int x3), some (.int x4), some (.int x5), some (.int (x6 - q6)), some (.int x7), some (.int q4)]) (pc' := 94) (st' := [.int x4, .int x5, .ref (a1 0)]) (by decide +kernel) rfl rfl ⟨trivial, trivial, trivial, trivial, trivial, trivial⟩ ?_
            refine zr_callV (c_X3_nextTo l G a1 s1 x5 x4 q7 e7) (WW' := fun _ => [w_Fk G a0 s0, w_Ld G a1 s1]) (st := []) (st' := [.int q7]) [1] rfl rfl (fun _ => Nat.le_of_ble_eq_true rfl) (fun _ => rfl) rfl rfl nm_X3_nextTo zw_4_41 zw_4_42 zw_4_43 zw_1_7 zw_4_42n rfl rfl rfl (Nat.le_of_ble_eq_true rfl) ⟨Nat.le_of_ble_eq_true rfl, Nat.le_of_ble_eq_true rfl⟩ (by decide +kernel) (fun _ => ?_)
            refine zr_run [(.istore 5, 0, 0, 0, .null), (.iinc 7 1, 0, 0, 0, .int (1 : Int32))] [] (WW' := [w_Fk G a0 s0, w_Ld G a1 s1]) (lv' := [none, some (.ref (a1 0)), none, some (.int x3), some (.int x4), some (.int q7), some (.int (x6 - q6)), some (.int (x7 + (1 : Int32))), some (.int q4)]) (pc' := 102) (st' := []) (by decide +kernel) rfl rfl ⟨trivial, trivial, trivial⟩ ?_
            refine zr_run [] [8] (WW' := [w_Fk G a0 s0, w_Ld G a1 s1]) (lv' := [none, some (.ref (a1 0)), none, some (.int x3), some (.int x4), some (.int q7), some (.int (x6 - q6)), some (.int (x7 + (1 : Int32))), none]) (pc' := 102) (st' := []) (by decide +kernel) rfl rfl trivial ?_
            refine zr_goto (off := -71) (tgt := 31) (by decide +kernel) (by decide) ?_
            exact hk31 x3 x4 q7 (x6 - q6) (x7 + (1 : Int32)) hf
      · have hf := ziff hf hc
        refine zr_run [(.iconst 0, 0, 0, 0, .int (0 : Int32))] [] (WW' := [w_Fk G a0 s0, w_Ld G a1 s1]) (lv' := [none, some (.ref (a1 0)), none, some (.int x3), some (.int x4), some (.int x5), some (.int x6), some (.int x7), none]) (pc' := 106) (st' := [.int (0 : Int32)]) (by decide +kernel) rfl rfl ⟨trivial, trivial⟩ ?_
        obtain rfl := Option.some.inj hf
        exact zr_zret (by decide) (b0 := fun _ => 0) (by decide +kernel) rfl rfl rfl rfl rfl
    · have hf := ziff hf hc
      refine zr_run [(.iconst 0, 0, 0, 0, .int (0 : Int32))] [] (WW' := [w_Fk G a0 s0, w_Ld G a1 s1]) (lv' := [none, some (.ref (a1 0)), none, some (.int x3), some (.int x4), some (.int x5), some (.int x6), some (.int x7), none]) (pc' := 106) (st' := [.int (0 : Int32)]) (by decide +kernel) rfl rfl ⟨trivial, trivial⟩ ?_
      obtain rfl := Option.some.inj hf
      exact zr_zret (by decide) (b0 := fun _ => 0) (by decide +kernel) rfl rfl rfl rfl rfl
  · have hf := ziff hf hc
    refine zr_run [(.iconst 0, 0, 0, 0, .int (0 : Int32))] [] (WW' := [w_Fk G a0 s0, w_Ld G a1 s1]) (lv' := [none, some (.ref (a1 0)), none, some (.int x3), some (.int x4), some (.int x5), some (.int x6), some (.int x7), none]) (pc' := 106) (st' := [.int (0 : Int32)]) (by decide +kernel) rfl rfl ⟨trivial, trivial⟩ ?_
    obtain rfl := Option.some.inj hf
    exact zr_zret (by decide) (b0 := fun _ => 0) (by decide +kernel) rfl rfl rfl rfl rfl
theorem t_X1_meetsFord_L31 (l : Launch) (G : zj_G) (a0 : Nat → Nat) (a1 : Nat → Nat) (W0 : List va_W) (r : Int32) (s0 : FkT) (s1 : LdT)   : ∀ (n : Nat) (x3 : Int32) (x4 : Int32) (x5 : Int32) (x6 : Int32) (x7 : Int32), f_X1_meetsFord_L31 s0 s1 n x3 x4 x5 x6 x7 = some r → zj_J l G M_X1_meetsFord W0 (zj_ret G M_X1_meetsFord W0 (some (.int r)) (fun _ => [w_Fk G a0 s0, w_Ld G a1 s1])) 0 0 [w_Fk G a0 s0, w_Ld G a1 s1] [none, some (.ref (a1 0)), none, some (.int x3), some (.int x4), some (.int x5), some (.int x6), some (.int x7), none] 31 [] := by
  intro n
  induction n with
  | zero => intro x3 x4 x5 x6 x7 hf; exact nomatch (show none = some r from hf)
  | succ n ih => intro x3 x4 x5 x6 x7 hf; exact t_X1_meetsFord_H31 l G a0 a1 W0 r s0 s1  (f_X1_meetsFord_L31 s0 s1 n)  ih x3 x4 x5 x6 x7  hf
set_option maxRecDepth 100000 in
set_option maxHeartbeats 4000000 in
theorem c_X1_meetsFord (l : Launch) (G : zj_G) (a0 : Nat → Nat) (a1 : Nat → Nat) (s0 : FkT) (s1 : LdT) (x2 : Int32) (x3 : Int32) (r : Int32) (hf : f_X1_meetsFord s0 s1 x2 x3 = some r) : zj_C l G M_X1_meetsFord yX1_meetsFord [w_Fk G a0 s0, w_Ld G a1 s1] [.ref (a0 0), .ref (a1 0), .int x2, .int x3] (some (.int r)) (fun _ => [w_Fk G a0 s0, w_Ld G a1 s1]) := by
  have key : ∀ W0 : List va_W, zj_J l G M_X1_meetsFord W0 (zj_ret G M_X1_meetsFord W0 (some (.int r)) (fun _ => [w_Fk G a0 s0, w_Ld G a1 s1])) 0 0 [w_Fk G a0 s0, w_Ld G a1 s1] [some (.ref (a0 0)), some (.ref (a1 0)), some (.int x2), some (.int x3), none, none, none, none, none] 0 [] := by
    intro W0
    unfold f_X1_meetsFord at hf
    obtain ⟨q1, e1, hf⟩ := zbi_of hf
    refine zr_run [(.aload_n 0, 0, 0, 0, .null), (.iload_n 2, 0, 0, 0, .null), (.iconst 3, 0, 0, 0, .int (3 : Int32))] [] (WW' := [w_Fk G a0 s0, w_Ld G a1 s1]) (lv' := [some (.ref (a0 0)), some (.ref (a1 0)), some (.int x2), some (.int x3), none, none, none, none, none]) (pc' := 3) (st' := [.int (3 : Int32), .int x2, .ref (a0 0)]) (by decide +kernel) rfl rfl ⟨trivial, trivial, trivial, trivial⟩ ?_
    refine zr_callV (c_X1_of l G a0 s0 x2 (3 : Int32) q1 e1) (WW' := fun _ => [w_Fk G a0 s0, w_Ld G a1 s1]) (st := []) (st' := [.int q1]) [0] rfl rfl (fun _ => Nat.le_of_ble_eq_true rfl) (fun _ => rfl) rfl rfl nm_X1_of zw_3_141 zw_3_142 zw_3_143 zw_1_8 zw_3_142n rfl rfl rfl (Nat.le_of_ble_eq_true rfl) ⟨Nat.le_of_ble_eq_true rfl, Nat.le_of_ble_eq_true rfl⟩ (by decide +kernel) (fun _ => ?_)
    obtain ⟨q2, e2, hf⟩ := zbi_of hf
    refine zr_run [(.istore 4, 0, 0, 0, .null), (.aload_n 0, 0, 0, 0, .null), (.iload_n 2, 0, 0, 0, .null), (.bipush 11, 0, 0, 0, .int (11 : Int32))] [] (WW' := [w_Fk G a0 s0, w_Ld G a1 s1]) (lv' := [some (.ref (a0 0)), some (.ref (a1 0)), some (.int x2), some (.int x3), some (.int q1), none, none, none, none]) (pc' := 12) (st' := [.int (11 : Int32), .int x2, .ref (a0 0)]) (by decide +kernel) rfl rfl ⟨trivial, trivial, trivial, trivial, trivial⟩ ?_
    refine zr_callV (c_X1_of l G a0 s0 x2 (11 : Int32) q2 e2) (WW' := fun _ => [w_Fk G a0 s0, w_Ld G a1 s1]) (st := []) (st' := [.int q2]) [0] rfl rfl (fun _ => Nat.le_of_ble_eq_true rfl) (fun _ => rfl) rfl rfl nm_X1_of zw_3_141 zw_3_142 zw_3_143 zw_1_8 zw_3_142n rfl rfl rfl (Nat.le_of_ble_eq_true rfl) ⟨Nat.le_of_ble_eq_true rfl, Nat.le_of_ble_eq_true rfl⟩ (by decide +kernel) (fun _ => ?_)
    obtain ⟨q3, e3, hf⟩ := zbi_of hf
    refine zr_run [(.istore 5, 0, 0, 0, .null), (.iload_n 3, 0, 0, 0, .null), (.aload_n 0, 0, 0, 0, .null), (.iload_n 2, 0, 0, 0, .null), (.bipush 12, 0, 0, 0, .int (12 : Int32))] [] (WW' := [w_Fk G a0 s0, w_Ld G a1 s1]) (lv' := [some (.ref (a0 0)), some (.ref (a1 0)), some (.int x2), some (.int x3), some (.int q1), some (.int q2), none, none, none]) (pc' := 22) (st' := [.int (12 : Int32), .int x2, .ref (a0 0), .int x3]) (by decide +kernel) rfl rfl ⟨trivial, trivial, trivial, trivial, trivial, trivial⟩ ?_
    refine zr_callV (c_X1_of l G a0 s0 x2 (12 : Int32) q3 e3) (WW' := fun _ => [w_Fk G a0 s0, w_Ld G a1 s1]) (st := [.int x3]) (st' := [.int q3, .int x3]) [0] rfl rfl (fun _ => Nat.le_of_ble_eq_true rfl) (fun _ => rfl) rfl rfl nm_X1_of zw_3_141 zw_3_142 zw_3_143 zw_1_8 zw_3_142n rfl rfl rfl (Nat.le_of_ble_eq_true rfl) ⟨Nat.le_of_ble_eq_true rfl, Nat.le_of_ble_eq_true rfl⟩ (by decide +kernel) (fun _ => ?_)
    refine zr_run [(.iadd, 0, 0, 0, .null), (.istore 6, 0, 0, 0, .null), (.iconst 0, 0, 0, 0, .int (0 : Int32)), (.istore 7, 0, 0, 0, .null)] [0, 2] (WW' := [w_Fk G a0 s0, w_Ld G a1 s1]) (lv' := [none, some (.ref (a1 0)), none, some (.int x3), some (.int q1), some (.int q2), some (.int (x3 + q3)), some (.int (0 : Int32)), none]) (pc' := 31) (st' := []) (by decide +kernel) rfl rfl ⟨trivial, trivial, trivial, trivial, trivial⟩ ?_
    exact t_X1_meetsFord_L31 l G a0 a1 W0 r s0 s1 zFU x3 q1 q2 (x3 + q3) (0 : Int32) hf
  exact zj_entry [some (.ref (a0 0)), some (.ref (a1 0)), some (.int x2), some (.int x3), none, none, none, none, none] (by decide +kernel) rfl (by decide) (Nat.le_of_ble_eq_true rfl) rfl rfl (key _)
def M_X1_step : zj_M := (RX1, cX1_step, 9, none, { frames := 1, cells := 0, slots := 0, locals := 24 }, false)
theorem nm_X1_step : zj_nm yX1_step 3 := ⟨by decide +kernel, by decide +kernel, by decide +kernel⟩
def f_X1_step_b93  (s0 : FkT) (s1 : LdT)  (x2 : Int32) (x3 : Int32) (x5 : Int32) (x6 : Int32) : Option (FkT) := ((f_X1_put s0 x2 (11 : Int32) x5).bind fun q4 => ((f_X1_put q4 x2 (12 : Int32) x6).bind fun q5 => ((f_X1_more q5 x2 (5 : Int32) x3).bind fun q6 => ((f_X1_more q6 x2 (10 : Int32) x3).bind fun q7 => some q7))))
def f_X1_step_H31  (s0 : FkT) (s1 : LdT) (k31 : FkT → Int32 → Int32 → Int32 → Int32 → Int32 → Int32 → Option (FkT)) (x2 : Int32) (x3 : Int32) (x4 : Int32) (x5 : Int32) (x6 : Int32) (x7 : Int32) : Option (FkT) := (if x7 < (10 : Int32) then (if x5 = x4 then f_X1_step_b93 s0 s1 x2 x3 x5 x6 else ((f_X3_roadToward s1 x5 x4).bind fun q8 => ((f_X3_ofRoad s1 q8 (2 : Int32)).bind fun q9 => (if x6 < q9 then f_X1_step_b93 s0 s1 x2 x3 x5 x6 else ((f_X3_nextTo s1 x5 x4).bind fun q10 => k31 s0 x2 x3 x4 q10 (x6 - q9) (x7 + (1 : Int32))))))) else f_X1_step_b93 s0 s1 x2 x3 x5 x6)
def f_X1_step_L31  (s1 : LdT)  : Nat → FkT → Int32 → Int32 → Int32 → Int32 → Int32 → Int32 → Option (FkT)
  | 0 => fun _ _ _ _ _ _ _ => none
  | n + 1 => fun s0 x2 x3 x4 x5 x6 x7 => f_X1_step_H31 s0 s1 (f_X1_step_L31 s1 n) x2 x3 x4 x5 x6 x7
def f_X1_step  (s0 : FkT) (s1 : LdT) (x2 : Int32) (x3 : Int32) : Option (FkT) := ((f_X1_of s0 x2 (3 : Int32)).bind fun q1 => ((f_X1_of s0 x2 (11 : Int32)).bind fun q2 => ((f_X1_of s0 x2 (12 : Int32)).bind fun q3 => f_X1_step_L31 s1 zFU s0 x2 x3 q1 q2 (x3 + q3) (0 : Int32))))
set_option maxRecDepth 100000 in
set_option maxHeartbeats 4000000 in
theorem t_X1_step_b93 (l : Launch) (G : zj_G) (a0 : Nat → Nat) (a1 : Nat → Nat) (W0 : List va_W) (r : FkT) (s0 : FkT) (s1 : LdT)   (x2 : Int32) (x3 : Int32) (x5 : Int32) (x6 : Int32) (hf : f_X1_step_b93 s0 s1 x2 x3 x5 x6 = some r) : zj_J l G M_X1_step W0 (zj_ret G M_X1_step W0 (none) (fun _ => [w_Fk G a0 r, w_Ld G a1 s1])) 0 0 [w_Fk G a0 s0, w_Ld G a1 s1] [some (.ref (a0 0)), none, some (.int x2), some (.int x3), none, some (.int x5), some (.int x6), none, none] 93 [] := by
  unfold f_X1_step_b93 at hf
  obtain ⟨q4, e4, hf⟩ := zbi_of hf
  refine zr_run [(.aload_n 0, 0, 0, 0, .null), (.iload_n 2, 0, 0, 0, .null), (.bipush 11, 0, 0, 0, .int (11 : Int32)), (.iload 5, 0, 0, 0, .null)] [] (WW' := [w_Fk G a0 s0, w_Ld G a1 s1]) (lv' := [some (.ref (a0 0)), none, some (.int x2), some (.int x3), none, some (.int x5), some (.int x6), none, none]) (pc' := 99) (st' := [.int x5, .int (11 : Int32), .int x2, .ref (a0 0)]) (by decide +kernel) rfl rfl ⟨trivial, trivial, trivial, trivial, trivial⟩ ?_
  refine zr_callV (c_X1_put l G a0 s0 x2 (11 : Int32) x5 q4 e4) (WW' := fun _ => [w_Fk G a0 q4, w_Ld G a1 s1]) (st := []) (st' := []) [0] rfl rfl (fun _ => Nat.le_of_ble_eq_true rfl) (fun _ => rfl) rfl rfl nm_X1_put zw_3_104 zw_3_106 zw_0_10 zw_1_8 zw_3_105 rfl rfl rfl (Nat.le_of_ble_eq_true rfl) ⟨Nat.le_of_ble_eq_true rfl, Nat.le_of_ble_eq_true rfl⟩ (by decide +kernel) (fun _ => ?_)
  obtain ⟨q5, e5, hf⟩ := zbi_of hf
  refine zr_run [(.aload_n 0, 0, 0, 0, .null), (.iload_n 2, 0, 0, 0, .null), (.bipush 12, 0, 0, 0, .int (12 : Int32)), (.iload 6, 0, 0, 0, .null)] [] (WW' := [w_Fk G a0 q4, w_Ld G a1 s1]) (lv' := [some (.ref (a0 0)), none, some (.int x2), some (.int x3), none, some (.int x5), some (.int x6), none, none]) (pc' := 108) (st' := [.int x6, .int (12 : Int32), .int x2, .ref (a0 0)]) (by decide +kernel) rfl rfl ⟨trivial, trivial, trivial, trivial, trivial⟩ ?_
  refine zr_callV (c_X1_put l G a0 q4 x2 (12 : Int32) x6 q5 e5) (WW' := fun _ => [w_Fk G a0 q5, w_Ld G a1 s1]) (st := []) (st' := []) [0] rfl rfl (fun _ => Nat.le_of_ble_eq_true rfl) (fun _ => rfl) rfl rfl nm_X1_put zw_3_104 zw_3_106 zw_0_10 zw_1_8 zw_3_105 rfl rfl rfl (Nat.le_of_ble_eq_true rfl) ⟨Nat.le_of_ble_eq_true rfl, Nat.le_of_ble_eq_true rfl⟩ (by decide +kernel) (fun _ => ?_)
  obtain ⟨q6, e6, hf⟩ := zbi_of hf
  refine zr_run [(.aload_n 0, 0, 0, 0, .null), (.iload_n 2, 0, 0, 0, .null), (.iconst 5, 0, 0, 0, .int (5 : Int32)), (.iload_n 3, 0, 0, 0, .null)] [] (WW' := [w_Fk G a0 q5, w_Ld G a1 s1]) (lv' := [some (.ref (a0 0)), none, some (.int x2), some (.int x3), none, some (.int x5), some (.int x6), none, none]) (pc' := 115) (st' := [.int x3, .int (5 : Int32), .int x2, .ref (a0 0)]) (by decide +kernel) rfl rfl ⟨trivial, trivial, trivial, trivial, trivial⟩ ?_
  refine zr_callV (c_X1_more l G a0 q5 x2 (5 : Int32) x3 q6 e6) (WW' := fun _ => [w_Fk G a0 q6, w_Ld G a1 s1]) (st := []) (st' := []) [0] rfl rfl (fun _ => Nat.le_of_ble_eq_true rfl) (fun _ => rfl) rfl rfl nm_X1_more zw_3_189 zw_3_191 zw_0_11 zw_1_8 zw_3_190 rfl rfl rfl (Nat.le_of_ble_eq_true rfl) ⟨Nat.le_of_ble_eq_true rfl, Nat.le_of_ble_eq_true rfl⟩ (by decide +kernel) (fun _ => ?_)
  obtain ⟨q7, e7, hf⟩ := zbi_of hf
  refine zr_run [(.aload_n 0, 0, 0, 0, .null), (.iload_n 2, 0, 0, 0, .null), (.bipush 10, 0, 0, 0, .int (10 : Int32)), (.iload_n 3, 0, 0, 0, .null)] [] (WW' := [w_Fk G a0 q6, w_Ld G a1 s1]) (lv' := [some (.ref (a0 0)), none, some (.int x2), some (.int x3), none, some (.int x5), some (.int x6), none, none]) (pc' := 123) (st' := [.int x3, .int (10 : Int32), .int x2, .ref (a0 0)]) (by decide +kernel) rfl rfl ⟨trivial, trivial, trivial, trivial, trivial⟩ ?_
  refine zr_callV (c_X1_more l G a0 q6 x2 (10 : Int32) x3 q7 e7) (WW' := fun _ => [w_Fk G a0 q7, w_Ld G a1 s1]) (st := []) (st' := []) [0] rfl rfl (fun _ => Nat.le_of_ble_eq_true rfl) (fun _ => rfl) rfl rfl nm_X1_more zw_3_189 zw_3_191 zw_0_11 zw_1_8 zw_3_190 rfl rfl rfl (Nat.le_of_ble_eq_true rfl) ⟨Nat.le_of_ble_eq_true rfl, Nat.le_of_ble_eq_true rfl⟩ (by decide +kernel) (fun _ => ?_)
  obtain rfl := Option.some.inj hf
  exact zr_vret (b0 := fun _ => 0) (by decide +kernel) rfl rfl rfl rfl rfl
set_option maxRecDepth 100000 in
set_option maxHeartbeats 4000000 in
theorem t_X1_step_H31 (l : Launch) (G : zj_G) (a0 : Nat → Nat) (a1 : Nat → Nat) (W0 : List va_W) (r : FkT) (s0 : FkT) (s1 : LdT) (k31 : FkT → Int32 → Int32 → Int32 → Int32 → Int32 → Int32 → Option (FkT)) (hk31 : ∀ (s0 : FkT) (x2 : Int32) (x3 : Int32) (x4 : Int32) (x5 : Int32) (x6 : Int32) (x7 : Int32), k31 s0 x2 x3 x4 x5 x6 x7 = some r → zj_J l G M_X1_step W0 (zj_ret G M_X1_step W0 (none) (fun _ => [w_Fk G a0 r, w_Ld G a1 s1])) 0 0 [w_Fk G a0 s0, w_Ld G a1 s1] [some (.ref (a0 0)), some (.ref (a1 0)), some (.int x2), some (.int x3), some (.int x4), some (.int x5), some (.int x6), some (.int x7), none] 31 []) (x2 : Int32) (x3 : Int32) (x4 : Int32) (x5 : Int32) (x6 : Int32) (x7 : Int32) (hf : f_X1_step_H31 s0 s1 k31 x2 x3 x4 x5 x6 x7 = some r) : zj_J l G M_X1_step W0 (zj_ret G M_X1_step W0 (none) (fun _ => [w_Fk G a0 r, w_Ld G a1 s1])) 0 0 [w_Fk G a0 s0, w_Ld G a1 s1] [some (.ref (a0 0)), some (.ref (a1 0)), some (.int x2), some (.int x3), some (.int x4), some (.int x5), some (.int x6), some (.int x7), none] 31 [] := by
  unfold f_X1_step_H31 at hf
  refine zr_run [(.iload 7, 0, 0, 0, .null), (.bipush 10, 0, 0, 0, .int (10 : Int32))] [] (WW' := [w_Fk G a0 s0, w_Ld G a1 s1]) (lv' := [some (.ref (a0 0)), some (.ref (a1 0)), some (.int x2), some (.int x3), some (.int x4), some (.int x5), some (.int x6), some (.int x7), none]) (pc' := 35) (st' := [.int (10 : Int32), .int x7]) (by decide +kernel) rfl rfl ⟨trivial, trivial, trivial⟩ ?_
  refine zr_icmp_ge (off := 58) (tgt := 93) (by decide +kernel) (by decide) (fun hc => ?_) (fun hc => ?_)
  · have hf := zift hf hc
    refine zr_run [(.iload 5, 0, 0, 0, .null), (.iload 4, 0, 0, 0, .null)] [] (WW' := [w_Fk G a0 s0, w_Ld G a1 s1]) (lv' := [some (.ref (a0 0)), some (.ref (a1 0)), some (.int x2), some (.int x3), some (.int x4), some (.int x5), some (.int x6), some (.int x7), none]) (pc' := 42) (st' := [.int x4, .int x5]) (by decide +kernel) rfl rfl ⟨trivial, trivial, trivial⟩ ?_
    refine zr_icmp_eq (off := 51) (tgt := 93) (by decide +kernel) (by decide) (fun hc => ?_) (fun hc => ?_)
    · have hf := zift hf hc
      refine zr_run [] [1, 4, 7] (WW' := [w_Fk G a0 s0, w_Ld G a1 s1]) (lv' := [some (.ref (a0 0)), none, some (.int x2), some (.int x3), none, some (.int x5), some (.int x6), none, none]) (pc' := 93) (st' := []) (by decide +kernel) rfl rfl trivial ?_
      exact t_X1_step_b93 l G a0 a1 W0 r s0 s1 x2 x3 x5 x6 hf
    · have hf := ziff hf hc
      obtain ⟨q8, e8, hf⟩ := zbi_of hf
      refine zr_run [(.aload_n 1, 0, 0, 0, .null), (.aload_n 1, 0, 0, 0, .null), (.iload 5, 0, 0, 0, .null), (.iload 4, 0, 0, 0, .null)] [] (WW' := [w_Fk G a0 s0, w_Ld G a1 s1]) (lv' := [some (.ref (a0 0)), some (.ref (a1 0)), some (.int x2), some (.int x3), some (.int x4), some (.int x5), some (.int x6), some (.int x7), none]) (pc' := 51) (st' := [.int x4, .int x5, .ref (a1 0), .ref (a1 0)]) (by decide +kernel) rfl rfl ⟨trivial, trivial, trivial, trivial, trivial⟩ ?_
      refine zr_callV (c_X3_roadToward l G a1 s1 x5 x4 q8 e8) (WW' := fun _ => [w_Fk G a0 s0, w_Ld G a1 s1]) (st := [.ref (a1 0)]) (st' := [.int q8, .ref (a1 0)]) [1] rfl rfl (fun _ => Nat.le_of_ble_eq_true rfl) (fun _ => rfl) rfl rfl nm_X3_roadToward zw_4_36 zw_4_37 zw_4_38 zw_1_7 zw_4_37n rfl rfl rfl (Nat.le_of_ble_eq_true rfl) ⟨Nat.le_of_ble_eq_true rfl, Nat.le_of_ble_eq_true rfl⟩ (by decide +kernel) (fun _ => ?_)
      obtain ⟨q9, e9, hf⟩ := zbi_of hf
      refine zr_run [(.iconst 2, 0, 0, 0, .int (2 : Int32))] [] (WW' := [w_Fk G a0 s0, w_Ld G a1 s1]) (lv' := [some (.ref (a0 0)), some (.ref (a1 0)), some (.int x2), some (.int x3), some (.int x4), some (.int x5), some (.int x6), some (.int x7), none]) (pc' := 55) (st' := [.int (2 : Int32), .int q8, .ref (a1 0)]) (by decide +kernel) rfl rfl ⟨trivial, trivial⟩ ?_
      refine zr_callV (c_X3_ofRoad l G a1 s1 q8 (2 : Int32) q9 e9) (WW' := fun _ => [w_Fk G a0 s0, w_Ld G a1 s1]) (st := []) (st' := [.int q9]) [1] rfl rfl (fun _ => Nat.le_of_ble_eq_true rfl) (fun _ => rfl) rfl rfl nm_X3_ofRoad zw_4_40 zw_3_80 zw_3_81 zw_1_7 zw_3_80n rfl rfl rfl (Nat.le_of_ble_eq_true rfl) ⟨Nat.le_of_ble_eq_true rfl, Nat.le_of_ble_eq_true rfl⟩ (by decide +kernel) (fun _ => ?_)
      refine zr_run [(.istore 8, 0, 0, 0, .null), (.iload 6, 0, 0, 0, .null), (.iload 8, 0, 0, 0, .null)] [] (WW' := [w_Fk G a0 s0, w_Ld G a1 s1]) (lv' := [some (.ref (a0 0)), some (.ref (a1 0)), some (.int x2), some (.int x3), some (.int x4), some (.int x5), some (.int x6), some (.int x7), some (.int q9)]) (pc' := 64) (st' := [.int q9, .int x6]) (by decide +kernel) rfl rfl ⟨trivial, trivial, trivial, trivial⟩ ?_
      refine zr_icmp_ge (off := 6) (tgt := 70) (by decide +kernel) (by decide) (fun hc => ?_) (fun hc => ?_)
      · have hf := zift hf hc
        refine zr_goto (off := 26) (tgt := 93) (by decide +kernel) (by decide) ?_
        refine zr_run [] [1, 4, 7, 8] (WW' := [w_Fk G a0 s0, w_Ld G a1 s1]) (lv' := [some (.ref (a0 0)), none, some (.int x2), some (.int x3), none, some (.int x5), some (.int x6), none, none]) (pc' := 93) (st' := []) (by decide +kernel) rfl rfl trivial ?_
        exact t_X1_step_b93 l G a0 a1 W0 r s0 s1 x2 x3 x5 x6 hf
      · have hf := ziff hf hc
        obtain ⟨q10, e10, hf⟩ := zbi_of hf
        refine zr_run [(.iload 6, 0, 0, 0, .null), (.iload 8, 0, 0, 0, .null), (.isub, 0, 0, 0, .null), (.istore 6, 0, 0, 0, .null), (.aload_n 1, 0, 0, 0, .null), (.iload 5, 0, 0, 0, .null), (.iload 4, 0, 0, 0, .null)] [] (WW' := [w_Fk G a0 s0, w_Ld G a1 s1]) (lv' := [some (.ref (a0 0)), some (.ref (a1 0)), some (.int x2), some (.int x3), some (.int x4), some (.int x5), some (.int (x6 - q9)), some (.int x7), some (.int q9)]) (pc' := 82) (st' := [.int x4, .int x5, .ref (a1 0)]) (by decide +kernel) rfl rfl ⟨trivial, trivial, trivial, trivial, trivial, trivial, trivial, trivial⟩ ?_
        refine zr_callV (c_X3_nextTo l G a1 s1 x5 x4 q10 e10) (WW' := fun _ => [w_Fk G a0 s0, w_Ld G a1 s1]) (st := []) (st' := [.int q10]) [1] rfl rfl (fun _ => Nat.le_of_ble_eq_true rfl) (fun _ => rfl) rfl rfl nm_X3_nextTo zw_4_41 zw_4_42 zw_4_43 zw_1_7 zw_4_42n rfl rfl rfl (Nat.le_of_ble_eq_true rfl) ⟨Nat.le_of_ble_eq_true rfl, Nat.le_of_ble_eq_true rfl⟩ (by decide +kernel) (fun _ => ?_)
        refine zr_run [(.istore 5, 0, 0, 0, .null), (.iinc 7 1, 0, 0, 0, .int (1 : Int32))] [] (WW' := [w_Fk G a0 s0, w_Ld G a1 s1]) (lv' := [some (.ref (a0 0)), some (.ref (a1 0)), some (.int x2), some (.int x3), some (.int x4), some (.int q10), some (.int (x6 - q9)), some (.int (x7 + (1 : Int32))), some (.int q9)]) (pc' := 90) (st' := []) (by decide +kernel) rfl rfl ⟨trivial, trivial, trivial⟩ ?_
        refine zr_run [] [8] (WW' := [w_Fk G a0 s0, w_Ld G a1 s1]) (lv' := [some (.ref (a0 0)), some (.ref (a1 0)), some (.int x2), some (.int x3), some (.int x4), some (.int q10), some (.int (x6 - q9)), some (.int (x7 + (1 : Int32))), none]) (pc' := 90) (st' := []) (by decide +kernel) rfl rfl trivial ?_
        refine zr_goto (off := -59) (tgt := 31) (by decide +kernel) (by decide) ?_
        exact hk31 s0 x2 x3 x4 q10 (x6 - q9) (x7 + (1 : Int32)) hf
  · have hf := ziff hf hc
    refine zr_run [] [1, 4, 7] (WW' := [w_Fk G a0 s0, w_Ld G a1 s1]) (lv' := [some (.ref (a0 0)), none, some (.int x2), some (.int x3), none, some (.int x5), some (.int x6), none, none]) (pc' := 93) (st' := []) (by decide +kernel) rfl rfl trivial ?_
    exact t_X1_step_b93 l G a0 a1 W0 r s0 s1 x2 x3 x5 x6 hf
theorem t_X1_step_L31 (l : Launch) (G : zj_G) (a0 : Nat → Nat) (a1 : Nat → Nat) (W0 : List va_W) (r : FkT) (s1 : LdT)   : ∀ (n : Nat) (s0 : FkT) (x2 : Int32) (x3 : Int32) (x4 : Int32) (x5 : Int32) (x6 : Int32) (x7 : Int32), f_X1_step_L31 s1 n s0 x2 x3 x4 x5 x6 x7 = some r → zj_J l G M_X1_step W0 (zj_ret G M_X1_step W0 (none) (fun _ => [w_Fk G a0 r, w_Ld G a1 s1])) 0 0 [w_Fk G a0 s0, w_Ld G a1 s1] [some (.ref (a0 0)), some (.ref (a1 0)), some (.int x2), some (.int x3), some (.int x4), some (.int x5), some (.int x6), some (.int x7), none] 31 [] := by
  intro n
  induction n with
  | zero => intro s0 x2 x3 x4 x5 x6 x7 hf; exact nomatch (show none = some r from hf)
  | succ n ih => intro s0 x2 x3 x4 x5 x6 x7 hf; exact t_X1_step_H31 l G a0 a1 W0 r s0 s1  (f_X1_step_L31 s1 n)  ih x2 x3 x4 x5 x6 x7  hf
set_option maxRecDepth 100000 in
set_option maxHeartbeats 4000000 in
theorem c_X1_step (l : Launch) (G : zj_G) (a0 : Nat → Nat) (a1 : Nat → Nat) (s0 : FkT) (s1 : LdT) (x2 : Int32) (x3 : Int32) (r : FkT) (hf : f_X1_step s0 s1 x2 x3 = some r) : zj_C l G M_X1_step yX1_step [w_Fk G a0 s0, w_Ld G a1 s1] [.ref (a0 0), .ref (a1 0), .int x2, .int x3] (none) (fun _ => [w_Fk G a0 r, w_Ld G a1 s1]) := by
  have key : ∀ W0 : List va_W, zj_J l G M_X1_step W0 (zj_ret G M_X1_step W0 (none) (fun _ => [w_Fk G a0 r, w_Ld G a1 s1])) 0 0 [w_Fk G a0 s0, w_Ld G a1 s1] [some (.ref (a0 0)), some (.ref (a1 0)), some (.int x2), some (.int x3), none, none, none, none, none] 0 [] := by
    intro W0
    unfold f_X1_step at hf
    obtain ⟨q1, e1, hf⟩ := zbi_of hf
    refine zr_run [(.aload_n 0, 0, 0, 0, .null), (.iload_n 2, 0, 0, 0, .null), (.iconst 3, 0, 0, 0, .int (3 : Int32))] [] (WW' := [w_Fk G a0 s0, w_Ld G a1 s1]) (lv' := [some (.ref (a0 0)), some (.ref (a1 0)), some (.int x2), some (.int x3), none, none, none, none, none]) (pc' := 3) (st' := [.int (3 : Int32), .int x2, .ref (a0 0)]) (by decide +kernel) rfl rfl ⟨trivial, trivial, trivial, trivial⟩ ?_
    refine zr_callV (c_X1_of l G a0 s0 x2 (3 : Int32) q1 e1) (WW' := fun _ => [w_Fk G a0 s0, w_Ld G a1 s1]) (st := []) (st' := [.int q1]) [0] rfl rfl (fun _ => Nat.le_of_ble_eq_true rfl) (fun _ => rfl) rfl rfl nm_X1_of zw_3_141 zw_3_142 zw_3_143 zw_1_8 zw_3_142n rfl rfl rfl (Nat.le_of_ble_eq_true rfl) ⟨Nat.le_of_ble_eq_true rfl, Nat.le_of_ble_eq_true rfl⟩ (by decide +kernel) (fun _ => ?_)
    obtain ⟨q2, e2, hf⟩ := zbi_of hf
    refine zr_run [(.istore 4, 0, 0, 0, .null), (.aload_n 0, 0, 0, 0, .null), (.iload_n 2, 0, 0, 0, .null), (.bipush 11, 0, 0, 0, .int (11 : Int32))] [] (WW' := [w_Fk G a0 s0, w_Ld G a1 s1]) (lv' := [some (.ref (a0 0)), some (.ref (a1 0)), some (.int x2), some (.int x3), some (.int q1), none, none, none, none]) (pc' := 12) (st' := [.int (11 : Int32), .int x2, .ref (a0 0)]) (by decide +kernel) rfl rfl ⟨trivial, trivial, trivial, trivial, trivial⟩ ?_
    refine zr_callV (c_X1_of l G a0 s0 x2 (11 : Int32) q2 e2) (WW' := fun _ => [w_Fk G a0 s0, w_Ld G a1 s1]) (st := []) (st' := [.int q2]) [0] rfl rfl (fun _ => Nat.le_of_ble_eq_true rfl) (fun _ => rfl) rfl rfl nm_X1_of zw_3_141 zw_3_142 zw_3_143 zw_1_8 zw_3_142n rfl rfl rfl (Nat.le_of_ble_eq_true rfl) ⟨Nat.le_of_ble_eq_true rfl, Nat.le_of_ble_eq_true rfl⟩ (by decide +kernel) (fun _ => ?_)
    obtain ⟨q3, e3, hf⟩ := zbi_of hf
    refine zr_run [(.istore 5, 0, 0, 0, .null), (.iload_n 3, 0, 0, 0, .null), (.aload_n 0, 0, 0, 0, .null), (.iload_n 2, 0, 0, 0, .null), (.bipush 12, 0, 0, 0, .int (12 : Int32))] [] (WW' := [w_Fk G a0 s0, w_Ld G a1 s1]) (lv' := [some (.ref (a0 0)), some (.ref (a1 0)), some (.int x2), some (.int x3), some (.int q1), some (.int q2), none, none, none]) (pc' := 22) (st' := [.int (12 : Int32), .int x2, .ref (a0 0), .int x3]) (by decide +kernel) rfl rfl ⟨trivial, trivial, trivial, trivial, trivial, trivial⟩ ?_
    refine zr_callV (c_X1_of l G a0 s0 x2 (12 : Int32) q3 e3) (WW' := fun _ => [w_Fk G a0 s0, w_Ld G a1 s1]) (st := [.int x3]) (st' := [.int q3, .int x3]) [0] rfl rfl (fun _ => Nat.le_of_ble_eq_true rfl) (fun _ => rfl) rfl rfl nm_X1_of zw_3_141 zw_3_142 zw_3_143 zw_1_8 zw_3_142n rfl rfl rfl (Nat.le_of_ble_eq_true rfl) ⟨Nat.le_of_ble_eq_true rfl, Nat.le_of_ble_eq_true rfl⟩ (by decide +kernel) (fun _ => ?_)
    refine zr_run [(.iadd, 0, 0, 0, .null), (.istore 6, 0, 0, 0, .null), (.iconst 0, 0, 0, 0, .int (0 : Int32)), (.istore 7, 0, 0, 0, .null)] [] (WW' := [w_Fk G a0 s0, w_Ld G a1 s1]) (lv' := [some (.ref (a0 0)), some (.ref (a1 0)), some (.int x2), some (.int x3), some (.int q1), some (.int q2), some (.int (x3 + q3)), some (.int (0 : Int32)), none]) (pc' := 31) (st' := []) (by decide +kernel) rfl rfl ⟨trivial, trivial, trivial, trivial, trivial⟩ ?_
    exact t_X1_step_L31 l G a0 a1 W0 r s1 zFU s0 x2 x3 q1 q2 (x3 + q3) (0 : Int32) hf
  exact zj_entry [some (.ref (a0 0)), some (.ref (a1 0)), some (.int x2), some (.int x3), none, none, none, none, none] (by decide +kernel) rfl (by decide) (Nat.le_of_ble_eq_true rfl) rfl rfl (key _)
def M_X1_dangerFor : zj_M := (RX1, cX1_dangerFor, 5, (some .int), { frames := 1, cells := 0, slots := 0, locals := 23 }, false)
theorem nm_X1_dangerFor : zj_nm yX1_dangerFor 3 := ⟨by decide +kernel, by decide +kernel, by decide +kernel⟩
def f_X1_dangerFor  (s0 : FkT) (s1 : LdT) (x2 : Int32) (x3 : Int32) : Option (Int32) := ((f_X1_of s0 x2 (3 : Int32)).bind fun q1 => ((f_X3_roadToward s1 x3 q1).bind fun q2 => ((f_X3_ofRoad s1 q2 (3 : Int32)).bind fun q3 => ((f_X3_ofMan s1 x2 (3 : Int32)).bind fun q4 => (if q4 = (1 : Int32) then some (q3 / (2 : Int32)) else some q3)))))
set_option maxRecDepth 100000 in
set_option maxHeartbeats 4000000 in
theorem c_X1_dangerFor (l : Launch) (G : zj_G) (a0 : Nat → Nat) (a1 : Nat → Nat) (s0 : FkT) (s1 : LdT) (x2 : Int32) (x3 : Int32) (r : Int32) (hf : f_X1_dangerFor s0 s1 x2 x3 = some r) : zj_C l G M_X1_dangerFor yX1_dangerFor [w_Fk G a0 s0, w_Ld G a1 s1] [.ref (a0 0), .ref (a1 0), .int x2, .int x3] (some (.int r)) (fun _ => [w_Fk G a0 s0, w_Ld G a1 s1]) := by
  have key : ∀ W0 : List va_W, zj_J l G M_X1_dangerFor W0 (zj_ret G M_X1_dangerFor W0 (some (.int r)) (fun _ => [w_Fk G a0 s0, w_Ld G a1 s1])) 0 0 [w_Fk G a0 s0, w_Ld G a1 s1] [some (.ref (a0 0)), some (.ref (a1 0)), some (.int x2), some (.int x3), none] 0 [] := by
    intro W0
    unfold f_X1_dangerFor at hf
    obtain ⟨q1, e1, hf⟩ := zbi_of hf
    refine zr_run [(.aload_n 1, 0, 0, 0, .null), (.aload_n 1, 0, 0, 0, .null), (.iload_n 3, 0, 0, 0, .null), (.aload_n 0, 0, 0, 0, .null), (.iload_n 2, 0, 0, 0, .null), (.iconst 3, 0, 0, 0, .int (3 : Int32))] [] (WW' := [w_Fk G a0 s0, w_Ld G a1 s1]) (lv' := [some (.ref (a0 0)), some (.ref (a1 0)), some (.int x2), some (.int x3), none]) (pc' := 6) (st' := [.int (3 : Int32), .int x2, .ref (a0 0), .int x3, .ref (a1 0), .ref (a1 0)]) (by decide +kernel) rfl rfl ⟨trivial, trivial, trivial, trivial, trivial, trivial, trivial⟩ ?_
    refine zr_callV (c_X1_of l G a0 s0 x2 (3 : Int32) q1 e1) (WW' := fun _ => [w_Fk G a0 s0, w_Ld G a1 s1]) (st := [.int x3, .ref (a1 0), .ref (a1 0)]) (st' := [.int q1, .int x3, .ref (a1 0), .ref (a1 0)]) [0] rfl rfl (fun _ => Nat.le_of_ble_eq_true rfl) (fun _ => rfl) rfl rfl nm_X1_of zw_3_141 zw_3_142 zw_3_143 zw_1_8 zw_3_142n rfl rfl rfl (Nat.le_of_ble_eq_true rfl) ⟨Nat.le_of_ble_eq_true rfl, Nat.le_of_ble_eq_true rfl⟩ (by decide +kernel) (fun _ => ?_)
    obtain ⟨q2, e2, hf⟩ := zbi_of hf
    refine zr_callV (c_X3_roadToward l G a1 s1 x3 q1 q2 e2) (WW' := fun _ => [w_Fk G a0 s0, w_Ld G a1 s1]) (st := [.ref (a1 0)]) (st' := [.int q2, .ref (a1 0)]) [1] rfl rfl (fun _ => Nat.le_of_ble_eq_true rfl) (fun _ => rfl) rfl rfl nm_X3_roadToward zw_4_36 zw_4_37 zw_4_38 zw_1_7 zw_4_37n rfl rfl rfl (Nat.le_of_ble_eq_true rfl) ⟨Nat.le_of_ble_eq_true rfl, Nat.le_of_ble_eq_true rfl⟩ (by decide +kernel) (fun _ => ?_)
    obtain ⟨q3, e3, hf⟩ := zbi_of hf
    refine zr_run [(.iconst 3, 0, 0, 0, .int (3 : Int32))] [] (WW' := [w_Fk G a0 s0, w_Ld G a1 s1]) (lv' := [some (.ref (a0 0)), some (.ref (a1 0)), some (.int x2), some (.int x3), none]) (pc' := 13) (st' := [.int (3 : Int32), .int q2, .ref (a1 0)]) (by decide +kernel) rfl rfl ⟨trivial, trivial⟩ ?_
    refine zr_callV (c_X3_ofRoad l G a1 s1 q2 (3 : Int32) q3 e3) (WW' := fun _ => [w_Fk G a0 s0, w_Ld G a1 s1]) (st := []) (st' := [.int q3]) [1] rfl rfl (fun _ => Nat.le_of_ble_eq_true rfl) (fun _ => rfl) rfl rfl nm_X3_ofRoad zw_4_40 zw_3_80 zw_3_81 zw_1_7 zw_3_80n rfl rfl rfl (Nat.le_of_ble_eq_true rfl) ⟨Nat.le_of_ble_eq_true rfl, Nat.le_of_ble_eq_true rfl⟩ (by decide +kernel) (fun _ => ?_)
    obtain ⟨q4, e4, hf⟩ := zbi_of hf
    refine zr_run [(.istore 4, 0, 0, 0, .null), (.aload_n 1, 0, 0, 0, .null), (.iload_n 2, 0, 0, 0, .null), (.iconst 3, 0, 0, 0, .int (3 : Int32))] [] (WW' := [w_Fk G a0 s0, w_Ld G a1 s1]) (lv' := [some (.ref (a0 0)), some (.ref (a1 0)), some (.int x2), some (.int x3), some (.int q3)]) (pc' := 21) (st' := [.int (3 : Int32), .int x2, .ref (a1 0)]) (by decide +kernel) rfl rfl ⟨trivial, trivial, trivial, trivial, trivial⟩ ?_
    refine zr_callV (c_X3_ofMan l G a1 s1 x2 (3 : Int32) q4 e4) (WW' := fun _ => [w_Fk G a0 s0, w_Ld G a1 s1]) (st := []) (st' := [.int q4]) [1] rfl rfl (fun _ => Nat.le_of_ble_eq_true rfl) (fun _ => rfl) rfl rfl nm_X3_ofMan zw_3_108 zw_3_67 zw_3_68 zw_1_7 zw_3_67n rfl rfl rfl (Nat.le_of_ble_eq_true rfl) ⟨Nat.le_of_ble_eq_true rfl, Nat.le_of_ble_eq_true rfl⟩ (by decide +kernel) (fun _ => ?_)
    refine zr_run [(.iconst 1, 0, 0, 0, .int (1 : Int32))] [] (WW' := [w_Fk G a0 s0, w_Ld G a1 s1]) (lv' := [some (.ref (a0 0)), some (.ref (a1 0)), some (.int x2), some (.int x3), some (.int q3)]) (pc' := 25) (st' := [.int (1 : Int32), .int q4]) (by decide +kernel) rfl rfl ⟨trivial, trivial⟩ ?_
    refine zr_icmp_ne (off := 10) (tgt := 35) (by decide +kernel) (by decide) (fun hc => ?_) (fun hc => ?_)
    · have hf := zift hf hc
      refine zr_run [(.iload 4, 0, 0, 0, .null), (.iconst 2, 0, 0, 0, .int (2 : Int32)), (.idiv, 0, 0, 0, .null)] [] (WW' := [w_Fk G a0 s0, w_Ld G a1 s1]) (lv' := [some (.ref (a0 0)), some (.ref (a1 0)), some (.int x2), some (.int x3), some (.int q3)]) (pc' := 32) (st' := [.int (q3 / (2 : Int32))]) (by decide +kernel) rfl rfl ⟨trivial, trivial, (by decide), trivial⟩ ?_
      refine zr_goto (off := 5) (tgt := 37) (by decide +kernel) (by decide) ?_
      obtain rfl := Option.some.inj hf
      exact zr_iret (b0 := fun _ => 0) (by decide +kernel) rfl rfl rfl rfl rfl
    · have hf := ziff hf hc
      refine zr_run [(.iload 4, 0, 0, 0, .null)] [] (WW' := [w_Fk G a0 s0, w_Ld G a1 s1]) (lv' := [some (.ref (a0 0)), some (.ref (a1 0)), some (.int x2), some (.int x3), some (.int q3)]) (pc' := 37) (st' := [.int q3]) (by decide +kernel) rfl rfl ⟨trivial, trivial⟩ ?_
      obtain rfl := Option.some.inj hf
      exact zr_iret (b0 := fun _ => 0) (by decide +kernel) rfl rfl rfl rfl rfl
  exact zj_entry [some (.ref (a0 0)), some (.ref (a1 0)), some (.int x2), some (.int x3), none] (by decide +kernel) rfl (by decide) (Nat.le_of_ble_eq_true rfl) rfl rfl (key _)
def M_X1_walk : zj_M := (RX1, cX1_walk, 5, none, { frames := 2, cells := 0, slots := 0, locals := 52 }, false)
theorem nm_X1_walk : zj_nm yX1_walk 2 := ⟨by decide +kernel, by decide +kernel, by decide +kernel⟩
def f_X1_walk_b175  (s0 : FkT) (s1 : LdT)  (x2 : Int32) : Option (FkT) := ((f_X1_more s0 x2 (6 : Int32) (-1 : Int32)).bind fun q14 => ((f_X1_of q14 x2 (6 : Int32)).bind fun q15 => (if 0 < q15 then some q14 else ((f_X1_put q14 x2 (0 : Int32) (4 : Int32)).bind fun q16 => some q16))))
def f_X1_walk_b109  (s0 : FkT) (s1 : LdT)  (x2 : Int32) : Option (FkT) := ((f_X1_of s0 x2 (3 : Int32)).bind fun q7 => ((f_X1_isJustAt s0 x2 q7).bind fun q8 => (if q8 = 0 then ((f_X1_of s0 x2 (12 : Int32)).bind fun q9 => (if 0 < q9 then ((f_X1_draw s0 (12 : Int32)).bind fun q10 => ((f_X1_of q10.2 x2 (11 : Int32)).bind fun q11 => ((f_X1_dangerFor q10.2 s1 x2 q11).bind fun q12 => (if q10.1 < q12 then ((f_X1_put q10.2 x2 (0 : Int32) (5 : Int32)).bind fun q13 => some q13) else f_X1_walk_b175 q10.2 s1 x2)))) else f_X1_walk_b175 s0 s1 x2)) else ((f_X1_put s0 x2 (0 : Int32) (2 : Int32)).bind fun q17 => some q17))))
def f_X1_walk_b77  (s0 : FkT) (s1 : LdT)  (x2 : Int32) (x4 : Int32) : Option (FkT) := (if x4 = 0 then ((f_X1_more s0 x2 (8 : Int32) (1 : Int32)).bind fun q18 => ((f_X1_of q18 x2 (8 : Int32)).bind fun q19 => (if q19 < (2 : Int32) then f_X1_walk_b109 q18 s1 x2 else ((f_X1_put q18 x2 (0 : Int32) (4 : Int32)).bind fun q20 => some q20)))) else f_X1_walk_b109 s0 s1 x2)
def f_X1_walk_b48  (s0 : FkT) (s1 : LdT)  (x2 : Int32) (x3 : Int32) (z0 : Int32) : Option (FkT) := (if z0 = 0 then (if 0 < x3 then ((f_X1_put s0 x2 (8 : Int32) (0 : Int32)).bind fun q5 => ((f_X1_step q5 s1 x2 x3).bind fun q6 => f_X1_walk_b109 q6 s1 x2)) else f_X1_walk_b77 s0 s1 x2 z0) else f_X1_walk_b77 s0 s1 x2 z0)
def f_X1_walk_b47  (s0 : FkT) (s1 : LdT)  (x2 : Int32) (x3 : Int32) : Option (FkT) := f_X1_walk_b48 s0 s1 x2 x3 (0 : Int32)
def f_X1_walk  (s0 : FkT) (s1 : LdT) (x2 : Int32) : Option (FkT) := ((f_X1_of s0 x2 (7 : Int32)).bind fun q1 => ((f_X1_allMiles s0 s1 x2).bind fun q2 => ((f_X1_of s0 x2 (5 : Int32)).bind fun q3 => ((f_X1_meetsFord s0 s1 x2 (zr_mminF q1 (q2 - q3))).bind fun q4 => (if q4 = 0 then f_X1_walk_b47 s0 s1 x2 (zr_mminF q1 (q2 - q3)) else ((f_X1_draw s0 (6 : Int32)).bind fun q21 => (if q21.1 = 0 then f_X1_walk_b48 q21.2 s1 x2 (zr_mminF q1 (q2 - q3)) (1 : Int32) else f_X1_walk_b47 q21.2 s1 x2 (zr_mminF q1 (q2 - q3)))))))))
set_option maxRecDepth 100000 in
set_option maxHeartbeats 4000000 in
theorem t_X1_walk_b175 (l : Launch) (G : zj_G) (a0 : Nat → Nat) (a1 : Nat → Nat) (W0 : List va_W) (r : FkT) (s0 : FkT) (s1 : LdT)   (x2 : Int32) (hf : f_X1_walk_b175 s0 s1 x2 = some r) : zj_J l G M_X1_walk W0 (zj_ret G M_X1_walk W0 (none) (fun _ => [w_Fk G a0 r, w_Ld G a1 s1])) 0 0 [w_Fk G a0 s0, w_Ld G a1 s1] [some (.ref (a0 0)), none, some (.int x2), none, none] 175 [] := by
  unfold f_X1_walk_b175 at hf
  obtain ⟨q14, e14, hf⟩ := zbi_of hf
  refine zr_run [(.aload_n 0, 0, 0, 0, .null), (.iload_n 2, 0, 0, 0, .null), (.bipush 6, 0, 0, 0, .int (6 : Int32)), (.iconst (-1), 0, 0, 0, .int (-1 : Int32))] [] (WW' := [w_Fk G a0 s0, w_Ld G a1 s1]) (lv' := [some (.ref (a0 0)), none, some (.int x2), none, none]) (pc' := 180) (st' := [.int (-1 : Int32), .int (6 : Int32), .int x2, .ref (a0 0)]) (by decide +kernel) rfl rfl ⟨trivial, trivial, trivial, trivial, trivial⟩ ?_
  refine zr_callV (c_X1_more l G a0 s0 x2 (6 : Int32) (-1 : Int32) q14 e14) (WW' := fun _ => [w_Fk G a0 q14, w_Ld G a1 s1]) (st := []) (st' := []) [0] rfl rfl (fun _ => Nat.le_of_ble_eq_true rfl) (fun _ => rfl) rfl rfl nm_X1_more zw_3_189 zw_3_191 zw_0_11 zw_1_8 zw_3_190 rfl rfl rfl (Nat.le_of_ble_eq_true rfl) ⟨Nat.le_of_ble_eq_true rfl, Nat.le_of_ble_eq_true rfl⟩ (by decide +kernel) (fun _ => ?_)
  obtain ⟨q15, e15, hf⟩ := zbi_of hf
  refine zr_run [(.aload_n 0, 0, 0, 0, .null), (.iload_n 2, 0, 0, 0, .null), (.bipush 6, 0, 0, 0, .int (6 : Int32))] [] (WW' := [w_Fk G a0 q14, w_Ld G a1 s1]) (lv' := [some (.ref (a0 0)), none, some (.int x2), none, none]) (pc' := 187) (st' := [.int (6 : Int32), .int x2, .ref (a0 0)]) (by decide +kernel) rfl rfl ⟨trivial, trivial, trivial, trivial⟩ ?_
  refine zr_callV (c_X1_of l G a0 q14 x2 (6 : Int32) q15 e15) (WW' := fun _ => [w_Fk G a0 q14, w_Ld G a1 s1]) (st := []) (st' := [.int q15]) [0] rfl rfl (fun _ => Nat.le_of_ble_eq_true rfl) (fun _ => rfl) rfl rfl nm_X1_of zw_3_141 zw_3_142 zw_3_143 zw_1_8 zw_3_142n rfl rfl rfl (Nat.le_of_ble_eq_true rfl) ⟨Nat.le_of_ble_eq_true rfl, Nat.le_of_ble_eq_true rfl⟩ (by decide +kernel) (fun _ => ?_)
  refine zr_if_gt (off := 10) (tgt := 200) (by decide +kernel) (by decide) (fun hc => ?_) (fun hc => ?_)
  · have hf := zift hf hc
    obtain rfl := Option.some.inj hf
    exact zr_vret (b0 := fun _ => 0) (by decide +kernel) rfl rfl rfl rfl rfl
  · have hf := ziff hf hc
    obtain ⟨q16, e16, hf⟩ := zbi_of hf
    refine zr_run [(.aload_n 0, 0, 0, 0, .null), (.iload_n 2, 0, 0, 0, .null), (.iconst 0, 0, 0, 0, .int (0 : Int32)), (.iconst 4, 0, 0, 0, .int (4 : Int32))] [] (WW' := [w_Fk G a0 q14, w_Ld G a1 s1]) (lv' := [some (.ref (a0 0)), none, some (.int x2), none, none]) (pc' := 197) (st' := [.int (4 : Int32), .int (0 : Int32), .int x2, .ref (a0 0)]) (by decide +kernel) rfl rfl ⟨trivial, trivial, trivial, trivial, trivial⟩ ?_
    refine zr_callV (c_X1_put l G a0 q14 x2 (0 : Int32) (4 : Int32) q16 e16) (WW' := fun _ => [w_Fk G a0 q16, w_Ld G a1 s1]) (st := []) (st' := []) [0] rfl rfl (fun _ => Nat.le_of_ble_eq_true rfl) (fun _ => rfl) rfl rfl nm_X1_put zw_3_104 zw_3_106 zw_0_10 zw_1_8 zw_3_105 rfl rfl rfl (Nat.le_of_ble_eq_true rfl) ⟨Nat.le_of_ble_eq_true rfl, Nat.le_of_ble_eq_true rfl⟩ (by decide +kernel) (fun _ => ?_)
    obtain rfl := Option.some.inj hf
    exact zr_vret (b0 := fun _ => 0) (by decide +kernel) rfl rfl rfl rfl rfl
set_option maxRecDepth 100000 in
set_option maxHeartbeats 4000000 in
theorem t_X1_walk_b109 (l : Launch) (G : zj_G) (a0 : Nat → Nat) (a1 : Nat → Nat) (W0 : List va_W) (r : FkT) (s0 : FkT) (s1 : LdT)   (x2 : Int32) (hf : f_X1_walk_b109 s0 s1 x2 = some r) : zj_J l G M_X1_walk W0 (zj_ret G M_X1_walk W0 (none) (fun _ => [w_Fk G a0 r, w_Ld G a1 s1])) 0 0 [w_Fk G a0 s0, w_Ld G a1 s1] [some (.ref (a0 0)), some (.ref (a1 0)), some (.int x2), none, none] 109 [] := by
  unfold f_X1_walk_b109 at hf
  obtain ⟨q7, e7, hf⟩ := zbi_of hf
  refine zr_run [(.aload_n 0, 0, 0, 0, .null), (.iload_n 2, 0, 0, 0, .null), (.aload_n 0, 0, 0, 0, .null), (.iload_n 2, 0, 0, 0, .null), (.iconst 3, 0, 0, 0, .int (3 : Int32))] [] (WW' := [w_Fk G a0 s0, w_Ld G a1 s1]) (lv' := [some (.ref (a0 0)), some (.ref (a1 0)), some (.int x2), none, none]) (pc' := 114) (st' := [.int (3 : Int32), .int x2, .ref (a0 0), .int x2, .ref (a0 0)]) (by decide +kernel) rfl rfl ⟨trivial, trivial, trivial, trivial, trivial, trivial⟩ ?_
  refine zr_callV (c_X1_of l G a0 s0 x2 (3 : Int32) q7 e7) (WW' := fun _ => [w_Fk G a0 s0, w_Ld G a1 s1]) (st := [.int x2, .ref (a0 0)]) (st' := [.int q7, .int x2, .ref (a0 0)]) [0] rfl rfl (fun _ => Nat.le_of_ble_eq_true rfl) (fun _ => rfl) rfl rfl nm_X1_of zw_3_141 zw_3_142 zw_3_143 zw_1_8 zw_3_142n rfl rfl rfl (Nat.le_of_ble_eq_true rfl) ⟨Nat.le_of_ble_eq_true rfl, Nat.le_of_ble_eq_true rfl⟩ (by decide +kernel) (fun _ => ?_)
  obtain ⟨q8, e8, hf⟩ := zbi_of hf
  refine zr_callV (c_X1_isJustAt l G a0 s0 x2 q7 q8 e8) (WW' := fun _ => [w_Fk G a0 s0, w_Ld G a1 s1]) (st := []) (st' := [.int q8]) [0] rfl rfl (fun _ => Nat.le_of_ble_eq_true rfl) (fun _ => rfl) rfl rfl nm_X1_isJustAt zw_3_137 zw_3_138 zw_3_139 zw_1_8 zw_3_140 rfl rfl rfl (Nat.le_of_ble_eq_true rfl) ⟨Nat.le_of_ble_eq_true rfl, Nat.le_of_ble_eq_true rfl⟩ (by decide +kernel) (fun _ => ?_)
  refine zr_if_eq (off := 13) (tgt := 133) (by decide +kernel) (by decide) (fun hc => ?_) (fun hc => ?_)
  · have hf := zift hf hc
    obtain ⟨q9, e9, hf⟩ := zbi_of hf
    refine zr_run [(.aload_n 0, 0, 0, 0, .null), (.iload_n 2, 0, 0, 0, .null), (.bipush 12, 0, 0, 0, .int (12 : Int32))] [] (WW' := [w_Fk G a0 s0, w_Ld G a1 s1]) (lv' := [some (.ref (a0 0)), some (.ref (a1 0)), some (.int x2), none, none]) (pc' := 137) (st' := [.int (12 : Int32), .int x2, .ref (a0 0)]) (by decide +kernel) rfl rfl ⟨trivial, trivial, trivial, trivial⟩ ?_
    refine zr_callV (c_X1_of l G a0 s0 x2 (12 : Int32) q9 e9) (WW' := fun _ => [w_Fk G a0 s0, w_Ld G a1 s1]) (st := []) (st' := [.int q9]) [0] rfl rfl (fun _ => Nat.le_of_ble_eq_true rfl) (fun _ => rfl) rfl rfl nm_X1_of zw_3_141 zw_3_142 zw_3_143 zw_1_8 zw_3_142n rfl rfl rfl (Nat.le_of_ble_eq_true rfl) ⟨Nat.le_of_ble_eq_true rfl, Nat.le_of_ble_eq_true rfl⟩ (by decide +kernel) (fun _ => ?_)
    refine zr_if_le (off := 35) (tgt := 175) (by decide +kernel) (by decide) (fun hc => ?_) (fun hc => ?_)
    · have hf := zift hf hc
      obtain ⟨q10, e10, hf⟩ := zbi_of hf
      refine zr_run [(.aload_n 0, 0, 0, 0, .null), (.bipush 12, 0, 0, 0, .int (12 : Int32))] [] (WW' := [w_Fk G a0 s0, w_Ld G a1 s1]) (lv' := [some (.ref (a0 0)), some (.ref (a1 0)), some (.int x2), none, none]) (pc' := 146) (st' := [.int (12 : Int32), .ref (a0 0)]) (by decide +kernel) rfl rfl ⟨trivial, trivial, trivial⟩ ?_
      refine zr_callV (c_X1_draw l G a0 s0 (12 : Int32) q10 e10) (WW' := fun _ => [w_Fk G a0 q10.2, w_Ld G a1 s1]) (st := []) (st' := [.int q10.1]) [0] rfl rfl (fun _ => Nat.le_of_ble_eq_true rfl) (fun _ => rfl) rfl rfl nm_X1_draw zw_4_18 zw_4_20 zw_0_15 zw_1_8 zw_4_21 rfl rfl rfl (Nat.le_of_ble_eq_true rfl) ⟨Nat.le_of_ble_eq_true rfl, Nat.le_of_ble_eq_true rfl⟩ (by decide +kernel) (fun _ => ?_)
      obtain ⟨q11, e11, hf⟩ := zbi_of hf
      refine zr_run [(.aload_n 0, 0, 0, 0, .null), (.aload_n 1, 0, 0, 0, .null), (.iload_n 2, 0, 0, 0, .null), (.aload_n 0, 0, 0, 0, .null), (.iload_n 2, 0, 0, 0, .null), (.bipush 11, 0, 0, 0, .int (11 : Int32))] [] (WW' := [w_Fk G a0 q10.2, w_Ld G a1 s1]) (lv' := [some (.ref (a0 0)), some (.ref (a1 0)), some (.int x2), none, none]) (pc' := 156) (st' := [.int (11 : Int32), .int x2, .ref (a0 0), .int x2, .ref (a1 0), .ref (a0 0), .int q10.1]) (by decide +kernel) rfl rfl ⟨trivial, trivial, trivial, trivial, trivial, trivial, trivial⟩ ?_
      refine zr_callV (c_X1_of l G a0 q10.2 x2 (11 : Int32) q11 e11) (WW' := fun _ => [w_Fk G a0 q10.2, w_Ld G a1 s1]) (st := [.int x2, .ref (a1 0), .ref (a0 0), .int q10.1]) (st' := [.int q11, .int x2, .ref (a1 0), .ref (a0 0), .int q10.1]) [0] rfl rfl (fun _ => Nat.le_of_ble_eq_true rfl) (fun _ => rfl) rfl rfl nm_X1_of zw_3_141 zw_3_142 zw_3_143 zw_1_8 zw_3_142n rfl rfl rfl (Nat.le_of_ble_eq_true rfl) ⟨Nat.le_of_ble_eq_true rfl, Nat.le_of_ble_eq_true rfl⟩ (by decide +kernel) (fun _ => ?_)
      obtain ⟨q12, e12, hf⟩ := zbi_of hf
      refine zr_callV (c_X1_dangerFor l G a0 a1 q10.2 s1 x2 q11 q12 e12) (WW' := fun _ => [w_Fk G a0 q10.2, w_Ld G a1 s1]) (st := [.int q10.1]) (st' := [.int q12, .int q10.1]) [0, 1] rfl rfl (fun _ => Nat.le_of_ble_eq_true rfl) (fun _ => rfl) rfl rfl nm_X1_dangerFor zw_4_49 zw_4_50 zw_4_51 zw_1_8 zw_4_52 rfl rfl rfl (Nat.le_of_ble_eq_true rfl) ⟨Nat.le_of_ble_eq_true rfl, Nat.le_of_ble_eq_true rfl⟩ (by decide +kernel) (fun _ => ?_)
      refine zr_icmp_ge (off := 13) (tgt := 175) (by decide +kernel) (by decide) (fun hc => ?_) (fun hc => ?_)
      · have hf := zift hf hc
        obtain ⟨q13, e13, hf⟩ := zbi_of hf
        refine zr_run [(.aload_n 0, 0, 0, 0, .null), (.iload_n 2, 0, 0, 0, .null), (.iconst 0, 0, 0, 0, .int (0 : Int32)), (.iconst 5, 0, 0, 0, .int (5 : Int32))] [] (WW' := [w_Fk G a0 q10.2, w_Ld G a1 s1]) (lv' := [some (.ref (a0 0)), some (.ref (a1 0)), some (.int x2), none, none]) (pc' := 169) (st' := [.int (5 : Int32), .int (0 : Int32), .int x2, .ref (a0 0)]) (by decide +kernel) rfl rfl ⟨trivial, trivial, trivial, trivial, trivial⟩ ?_
        refine zr_callV (c_X1_put l G a0 q10.2 x2 (0 : Int32) (5 : Int32) q13 e13) (WW' := fun _ => [w_Fk G a0 q13, w_Ld G a1 s1]) (st := []) (st' := []) [0] rfl rfl (fun _ => Nat.le_of_ble_eq_true rfl) (fun _ => rfl) rfl rfl nm_X1_put zw_3_104 zw_3_106 zw_0_10 zw_1_8 zw_3_105 rfl rfl rfl (Nat.le_of_ble_eq_true rfl) ⟨Nat.le_of_ble_eq_true rfl, Nat.le_of_ble_eq_true rfl⟩ (by decide +kernel) (fun _ => ?_)
        refine zr_goto (off := 28) (tgt := 200) (by decide +kernel) (by decide) ?_
        obtain rfl := Option.some.inj hf
        exact zr_vret (b0 := fun _ => 0) (by decide +kernel) rfl rfl rfl rfl rfl
      · have hf := ziff hf hc
        refine zr_run [] [1] (WW' := [w_Fk G a0 q10.2, w_Ld G a1 s1]) (lv' := [some (.ref (a0 0)), none, some (.int x2), none, none]) (pc' := 175) (st' := []) (by decide +kernel) rfl rfl trivial ?_
        exact t_X1_walk_b175 l G a0 a1 W0 r q10.2 s1 x2 hf
    · have hf := ziff hf hc
      refine zr_run [] [1] (WW' := [w_Fk G a0 s0, w_Ld G a1 s1]) (lv' := [some (.ref (a0 0)), none, some (.int x2), none, none]) (pc' := 175) (st' := []) (by decide +kernel) rfl rfl trivial ?_
      exact t_X1_walk_b175 l G a0 a1 W0 r s0 s1 x2 hf
  · have hf := ziff hf hc
    obtain ⟨q17, e17, hf⟩ := zbi_of hf
    refine zr_run [(.aload_n 0, 0, 0, 0, .null), (.iload_n 2, 0, 0, 0, .null), (.iconst 0, 0, 0, 0, .int (0 : Int32)), (.iconst 2, 0, 0, 0, .int (2 : Int32))] [] (WW' := [w_Fk G a0 s0, w_Ld G a1 s1]) (lv' := [some (.ref (a0 0)), some (.ref (a1 0)), some (.int x2), none, none]) (pc' := 127) (st' := [.int (2 : Int32), .int (0 : Int32), .int x2, .ref (a0 0)]) (by decide +kernel) rfl rfl ⟨trivial, trivial, trivial, trivial, trivial⟩ ?_
    refine zr_callV (c_X1_put l G a0 s0 x2 (0 : Int32) (2 : Int32) q17 e17) (WW' := fun _ => [w_Fk G a0 q17, w_Ld G a1 s1]) (st := []) (st' := []) [0] rfl rfl (fun _ => Nat.le_of_ble_eq_true rfl) (fun _ => rfl) rfl rfl nm_X1_put zw_3_104 zw_3_106 zw_0_10 zw_1_8 zw_3_105 rfl rfl rfl (Nat.le_of_ble_eq_true rfl) ⟨Nat.le_of_ble_eq_true rfl, Nat.le_of_ble_eq_true rfl⟩ (by decide +kernel) (fun _ => ?_)
    refine zr_goto (off := 70) (tgt := 200) (by decide +kernel) (by decide) ?_
    obtain rfl := Option.some.inj hf
    exact zr_vret (b0 := fun _ => 0) (by decide +kernel) rfl rfl rfl rfl rfl
set_option maxRecDepth 100000 in
set_option maxHeartbeats 4000000 in
theorem t_X1_walk_b77 (l : Launch) (G : zj_G) (a0 : Nat → Nat) (a1 : Nat → Nat) (W0 : List va_W) (r : FkT) (s0 : FkT) (s1 : LdT)   (x2 : Int32) (x4 : Int32) (hf : f_X1_walk_b77 s0 s1 x2 x4 = some r) : zj_J l G M_X1_walk W0 (zj_ret G M_X1_walk W0 (none) (fun _ => [w_Fk G a0 r, w_Ld G a1 s1])) 0 0 [w_Fk G a0 s0, w_Ld G a1 s1] [some (.ref (a0 0)), some (.ref (a1 0)), some (.int x2), none, some (.int x4)] 77 [] := by
  unfold f_X1_walk_b77 at hf
  refine zr_run [(.iload 4, 0, 0, 0, .null)] [] (WW' := [w_Fk G a0 s0, w_Ld G a1 s1]) (lv' := [some (.ref (a0 0)), some (.ref (a1 0)), some (.int x2), none, some (.int x4)]) (pc' := 79) (st' := [.int x4]) (by decide +kernel) rfl rfl ⟨trivial, trivial⟩ ?_
  refine zr_if_ne (off := 30) (tgt := 109) (by decide +kernel) (by decide) (fun hc => ?_) (fun hc => ?_)
  · have hf := zift hf hc
    obtain ⟨q18, e18, hf⟩ := zbi_of hf
    refine zr_run [(.aload_n 0, 0, 0, 0, .null), (.iload_n 2, 0, 0, 0, .null), (.bipush 8, 0, 0, 0, .int (8 : Int32)), (.iconst 1, 0, 0, 0, .int (1 : Int32))] [] (WW' := [w_Fk G a0 s0, w_Ld G a1 s1]) (lv' := [some (.ref (a0 0)), some (.ref (a1 0)), some (.int x2), none, some (.int x4)]) (pc' := 87) (st' := [.int (1 : Int32), .int (8 : Int32), .int x2, .ref (a0 0)]) (by decide +kernel) rfl rfl ⟨trivial, trivial, trivial, trivial, trivial⟩ ?_
    refine zr_callV (c_X1_more l G a0 s0 x2 (8 : Int32) (1 : Int32) q18 e18) (WW' := fun _ => [w_Fk G a0 q18, w_Ld G a1 s1]) (st := []) (st' := []) [0] rfl rfl (fun _ => Nat.le_of_ble_eq_true rfl) (fun _ => rfl) rfl rfl nm_X1_more zw_3_189 zw_3_191 zw_0_11 zw_1_8 zw_3_190 rfl rfl rfl (Nat.le_of_ble_eq_true rfl) ⟨Nat.le_of_ble_eq_true rfl, Nat.le_of_ble_eq_true rfl⟩ (by decide +kernel) (fun _ => ?_)
    obtain ⟨q19, e19, hf⟩ := zbi_of hf
    refine zr_run [(.aload_n 0, 0, 0, 0, .null), (.iload_n 2, 0, 0, 0, .null), (.bipush 8, 0, 0, 0, .int (8 : Int32))] [] (WW' := [w_Fk G a0 q18, w_Ld G a1 s1]) (lv' := [some (.ref (a0 0)), some (.ref (a1 0)), some (.int x2), none, some (.int x4)]) (pc' := 94) (st' := [.int (8 : Int32), .int x2, .ref (a0 0)]) (by decide +kernel) rfl rfl ⟨trivial, trivial, trivial, trivial⟩ ?_
    refine zr_callV (c_X1_of l G a0 q18 x2 (8 : Int32) q19 e19) (WW' := fun _ => [w_Fk G a0 q18, w_Ld G a1 s1]) (st := []) (st' := [.int q19]) [0] rfl rfl (fun _ => Nat.le_of_ble_eq_true rfl) (fun _ => rfl) rfl rfl nm_X1_of zw_3_141 zw_3_142 zw_3_143 zw_1_8 zw_3_142n rfl rfl rfl (Nat.le_of_ble_eq_true rfl) ⟨Nat.le_of_ble_eq_true rfl, Nat.le_of_ble_eq_true rfl⟩ (by decide +kernel) (fun _ => ?_)
    refine zr_run [(.iconst 2, 0, 0, 0, .int (2 : Int32))] [] (WW' := [w_Fk G a0 q18, w_Ld G a1 s1]) (lv' := [some (.ref (a0 0)), some (.ref (a1 0)), some (.int x2), none, some (.int x4)]) (pc' := 98) (st' := [.int (2 : Int32), .int q19]) (by decide +kernel) rfl rfl ⟨trivial, trivial⟩ ?_
    refine zr_icmp_lt (off := 11) (tgt := 109) (by decide +kernel) (by decide) (fun hc => ?_) (fun hc => ?_)
    · have hf := zift hf hc
      refine zr_run [] [4] (WW' := [w_Fk G a0 q18, w_Ld G a1 s1]) (lv' := [some (.ref (a0 0)), some (.ref (a1 0)), some (.int x2), none, none]) (pc' := 109) (st' := []) (by decide +kernel) rfl rfl trivial ?_
      exact t_X1_walk_b109 l G a0 a1 W0 r q18 s1 x2 hf
    · have hf := ziff hf hc
      obtain ⟨q20, e20, hf⟩ := zbi_of hf
      refine zr_run [(.aload_n 0, 0, 0, 0, .null), (.iload_n 2, 0, 0, 0, .null), (.iconst 0, 0, 0, 0, .int (0 : Int32)), (.iconst 4, 0, 0, 0, .int (4 : Int32))] [] (WW' := [w_Fk G a0 q18, w_Ld G a1 s1]) (lv' := [some (.ref (a0 0)), some (.ref (a1 0)), some (.int x2), none, some (.int x4)]) (pc' := 105) (st' := [.int (4 : Int32), .int (0 : Int32), .int x2, .ref (a0 0)]) (by decide +kernel) rfl rfl ⟨trivial, trivial, trivial, trivial, trivial⟩ ?_
      refine zr_callV (c_X1_put l G a0 q18 x2 (0 : Int32) (4 : Int32) q20 e20) (WW' := fun _ => [w_Fk G a0 q20, w_Ld G a1 s1]) (st := []) (st' := []) [0] rfl rfl (fun _ => Nat.le_of_ble_eq_true rfl) (fun _ => rfl) rfl rfl nm_X1_put zw_3_104 zw_3_106 zw_0_10 zw_1_8 zw_3_105 rfl rfl rfl (Nat.le_of_ble_eq_true rfl) ⟨Nat.le_of_ble_eq_true rfl, Nat.le_of_ble_eq_true rfl⟩ (by decide +kernel) (fun _ => ?_)
      obtain rfl := Option.some.inj hf
      exact zr_vret (b0 := fun _ => 0) (by decide +kernel) rfl rfl rfl rfl rfl
  · have hf := ziff hf hc
    refine zr_run [] [4] (WW' := [w_Fk G a0 s0, w_Ld G a1 s1]) (lv' := [some (.ref (a0 0)), some (.ref (a1 0)), some (.int x2), none, none]) (pc' := 109) (st' := []) (by decide +kernel) rfl rfl trivial ?_
    exact t_X1_walk_b109 l G a0 a1 W0 r s0 s1 x2 hf
set_option maxRecDepth 100000 in
set_option maxHeartbeats 4000000 in
theorem t_X1_walk_b48 (l : Launch) (G : zj_G) (a0 : Nat → Nat) (a1 : Nat → Nat) (W0 : List va_W) (r : FkT) (s0 : FkT) (s1 : LdT)   (x2 : Int32) (x3 : Int32) (z0 : Int32) (hf : f_X1_walk_b48 s0 s1 x2 x3 z0 = some r) : zj_J l G M_X1_walk W0 (zj_ret G M_X1_walk W0 (none) (fun _ => [w_Fk G a0 r, w_Ld G a1 s1])) 0 0 [w_Fk G a0 s0, w_Ld G a1 s1] [some (.ref (a0 0)), some (.ref (a1 0)), some (.int x2), some (.int x3), none] 48 [.int z0] := by
  unfold f_X1_walk_b48 at hf
  refine zr_run [(.istore 4, 0, 0, 0, .null), (.iload 4, 0, 0, 0, .null)] [] (WW' := [w_Fk G a0 s0, w_Ld G a1 s1]) (lv' := [some (.ref (a0 0)), some (.ref (a1 0)), some (.int x2), some (.int x3), some (.int z0)]) (pc' := 52) (st' := [.int z0]) (by decide +kernel) rfl rfl ⟨trivial, trivial, trivial⟩ ?_
  refine zr_if_ne (off := 25) (tgt := 77) (by decide +kernel) (by decide) (fun hc => ?_) (fun hc => ?_)
  · have hf := zift hf hc
    refine zr_run [(.iload_n 3, 0, 0, 0, .null)] [] (WW' := [w_Fk G a0 s0, w_Ld G a1 s1]) (lv' := [some (.ref (a0 0)), some (.ref (a1 0)), some (.int x2), some (.int x3), some (.int z0)]) (pc' := 56) (st' := [.int x3]) (by decide +kernel) rfl rfl ⟨trivial, trivial⟩ ?_
    refine zr_if_le (off := 21) (tgt := 77) (by decide +kernel) (by decide) (fun hc => ?_) (fun hc => ?_)
    · have hf := zift hf hc
      obtain ⟨q5, e5, hf⟩ := zbi_of hf
      refine zr_run [(.aload_n 0, 0, 0, 0, .null), (.iload_n 2, 0, 0, 0, .null), (.bipush 8, 0, 0, 0, .int (8 : Int32)), (.iconst 0, 0, 0, 0, .int (0 : Int32))] [] (WW' := [w_Fk G a0 s0, w_Ld G a1 s1]) (lv' := [some (.ref (a0 0)), some (.ref (a1 0)), some (.int x2), some (.int x3), some (.int z0)]) (pc' := 64) (st' := [.int (0 : Int32), .int (8 : Int32), .int x2, .ref (a0 0)]) (by decide +kernel) rfl rfl ⟨trivial, trivial, trivial, trivial, trivial⟩ ?_
      refine zr_callV (c_X1_put l G a0 s0 x2 (8 : Int32) (0 : Int32) q5 e5) (WW' := fun _ => [w_Fk G a0 q5, w_Ld G a1 s1]) (st := []) (st' := []) [0] rfl rfl (fun _ => Nat.le_of_ble_eq_true rfl) (fun _ => rfl) rfl rfl nm_X1_put zw_3_104 zw_3_106 zw_0_10 zw_1_8 zw_3_105 rfl rfl rfl (Nat.le_of_ble_eq_true rfl) ⟨Nat.le_of_ble_eq_true rfl, Nat.le_of_ble_eq_true rfl⟩ (by decide +kernel) (fun _ => ?_)
      obtain ⟨q6, e6, hf⟩ := zbi_of hf
      refine zr_run [(.aload_n 0, 0, 0, 0, .null), (.aload_n 1, 0, 0, 0, .null), (.iload_n 2, 0, 0, 0, .null), (.iload_n 3, 0, 0, 0, .null)] [] (WW' := [w_Fk G a0 q5, w_Ld G a1 s1]) (lv' := [some (.ref (a0 0)), some (.ref (a1 0)), some (.int x2), some (.int x3), some (.int z0)]) (pc' := 71) (st' := [.int x3, .int x2, .ref (a1 0), .ref (a0 0)]) (by decide +kernel) rfl rfl ⟨trivial, trivial, trivial, trivial, trivial⟩ ?_
      refine zr_callV (c_X1_step l G a0 a1 q5 s1 x2 x3 q6 e6) (WW' := fun _ => [w_Fk G a0 q6, w_Ld G a1 s1]) (st := []) (st' := []) [0, 1] rfl rfl (fun _ => Nat.le_of_ble_eq_true rfl) (fun _ => rfl) rfl rfl nm_X1_step zw_4_45 zw_4_47 zw_0_18 zw_1_8 zw_4_48 rfl rfl rfl (Nat.le_of_ble_eq_true rfl) ⟨Nat.le_of_ble_eq_true rfl, Nat.le_of_ble_eq_true rfl⟩ (by decide +kernel) (fun _ => ?_)
      refine zr_goto (off := 35) (tgt := 109) (by decide +kernel) (by decide) ?_
      refine zr_run [] [3, 4] (WW' := [w_Fk G a0 q6, w_Ld G a1 s1]) (lv' := [some (.ref (a0 0)), some (.ref (a1 0)), some (.int x2), none, none]) (pc' := 109) (st' := []) (by decide +kernel) rfl rfl trivial ?_
      exact t_X1_walk_b109 l G a0 a1 W0 r q6 s1 x2 hf
    · have hf := ziff hf hc
      refine zr_run [] [3] (WW' := [w_Fk G a0 s0, w_Ld G a1 s1]) (lv' := [some (.ref (a0 0)), some (.ref (a1 0)), some (.int x2), none, some (.int z0)]) (pc' := 77) (st' := []) (by decide +kernel) rfl rfl trivial ?_
      exact t_X1_walk_b77 l G a0 a1 W0 r s0 s1 x2 z0 hf
  · have hf := ziff hf hc
    refine zr_run [] [3] (WW' := [w_Fk G a0 s0, w_Ld G a1 s1]) (lv' := [some (.ref (a0 0)), some (.ref (a1 0)), some (.int x2), none, some (.int z0)]) (pc' := 77) (st' := []) (by decide +kernel) rfl rfl trivial ?_
    exact t_X1_walk_b77 l G a0 a1 W0 r s0 s1 x2 z0 hf
set_option maxRecDepth 100000 in
set_option maxHeartbeats 4000000 in
theorem t_X1_walk_b47 (l : Launch) (G : zj_G) (a0 : Nat → Nat) (a1 : Nat → Nat) (W0 : List va_W) (r : FkT) (s0 : FkT) (s1 : LdT)   (x2 : Int32) (x3 : Int32) (hf : f_X1_walk_b47 s0 s1 x2 x3 = some r) : zj_J l G M_X1_walk W0 (zj_ret G M_X1_walk W0 (none) (fun _ => [w_Fk G a0 r, w_Ld G a1 s1])) 0 0 [w_Fk G a0 s0, w_Ld G a1 s1] [some (.ref (a0 0)), some (.ref (a1 0)), some (.int x2), some (.int x3), none] 47 [] := by
  unfold f_X1_walk_b47 at hf
  refine zr_run [(.iconst 0, 0, 0, 0, .int (0 : Int32))] [] (WW' := [w_Fk G a0 s0, w_Ld G a1 s1]) (lv' := [some (.ref (a0 0)), some (.ref (a1 0)), some (.int x2), some (.int x3), none]) (pc' := 48) (st' := [.int (0 : Int32)]) (by decide +kernel) rfl rfl ⟨trivial, trivial⟩ ?_
  exact t_X1_walk_b48 l G a0 a1 W0 r s0 s1 x2 x3 (0 : Int32) hf
set_option maxRecDepth 100000 in
set_option maxHeartbeats 4000000 in
theorem c_X1_walk (l : Launch) (G : zj_G) (a0 : Nat → Nat) (a1 : Nat → Nat) (s0 : FkT) (s1 : LdT) (x2 : Int32) (r : FkT) (hf : f_X1_walk s0 s1 x2 = some r) : zj_C l G M_X1_walk yX1_walk [w_Fk G a0 s0, w_Ld G a1 s1] [.ref (a0 0), .ref (a1 0), .int x2] (none) (fun _ => [w_Fk G a0 r, w_Ld G a1 s1]) := by
  have key : ∀ W0 : List va_W, zj_J l G M_X1_walk W0 (zj_ret G M_X1_walk W0 (none) (fun _ => [w_Fk G a0 r, w_Ld G a1 s1])) 0 0 [w_Fk G a0 s0, w_Ld G a1 s1] [some (.ref (a0 0)), some (.ref (a1 0)), some (.int x2), none, none] 0 [] := by
    intro W0
    unfold f_X1_walk at hf
    obtain ⟨q1, e1, hf⟩ := zbi_of hf
    refine zr_run [(.aload_n 0, 0, 0, 0, .null), (.iload_n 2, 0, 0, 0, .null), (.bipush 7, 0, 0, 0, .int (7 : Int32))] [] (WW' := [w_Fk G a0 s0, w_Ld G a1 s1]) (lv' := [some (.ref (a0 0)), some (.ref (a1 0)), some (.int x2), none, none]) (pc' := 4) (st' := [.int (7 : Int32), .int x2, .ref (a0 0)]) (by decide +kernel) rfl rfl ⟨trivial, trivial, trivial, trivial⟩ ?_
    refine zr_callV (c_X1_of l G a0 s0 x2 (7 : Int32) q1 e1) (WW' := fun _ => [w_Fk G a0 s0, w_Ld G a1 s1]) (st := []) (st' := [.int q1]) [0] rfl rfl (fun _ => Nat.le_of_ble_eq_true rfl) (fun _ => rfl) rfl rfl nm_X1_of zw_3_141 zw_3_142 zw_3_143 zw_1_8 zw_3_142n rfl rfl rfl (Nat.le_of_ble_eq_true rfl) ⟨Nat.le_of_ble_eq_true rfl, Nat.le_of_ble_eq_true rfl⟩ (by decide +kernel) (fun _ => ?_)
    obtain ⟨q2, e2, hf⟩ := zbi_of hf
    refine zr_run [(.aload_n 0, 0, 0, 0, .null), (.aload_n 1, 0, 0, 0, .null), (.iload_n 2, 0, 0, 0, .null)] [] (WW' := [w_Fk G a0 s0, w_Ld G a1 s1]) (lv' := [some (.ref (a0 0)), some (.ref (a1 0)), some (.int x2), none, none]) (pc' := 10) (st' := [.int x2, .ref (a1 0), .ref (a0 0), .int q1]) (by decide +kernel) rfl rfl ⟨trivial, trivial, trivial, trivial⟩ ?_
    refine zr_callV (c_X1_allMiles l G a0 a1 s0 s1 x2 q2 e2) (WW' := fun _ => [w_Fk G a0 s0, w_Ld G a1 s1]) (st := [.int q1]) (st' := [.int q2, .int q1]) [0, 1] rfl rfl (fun _ => Nat.le_of_ble_eq_true rfl) (fun _ => rfl) rfl rfl nm_X1_allMiles zw_4_27 zw_4_28 zw_4_29 zw_1_8 zw_4_30 rfl rfl rfl (Nat.le_of_ble_eq_true rfl) ⟨Nat.le_of_ble_eq_true rfl, Nat.le_of_ble_eq_true rfl⟩ (by decide +kernel) (fun _ => ?_)
    obtain ⟨q3, e3, hf⟩ := zbi_of hf
    refine zr_run [(.aload_n 0, 0, 0, 0, .null), (.iload_n 2, 0, 0, 0, .null), (.iconst 5, 0, 0, 0, .int (5 : Int32))] [] (WW' := [w_Fk G a0 s0, w_Ld G a1 s1]) (lv' := [some (.ref (a0 0)), some (.ref (a1 0)), some (.int x2), none, none]) (pc' := 16) (st' := [.int (5 : Int32), .int x2, .ref (a0 0), .int q2, .int q1]) (by decide +kernel) rfl rfl ⟨trivial, trivial, trivial, trivial⟩ ?_
    refine zr_callV (c_X1_of l G a0 s0 x2 (5 : Int32) q3 e3) (WW' := fun _ => [w_Fk G a0 s0, w_Ld G a1 s1]) (st := [.int q2, .int q1]) (st' := [.int q3, .int q2, .int q1]) [0] rfl rfl (fun _ => Nat.le_of_ble_eq_true rfl) (fun _ => rfl) rfl rfl nm_X1_of zw_3_141 zw_3_142 zw_3_143 zw_1_8 zw_3_142n rfl rfl rfl (Nat.le_of_ble_eq_true rfl) ⟨Nat.le_of_ble_eq_true rfl, Nat.le_of_ble_eq_true rfl⟩ (by decide +kernel) (fun _ => ?_)
    refine zr_run [(.isub, 0, 0, 0, .null)] [] (WW' := [w_Fk G a0 s0, w_Ld G a1 s1]) (lv' := [some (.ref (a0 0)), some (.ref (a1 0)), some (.int x2), none, none]) (pc' := 20) (st' := [.int (q2 - q3), .int q1]) (by decide +kernel) rfl rfl ⟨trivial, trivial⟩ ?_
    refine zr_mmin zw_3_235 zw_3_236 zw_1_24 zw_3_237 (Nat.le_of_ble_eq_true rfl) (Nat.le_of_ble_eq_true rfl) ⟨Nat.le_of_ble_eq_true rfl, Nat.le_of_ble_eq_true rfl⟩ (by decide +kernel) ?_
    obtain ⟨q4, e4, hf⟩ := zbi_of hf
    refine zr_run [(.istore_n 3, 0, 0, 0, .null), (.aload_n 0, 0, 0, 0, .null), (.aload_n 1, 0, 0, 0, .null), (.iload_n 2, 0, 0, 0, .null), (.iload_n 3, 0, 0, 0, .null)] [] (WW' := [w_Fk G a0 s0, w_Ld G a1 s1]) (lv' := [some (.ref (a0 0)), some (.ref (a1 0)), some (.int x2), some (.int (zr_mminF q1 (q2 - q3))), none]) (pc' := 28) (st' := [.int (zr_mminF q1 (q2 - q3)), .int x2, .ref (a1 0), .ref (a0 0)]) (by decide +kernel) rfl rfl ⟨trivial, trivial, trivial, trivial, trivial, trivial⟩ ?_
    refine zr_callV (c_X1_meetsFord l G a0 a1 s0 s1 x2 (zr_mminF q1 (q2 - q3)) q4 e4) (WW' := fun _ => [w_Fk G a0 s0, w_Ld G a1 s1]) (st := []) (st' := [.int q4]) [0, 1] rfl rfl (fun _ => Nat.le_of_ble_eq_true rfl) (fun _ => rfl) rfl rfl nm_X1_meetsFord zw_4_32 zw_4_34 zw_0_17 zw_1_8 zw_4_35 rfl rfl rfl (Nat.le_of_ble_eq_true rfl) ⟨Nat.le_of_ble_eq_true rfl, Nat.le_of_ble_eq_true rfl⟩ (by decide +kernel) (fun _ => ?_)
    refine zr_if_eq (off := 16) (tgt := 47) (by decide +kernel) (by decide) (fun hc => ?_) (fun hc => ?_)
    · have hf := zift hf hc
      exact t_X1_walk_b47 l G a0 a1 W0 r s0 s1 x2 (zr_mminF q1 (q2 - q3)) hf
    · have hf := ziff hf hc
      obtain ⟨q21, e21, hf⟩ := zbi_of hf
      refine zr_run [(.aload_n 0, 0, 0, 0, .null), (.bipush 6, 0, 0, 0, .int (6 : Int32))] [] (WW' := [w_Fk G a0 s0, w_Ld G a1 s1]) (lv' := [some (.ref (a0 0)), some (.ref (a1 0)), some (.int x2), some (.int (zr_mminF q1 (q2 - q3))), none]) (pc' := 37) (st' := [.int (6 : Int32), .ref (a0 0)]) (by decide +kernel) rfl rfl ⟨trivial, trivial, trivial⟩ ?_
      refine zr_callV (c_X1_draw l G a0 s0 (6 : Int32) q21 e21) (WW' := fun _ => [w_Fk G a0 q21.2, w_Ld G a1 s1]) (st := []) (st' := [.int q21.1]) [0] rfl rfl (fun _ => Nat.le_of_ble_eq_true rfl) (fun _ => rfl) rfl rfl nm_X1_draw zw_4_18 zw_4_20 zw_0_15 zw_1_8 zw_4_21 rfl rfl rfl (Nat.le_of_ble_eq_true rfl) ⟨Nat.le_of_ble_eq_true rfl, Nat.le_of_ble_eq_true rfl⟩ (by decide +kernel) (fun _ => ?_)
      refine zr_if_ne (off := 7) (tgt := 47) (by decide +kernel) (by decide) (fun hc => ?_) (fun hc => ?_)
      · have hf := zift hf hc
        refine zr_run [(.iconst 1, 0, 0, 0, .int (1 : Int32))] [] (WW' := [w_Fk G a0 q21.2, w_Ld G a1 s1]) (lv' := [some (.ref (a0 0)), some (.ref (a1 0)), some (.int x2), some (.int (zr_mminF q1 (q2 - q3))), none]) (pc' := 44) (st' := [.int (1 : Int32)]) (by decide +kernel) rfl rfl ⟨trivial, trivial⟩ ?_
        refine zr_goto (off := 4) (tgt := 48) (by decide +kernel) (by decide) ?_
        exact t_X1_walk_b48 l G a0 a1 W0 r q21.2 s1 x2 (zr_mminF q1 (q2 - q3)) (1 : Int32) hf
      · have hf := ziff hf hc
        exact t_X1_walk_b47 l G a0 a1 W0 r q21.2 s1 x2 (zr_mminF q1 (q2 - q3)) hf
  exact zj_entry [some (.ref (a0 0)), some (.ref (a1 0)), some (.int x2), none, none] (by decide +kernel) rfl (by decide) (Nat.le_of_ble_eq_true rfl) rfl rfl (key _)
def M_X1_goDay : zj_M := (RX1, cX1_goDay, 3, none, { frames := 3, cells := 0, slots := 0, locals := 76 }, false)
theorem nm_X1_goDay : zj_nm yX1_goDay 1 := ⟨by decide +kernel, by decide +kernel, by decide +kernel⟩
def f_X1_goDay_b45  (s0 : FkT) (s1 : LdT) (k2 : FkT → Int32 → Option (FkT)) (x2 : Int32) : Option (FkT) := k2 s0 (x2 + (1 : Int32))
def f_X1_goDay_H2  (s0 : FkT) (s1 : LdT) (k2 : FkT → Int32 → Option (FkT)) (x2 : Int32) : Option (FkT) := (if x2 < (Ld_men s1) then ((f_X1_of s0 x2 (0 : Int32)).bind fun q1 => (if q1 = (2 : Int32) then ((f_X1_waitForShip s0 s1 x2).bind fun q2 => f_X1_goDay_b45 q2 s1 k2 x2) else ((f_X1_of s0 x2 (0 : Int32)).bind fun q3 => (if q3 = (1 : Int32) then ((f_X1_walk s0 s1 x2).bind fun q4 => f_X1_goDay_b45 q4 s1 k2 x2) else f_X1_goDay_b45 s0 s1 k2 x2)))) else (zlet (Fk_s_day s0 ((Fk_day s0) + (1 : Int32))) fun y5 => some y5))
def f_X1_goDay_L2  (s1 : LdT)  : Nat → FkT → Int32 → Option (FkT)
  | 0 => fun _ _ => none
  | n + 1 => fun s0 x2 => f_X1_goDay_H2 s0 s1 (f_X1_goDay_L2 s1 n) x2
def f_X1_goDay  (s0 : FkT) (s1 : LdT)  : Option (FkT) := f_X1_goDay_L2 s1 zFU s0 (0 : Int32)
set_option maxRecDepth 100000 in
set_option maxHeartbeats 4000000 in
theorem t_X1_goDay_b45 (l : Launch) (G : zj_G) (a0 : Nat → Nat) (a1 : Nat → Nat) (W0 : List va_W) (r : FkT) (s0 : FkT) (s1 : LdT) (k2 : FkT → Int32 → Option (FkT)) (hk2 : ∀ (s0 : FkT) (x2 : Int32), k2 s0 x2 = some r → zj_J l G M_X1_goDay W0 (zj_ret G M_X1_goDay W0 (none) (fun _ => [w_Fk G a0 r, w_Ld G a1 s1])) 0 0 [w_Fk G a0 s0, w_Ld G a1 s1] [some (.ref (a0 0)), some (.ref (a1 0)), some (.int x2)] 2 []) (x2 : Int32) (hf : f_X1_goDay_b45 s0 s1 k2 x2 = some r) : zj_J l G M_X1_goDay W0 (zj_ret G M_X1_goDay W0 (none) (fun _ => [w_Fk G a0 r, w_Ld G a1 s1])) 0 0 [w_Fk G a0 s0, w_Ld G a1 s1] [some (.ref (a0 0)), some (.ref (a1 0)), some (.int x2)] 45 [] := by
  unfold f_X1_goDay_b45 at hf
  refine zr_run [(.iinc 2 1, 0, 0, 0, .int (1 : Int32))] [] (WW' := [w_Fk G a0 s0, w_Ld G a1 s1]) (lv' := [some (.ref (a0 0)), some (.ref (a1 0)), some (.int (x2 + (1 : Int32)))]) (pc' := 48) (st' := []) (by decide +kernel) rfl rfl ⟨trivial, trivial⟩ ?_
  refine zr_goto (off := -46) (tgt := 2) (by decide +kernel) (by decide) ?_
  exact hk2 s0 (x2 + (1 : Int32)) hf
set_option maxRecDepth 100000 in
set_option maxHeartbeats 4000000 in
theorem t_X1_goDay_H2 (l : Launch) (G : zj_G) (a0 : Nat → Nat) (a1 : Nat → Nat) (W0 : List va_W) (r : FkT) (s0 : FkT) (s1 : LdT) (k2 : FkT → Int32 → Option (FkT)) (hk2 : ∀ (s0 : FkT) (x2 : Int32), k2 s0 x2 = some r → zj_J l G M_X1_goDay W0 (zj_ret G M_X1_goDay W0 (none) (fun _ => [w_Fk G a0 r, w_Ld G a1 s1])) 0 0 [w_Fk G a0 s0, w_Ld G a1 s1] [some (.ref (a0 0)), some (.ref (a1 0)), some (.int x2)] 2 []) (x2 : Int32) (hf : f_X1_goDay_H2 s0 s1 k2 x2 = some r) : zj_J l G M_X1_goDay W0 (zj_ret G M_X1_goDay W0 (none) (fun _ => [w_Fk G a0 r, w_Ld G a1 s1])) 0 0 [w_Fk G a0 s0, w_Ld G a1 s1] [some (.ref (a0 0)), some (.ref (a1 0)), some (.int x2)] 2 [] := by
  unfold f_X1_goDay_H2 at hf
  refine zr_run [(.iload_n 2, 0, 0, 0, .null), (.aload_n 1, 0, 0, 0, .null), (.getfield 34, 1, 0, 2, .null)] [] (WW' := [w_Fk G a0 s0, w_Ld G a1 s1]) (lv' := [some (.ref (a0 0)), some (.ref (a1 0)), some (.int x2)]) (pc' := 7) (st' := [.int (Ld_men s1), .int x2]) (by decide +kernel) rfl rfl ⟨trivial, trivial, ⟨rfl, rfl, zw_1_160⟩, trivial⟩ ?_
  refine zr_icmp_ge (off := 44) (tgt := 51) (by decide +kernel) (by decide) (fun hc => ?_) (fun hc => ?_)
  · have hf := zift hf hc
    obtain ⟨q1, e1, hf⟩ := zbi_of hf
    refine zr_run [(.aload_n 0, 0, 0, 0, .null), (.iload_n 2, 0, 0, 0, .null), (.iconst 0, 0, 0, 0, .int (0 : Int32))] [] (WW' := [w_Fk G a0 s0, w_Ld G a1 s1]) (lv' := [some (.ref (a0 0)), some (.ref (a1 0)), some (.int x2)]) (pc' := 13) (st' := [.int (0 : Int32), .int x2, .ref (a0 0)]) (by decide +kernel) rfl rfl ⟨trivial, trivial, trivial, trivial⟩ ?_
    refine zr_callV (c_X1_of l G a0 s0 x2 (0 : Int32) q1 e1) (WW' := fun _ => [w_Fk G a0 s0, w_Ld G a1 s1]) (st := []) (st' := [.int q1]) [0] rfl rfl (fun _ => Nat.le_of_ble_eq_true rfl) (fun _ => rfl) rfl rfl nm_X1_of zw_3_141 zw_3_142 zw_3_143 zw_1_8 zw_3_142n rfl rfl rfl (Nat.le_of_ble_eq_true rfl) ⟨Nat.le_of_ble_eq_true rfl, Nat.le_of_ble_eq_true rfl⟩ (by decide +kernel) (fun _ => ?_)
    refine zr_run [(.iconst 2, 0, 0, 0, .int (2 : Int32))] [] (WW' := [w_Fk G a0 s0, w_Ld G a1 s1]) (lv' := [some (.ref (a0 0)), some (.ref (a1 0)), some (.int x2)]) (pc' := 17) (st' := [.int (2 : Int32), .int q1]) (by decide +kernel) rfl rfl ⟨trivial, trivial⟩ ?_
    refine zr_icmp_ne (off := 12) (tgt := 29) (by decide +kernel) (by decide) (fun hc => ?_) (fun hc => ?_)
    · have hf := zift hf hc
      obtain ⟨q2, e2, hf⟩ := zbi_of hf
      refine zr_run [(.aload_n 0, 0, 0, 0, .null), (.aload_n 1, 0, 0, 0, .null), (.iload_n 2, 0, 0, 0, .null)] [] (WW' := [w_Fk G a0 s0, w_Ld G a1 s1]) (lv' := [some (.ref (a0 0)), some (.ref (a1 0)), some (.int x2)]) (pc' := 23) (st' := [.int x2, .ref (a1 0), .ref (a0 0)]) (by decide +kernel) rfl rfl ⟨trivial, trivial, trivial, trivial⟩ ?_
      refine zr_callV (c_X1_waitForShip l G a0 a1 s0 s1 x2 q2 e2) (WW' := fun _ => [w_Fk G a0 q2, w_Ld G a1 s1]) (st := []) (st' := []) [0, 1] rfl rfl (fun _ => Nat.le_of_ble_eq_true rfl) (fun _ => rfl) rfl rfl nm_X1_waitForShip zw_4_14 zw_4_16 zw_0_14 zw_1_8 zw_4_17 rfl rfl rfl (Nat.le_of_ble_eq_true rfl) ⟨Nat.le_of_ble_eq_true rfl, Nat.le_of_ble_eq_true rfl⟩ (by decide +kernel) (fun _ => ?_)
      refine zr_goto (off := 19) (tgt := 45) (by decide +kernel) (by decide) ?_
      exact t_X1_goDay_b45 l G a0 a1 W0 r q2 s1 k2 hk2 x2 hf
    · have hf := ziff hf hc
      obtain ⟨q3, e3, hf⟩ := zbi_of hf
      refine zr_run [(.aload_n 0, 0, 0, 0, .null), (.iload_n 2, 0, 0, 0, .null), (.iconst 0, 0, 0, 0, .int (0 : Int32))] [] (WW' := [w_Fk G a0 s0, w_Ld G a1 s1]) (lv' := [some (.ref (a0 0)), some (.ref (a1 0)), some (.int x2)]) (pc' := 32) (st' := [.int (0 : Int32), .int x2, .ref (a0 0)]) (by decide +kernel) rfl rfl ⟨trivial, trivial, trivial, trivial⟩ ?_
      refine zr_callV (c_X1_of l G a0 s0 x2 (0 : Int32) q3 e3) (WW' := fun _ => [w_Fk G a0 s0, w_Ld G a1 s1]) (st := []) (st' := [.int q3]) [0] rfl rfl (fun _ => Nat.le_of_ble_eq_true rfl) (fun _ => rfl) rfl rfl nm_X1_of zw_3_141 zw_3_142 zw_3_143 zw_1_8 zw_3_142n rfl rfl rfl (Nat.le_of_ble_eq_true rfl) ⟨Nat.le_of_ble_eq_true rfl, Nat.le_of_ble_eq_true rfl⟩ (by decide +kernel) (fun _ => ?_)
      refine zr_run [(.iconst 1, 0, 0, 0, .int (1 : Int32))] [] (WW' := [w_Fk G a0 s0, w_Ld G a1 s1]) (lv' := [some (.ref (a0 0)), some (.ref (a1 0)), some (.int x2)]) (pc' := 36) (st' := [.int (1 : Int32), .int q3]) (by decide +kernel) rfl rfl ⟨trivial, trivial⟩ ?_
      refine zr_icmp_ne (off := 9) (tgt := 45) (by decide +kernel) (by decide) (fun hc => ?_) (fun hc => ?_)
      · have hf := zift hf hc
        obtain ⟨q4, e4, hf⟩ := zbi_of hf
        refine zr_run [(.aload_n 0, 0, 0, 0, .null), (.aload_n 1, 0, 0, 0, .null), (.iload_n 2, 0, 0, 0, .null)] [] (WW' := [w_Fk G a0 s0, w_Ld G a1 s1]) (lv' := [some (.ref (a0 0)), some (.ref (a1 0)), some (.int x2)]) (pc' := 42) (st' := [.int x2, .ref (a1 0), .ref (a0 0)]) (by decide +kernel) rfl rfl ⟨trivial, trivial, trivial, trivial⟩ ?_
        refine zr_callV (c_X1_walk l G a0 a1 s0 s1 x2 q4 e4) (WW' := fun _ => [w_Fk G a0 q4, w_Ld G a1 s1]) (st := []) (st' := []) [0, 1] rfl rfl (fun _ => Nat.le_of_ble_eq_true rfl) (fun _ => rfl) rfl rfl nm_X1_walk zw_4_23 zw_4_25 zw_0_16 zw_1_8 zw_4_26 rfl rfl rfl (Nat.le_of_ble_eq_true rfl) ⟨Nat.le_of_ble_eq_true rfl, Nat.le_of_ble_eq_true rfl⟩ (by decide +kernel) (fun _ => ?_)
        exact t_X1_goDay_b45 l G a0 a1 W0 r q4 s1 k2 hk2 x2 hf
      · have hf := ziff hf hc
        exact t_X1_goDay_b45 l G a0 a1 W0 r s0 s1 k2 hk2 x2 hf
  · have hf := ziff hf hc
    obtain ⟨y5, e5, hf⟩ := zlet_of hf
    refine zr_run [(.aload_n 0, 0, 0, 0, .null), (.dup, 0, 0, 0, .null), (.getfield 15, 0, 0, 1, .null), (.iconst 1, 0, 0, 0, .int (1 : Int32)), (.iadd, 0, 0, 0, .null), (.putfield 15, 0, 0, 1, .null)] [] (WW' := [w_Fk G a0 (Fk_s_day s0 ((Fk_day s0) + (1 : Int32))), w_Ld G a1 s1]) (lv' := [some (.ref (a0 0)), some (.ref (a1 0)), some (.int x2)]) (pc' := 61) (st' := []) (by decide +kernel) rfl rfl ⟨trivial, trivial, ⟨rfl, rfl, zw_1_215⟩, trivial, trivial, ⟨rfl, rfl, rfl, trivial, rfl, rfl, zw_1_215⟩, trivial⟩ ?_
    refine zr_eq (WW2 := [w_Fk G a0 y5, w_Ld G a1 s1]) (lv2 := [some (.ref (a0 0)), some (.ref (a1 0)), some (.int x2)]) (st2 := []) (by rw [e5]) rfl rfl ?_
    obtain rfl := Option.some.inj hf
    exact zr_vret (b0 := fun _ => 0) (by decide +kernel) rfl rfl rfl rfl rfl
theorem t_X1_goDay_L2 (l : Launch) (G : zj_G) (a0 : Nat → Nat) (a1 : Nat → Nat) (W0 : List va_W) (r : FkT) (s1 : LdT)   : ∀ (n : Nat) (s0 : FkT) (x2 : Int32), f_X1_goDay_L2 s1 n s0 x2 = some r → zj_J l G M_X1_goDay W0 (zj_ret G M_X1_goDay W0 (none) (fun _ => [w_Fk G a0 r, w_Ld G a1 s1])) 0 0 [w_Fk G a0 s0, w_Ld G a1 s1] [some (.ref (a0 0)), some (.ref (a1 0)), some (.int x2)] 2 [] := by
  intro n
  induction n with
  | zero => intro s0 x2 hf; exact nomatch (show none = some r from hf)
  | succ n ih => intro s0 x2 hf; exact t_X1_goDay_H2 l G a0 a1 W0 r s0 s1  (f_X1_goDay_L2 s1 n)  ih x2  hf
set_option maxRecDepth 100000 in
set_option maxHeartbeats 4000000 in
theorem c_X1_goDay (l : Launch) (G : zj_G) (a0 : Nat → Nat) (a1 : Nat → Nat) (s0 : FkT) (s1 : LdT)  (r : FkT) (hf : f_X1_goDay s0 s1 = some r) : zj_C l G M_X1_goDay yX1_goDay [w_Fk G a0 s0, w_Ld G a1 s1] [.ref (a0 0), .ref (a1 0)] (none) (fun _ => [w_Fk G a0 r, w_Ld G a1 s1]) := by
  have key : ∀ W0 : List va_W, zj_J l G M_X1_goDay W0 (zj_ret G M_X1_goDay W0 (none) (fun _ => [w_Fk G a0 r, w_Ld G a1 s1])) 0 0 [w_Fk G a0 s0, w_Ld G a1 s1] [some (.ref (a0 0)), some (.ref (a1 0)), none] 0 [] := by
    intro W0
    unfold f_X1_goDay at hf
    refine zr_run [(.iconst 0, 0, 0, 0, .int (0 : Int32)), (.istore_n 2, 0, 0, 0, .null)] [] (WW' := [w_Fk G a0 s0, w_Ld G a1 s1]) (lv' := [some (.ref (a0 0)), some (.ref (a1 0)), some (.int (0 : Int32))]) (pc' := 2) (st' := []) (by decide +kernel) rfl rfl ⟨trivial, trivial, trivial⟩ ?_
    exact t_X1_goDay_L2 l G a0 a1 W0 r s1 zFU s0 (0 : Int32) hf
  exact zj_entry [some (.ref (a0 0)), some (.ref (a1 0)), none] (by decide +kernel) rfl (by decide) (Nat.le_of_ble_eq_true rfl) rfl rfl (key _)
def M_X1_goDays : zj_M := (RX1, cX1_goDays, 6, (some .int), { frames := 4, cells := 0, slots := 0, locals := 98 }, false)
theorem nm_X1_goDays : zj_nm yX1_goDays 3 := ⟨by decide +kernel, by decide +kernel, by decide +kernel⟩
def f_X1_goDays_H18  (s0 : FkT) (s1 : LdT) (k18 : FkT → Int32 → Int32 → Option (Int32 × FkT)) (x4 : Int32) (x5 : Int32) : Option (Int32 × FkT) := (if x5 < x4 then ((f_X1_goDay s0 s1).bind fun q3 => k18 q3 x4 (x5 + (1 : Int32))) else some (x4, s0))
def f_X1_goDays_L18  (s1 : LdT)  : Nat → FkT → Int32 → Int32 → Option (Int32 × FkT)
  | 0 => fun _ _ _ => none
  | n + 1 => fun s0 x4 x5 => f_X1_goDays_H18 s0 s1 (f_X1_goDays_L18 s1 n) x4 x5
def f_X1_goDays  (s0 : FkT) (s1 : LdT) (x2 : Int32) (x3 : Int32) : Option (Int32 × FkT) := (zlet (Fk_s_seed s0 x3) fun y1 => ((f_X1_daysToCome y1).bind fun q2 => f_X1_goDays_L18 s1 zFU y1 (zr_mminF x2 q2) (0 : Int32)))
set_option maxRecDepth 100000 in
set_option maxHeartbeats 4000000 in
theorem t_X1_goDays_H18 (l : Launch) (G : zj_G) (a0 : Nat → Nat) (a1 : Nat → Nat) (W0 : List va_W) (r : Int32 × FkT) (s0 : FkT) (s1 : LdT) (k18 : FkT → Int32 → Int32 → Option (Int32 × FkT)) (hk18 : ∀ (s0 : FkT) (x4 : Int32) (x5 : Int32), k18 s0 x4 x5 = some r → zj_J l G M_X1_goDays W0 (zj_ret G M_X1_goDays W0 (some (.int r.1)) (fun _ => [w_Fk G a0 r.2, w_Ld G a1 s1])) 0 0 [w_Fk G a0 s0, w_Ld G a1 s1] [some (.ref (a0 0)), some (.ref (a1 0)), none, none, some (.int x4), some (.int x5)] 18 []) (x4 : Int32) (x5 : Int32) (hf : f_X1_goDays_H18 s0 s1 k18 x4 x5 = some r) : zj_J l G M_X1_goDays W0 (zj_ret G M_X1_goDays W0 (some (.int r.1)) (fun _ => [w_Fk G a0 r.2, w_Ld G a1 s1])) 0 0 [w_Fk G a0 s0, w_Ld G a1 s1] [some (.ref (a0 0)), some (.ref (a1 0)), none, none, some (.int x4), some (.int x5)] 18 [] := by
  unfold f_X1_goDays_H18 at hf
  refine zr_run [(.iload 5, 0, 0, 0, .null), (.iload 4, 0, 0, 0, .null)] [] (WW' := [w_Fk G a0 s0, w_Ld G a1 s1]) (lv' := [some (.ref (a0 0)), some (.ref (a1 0)), none, none, some (.int x4), some (.int x5)]) (pc' := 22) (st' := [.int x4, .int x5]) (by decide +kernel) rfl rfl ⟨trivial, trivial, trivial⟩ ?_
  refine zr_icmp_ge (off := 14) (tgt := 36) (by decide +kernel) (by decide) (fun hc => ?_) (fun hc => ?_)
  · have hf := zift hf hc
    obtain ⟨q3, e3, hf⟩ := zbi_of hf
    refine zr_run [(.aload_n 0, 0, 0, 0, .null), (.aload_n 1, 0, 0, 0, .null)] [] (WW' := [w_Fk G a0 s0, w_Ld G a1 s1]) (lv' := [some (.ref (a0 0)), some (.ref (a1 0)), none, none, some (.int x4), some (.int x5)]) (pc' := 27) (st' := [.ref (a1 0), .ref (a0 0)]) (by decide +kernel) rfl rfl ⟨trivial, trivial, trivial⟩ ?_
    refine zr_callV (c_X1_goDay l G a0 a1 s0 s1 q3 e3) (WW' := fun _ => [w_Fk G a0 q3, w_Ld G a1 s1]) (st := []) (st' := []) [0, 1] rfl rfl (fun _ => Nat.le_of_ble_eq_true rfl) (fun _ => rfl) rfl rfl nm_X1_goDay zw_4_10 zw_4_12 zw_0_13 zw_1_8 zw_4_13 rfl rfl rfl (Nat.le_of_ble_eq_true rfl) ⟨Nat.le_of_ble_eq_true rfl, Nat.le_of_ble_eq_true rfl⟩ (by decide +kernel) (fun _ => ?_)
    refine zr_run [(.iinc 5 1, 0, 0, 0, .int (1 : Int32))] [] (WW' := [w_Fk G a0 q3, w_Ld G a1 s1]) (lv' := [some (.ref (a0 0)), some (.ref (a1 0)), none, none, some (.int x4), some (.int (x5 + (1 : Int32)))]) (pc' := 33) (st' := []) (by decide +kernel) rfl rfl ⟨trivial, trivial⟩ ?_
    refine zr_goto (off := -15) (tgt := 18) (by decide +kernel) (by decide) ?_
    exact hk18 q3 x4 (x5 + (1 : Int32)) hf
  · have hf := ziff hf hc
    refine zr_run [(.iload 4, 0, 0, 0, .null)] [] (WW' := [w_Fk G a0 s0, w_Ld G a1 s1]) (lv' := [some (.ref (a0 0)), some (.ref (a1 0)), none, none, some (.int x4), some (.int x5)]) (pc' := 38) (st' := [.int x4]) (by decide +kernel) rfl rfl ⟨trivial, trivial⟩ ?_
    obtain rfl := Option.some.inj hf
    exact zr_iret (b0 := fun _ => 0) (by decide +kernel) rfl rfl rfl rfl rfl
theorem t_X1_goDays_L18 (l : Launch) (G : zj_G) (a0 : Nat → Nat) (a1 : Nat → Nat) (W0 : List va_W) (r : Int32 × FkT) (s1 : LdT)   : ∀ (n : Nat) (s0 : FkT) (x4 : Int32) (x5 : Int32), f_X1_goDays_L18 s1 n s0 x4 x5 = some r → zj_J l G M_X1_goDays W0 (zj_ret G M_X1_goDays W0 (some (.int r.1)) (fun _ => [w_Fk G a0 r.2, w_Ld G a1 s1])) 0 0 [w_Fk G a0 s0, w_Ld G a1 s1] [some (.ref (a0 0)), some (.ref (a1 0)), none, none, some (.int x4), some (.int x5)] 18 [] := by
  intro n
  induction n with
  | zero => intro s0 x4 x5 hf; exact nomatch (show none = some r from hf)
  | succ n ih => intro s0 x4 x5 hf; exact t_X1_goDays_H18 l G a0 a1 W0 r s0 s1  (f_X1_goDays_L18 s1 n)  ih x4 x5  hf
set_option maxRecDepth 100000 in
set_option maxHeartbeats 4000000 in
theorem c_X1_goDays (l : Launch) (G : zj_G) (a0 : Nat → Nat) (a1 : Nat → Nat) (s0 : FkT) (s1 : LdT) (x2 : Int32) (x3 : Int32) (r : Int32 × FkT) (hf : f_X1_goDays s0 s1 x2 x3 = some r) : zj_C l G M_X1_goDays yX1_goDays [w_Fk G a0 s0, w_Ld G a1 s1] [.ref (a0 0), .ref (a1 0), .int x2, .int x3] (some (.int r.1)) (fun _ => [w_Fk G a0 r.2, w_Ld G a1 s1]) := by
  have key : ∀ W0 : List va_W, zj_J l G M_X1_goDays W0 (zj_ret G M_X1_goDays W0 (some (.int r.1)) (fun _ => [w_Fk G a0 r.2, w_Ld G a1 s1])) 0 0 [w_Fk G a0 s0, w_Ld G a1 s1] [some (.ref (a0 0)), some (.ref (a1 0)), some (.int x2), some (.int x3), none, none] 0 [] := by
    intro W0
    unfold f_X1_goDays at hf
    obtain ⟨y1, e1, hf⟩ := zlet_of hf
    refine zr_run [(.aload_n 0, 0, 0, 0, .null), (.iload_n 3, 0, 0, 0, .null), (.putfield 19, 0, 0, 2, .null)] [] (WW' := [w_Fk G a0 (Fk_s_seed s0 x3), w_Ld G a1 s1]) (lv' := [some (.ref (a0 0)), some (.ref (a1 0)), some (.int x2), some (.int x3), none, none]) (pc' := 5) (st' := []) (by decide +kernel) rfl rfl ⟨trivial, trivial, ⟨rfl, rfl, rfl, trivial, rfl, rfl, zw_1_216⟩, trivial⟩ ?_
    refine zr_eq (WW2 := [w_Fk G a0 y1, w_Ld G a1 s1]) (lv2 := [some (.ref (a0 0)), some (.ref (a1 0)), some (.int x2), some (.int x3), none, none]) (st2 := []) (by rw [e1]) rfl rfl ?_
    obtain ⟨q2, e2, hf⟩ := zbi_of hf
    refine zr_run [(.iload_n 2, 0, 0, 0, .null), (.aload_n 0, 0, 0, 0, .null)] [] (WW' := [w_Fk G a0 y1, w_Ld G a1 s1]) (lv' := [some (.ref (a0 0)), some (.ref (a1 0)), some (.int x2), some (.int x3), none, none]) (pc' := 7) (st' := [.ref (a0 0), .int x2]) (by decide +kernel) rfl rfl ⟨trivial, trivial, trivial⟩ ?_
    refine zr_callV (c_X1_daysToCome l G a0 y1 q2 e2) (WW' := fun _ => [w_Fk G a0 y1, w_Ld G a1 s1]) (st := [.int x2]) (st' := [.int q2, .int x2]) [0] rfl rfl (fun _ => Nat.le_of_ble_eq_true rfl) (fun _ => rfl) rfl rfl nm_X1_daysToCome zw_4_6 zw_4_7 zw_4_8 zw_1_8 zw_4_9 rfl rfl rfl (Nat.le_of_ble_eq_true rfl) ⟨Nat.le_of_ble_eq_true rfl, Nat.le_of_ble_eq_true rfl⟩ (by decide +kernel) (fun _ => ?_)
    refine zr_mmin zw_3_235 zw_3_236 zw_1_24 zw_3_237 (Nat.le_of_ble_eq_true rfl) (Nat.le_of_ble_eq_true rfl) ⟨Nat.le_of_ble_eq_true rfl, Nat.le_of_ble_eq_true rfl⟩ (by decide +kernel) ?_
    refine zr_run [(.istore 4, 0, 0, 0, .null), (.iconst 0, 0, 0, 0, .int (0 : Int32)), (.istore 5, 0, 0, 0, .null)] [2, 3] (WW' := [w_Fk G a0 y1, w_Ld G a1 s1]) (lv' := [some (.ref (a0 0)), some (.ref (a1 0)), none, none, some (.int (zr_mminF x2 q2)), some (.int (0 : Int32))]) (pc' := 18) (st' := []) (by decide +kernel) rfl rfl ⟨trivial, trivial, trivial, trivial⟩ ?_
    exact t_X1_goDays_L18 l G a0 a1 W0 r s1 zFU y1 (zr_mminF x2 q2) (0 : Int32) hf
  exact zj_entry [some (.ref (a0 0)), some (.ref (a1 0)), some (.int x2), some (.int x3), none, none] (by decide +kernel) rfl (by decide) (Nat.le_of_ble_eq_true rfl) rfl rfl (key _)
def M_X1_sailsIn : zj_M := (RX1, cX1_sailsIn, 7, (some .boolean), { frames := 4, cells := 0, slots := 0, locals := 98 }, false)
theorem nm_X1_sailsIn : zj_nm yX1_sailsIn 4 := ⟨by decide +kernel, by decide +kernel, by decide +kernel⟩
def f_X1_sailsIn_b46  (s0 : FkT) (s1 : LdT) (k19 : FkT → Int32 → Int32 → Int32 → Option (Int32 × FkT)) (x2 : Int32) (x5 : Int32) (x6 : Int32) : Option (Int32 × FkT) := ((f_X1_goDay s0 s1).bind fun q4 => k19 q4 x2 x5 (x6 + (1 : Int32)))
def f_X1_sailsIn_b57  (s0 : FkT) (s1 : LdT)  (x2 : Int32) : Option (Int32 × FkT) := ((f_X1_of s0 x2 (0 : Int32)).bind fun q6 => (if q6 = (3 : Int32) then some ((1 : Int32), s0) else some ((0 : Int32), s0)))
def f_X1_sailsIn_H19  (s0 : FkT) (s1 : LdT) (k19 : FkT → Int32 → Int32 → Int32 → Option (Int32 × FkT)) (x2 : Int32) (x5 : Int32) (x6 : Int32) : Option (Int32 × FkT) := (if x6 < x5 then ((f_X1_of s0 x2 (0 : Int32)).bind fun q3 => (if q3 = (1 : Int32) then f_X1_sailsIn_b46 s0 s1 k19 x2 x5 x6 else ((f_X1_of s0 x2 (0 : Int32)).bind fun q5 => (if q5 = (2 : Int32) then f_X1_sailsIn_b46 s0 s1 k19 x2 x5 x6 else f_X1_sailsIn_b57 s0 s1 x2)))) else f_X1_sailsIn_b57 s0 s1 x2)
def f_X1_sailsIn_L19  (s1 : LdT)  : Nat → FkT → Int32 → Int32 → Int32 → Option (Int32 × FkT)
  | 0 => fun _ _ _ _ => none
  | n + 1 => fun s0 x2 x5 x6 => f_X1_sailsIn_H19 s0 s1 (f_X1_sailsIn_L19 s1 n) x2 x5 x6
def f_X1_sailsIn  (s0 : FkT) (s1 : LdT) (x2 : Int32) (x3 : Int32) (x4 : Int32) : Option (Int32 × FkT) := (zlet (Fk_s_seed s0 x4) fun y1 => ((f_X1_daysToCome y1).bind fun q2 => f_X1_sailsIn_L19 s1 zFU y1 x2 (zr_mminF x3 q2) (0 : Int32)))
set_option maxRecDepth 100000 in
set_option maxHeartbeats 4000000 in
theorem t_X1_sailsIn_b46 (l : Launch) (G : zj_G) (a0 : Nat → Nat) (a1 : Nat → Nat) (W0 : List va_W) (r : Int32 × FkT) (s0 : FkT) (s1 : LdT) (k19 : FkT → Int32 → Int32 → Int32 → Option (Int32 × FkT)) (hk19 : ∀ (s0 : FkT) (x2 : Int32) (x5 : Int32) (x6 : Int32), k19 s0 x2 x5 x6 = some r → zj_J l G M_X1_sailsIn W0 (zj_ret G M_X1_sailsIn W0 (some (.int r.1)) (fun _ => [w_Fk G a0 r.2, w_Ld G a1 s1])) 0 0 [w_Fk G a0 s0, w_Ld G a1 s1] [some (.ref (a0 0)), some (.ref (a1 0)), some (.int x2), none, none, some (.int x5), some (.int x6)] 19 []) (x2 : Int32) (x5 : Int32) (x6 : Int32) (hf : f_X1_sailsIn_b46 s0 s1 k19 x2 x5 x6 = some r) : zj_J l G M_X1_sailsIn W0 (zj_ret G M_X1_sailsIn W0 (some (.int r.1)) (fun _ => [w_Fk G a0 r.2, w_Ld G a1 s1])) 0 0 [w_Fk G a0 s0, w_Ld G a1 s1] [some (.ref (a0 0)), some (.ref (a1 0)), some (.int x2), none, none, some (.int x5), some (.int x6)] 46 [] := by
  unfold f_X1_sailsIn_b46 at hf
  obtain ⟨q4, e4, hf⟩ := zbi_of hf
  refine zr_run [(.aload_n 0, 0, 0, 0, .null), (.aload_n 1, 0, 0, 0, .null)] [] (WW' := [w_Fk G a0 s0, w_Ld G a1 s1]) (lv' := [some (.ref (a0 0)), some (.ref (a1 0)), some (.int x2), none, none, some (.int x5), some (.int x6)]) (pc' := 48) (st' := [.ref (a1 0), .ref (a0 0)]) (by decide +kernel) rfl rfl ⟨trivial, trivial, trivial⟩ ?_
  refine zr_callV (c_X1_goDay l G a0 a1 s0 s1 q4 e4) (WW' := fun _ => [w_Fk G a0 q4, w_Ld G a1 s1]) (st := []) (st' := []) [0, 1] rfl rfl (fun _ => Nat.le_of_ble_eq_true rfl) (fun _ => rfl) rfl rfl nm_X1_goDay zw_4_10 zw_4_12 zw_0_13 zw_1_8 zw_4_13 rfl rfl rfl (Nat.le_of_ble_eq_true rfl) ⟨Nat.le_of_ble_eq_true rfl, Nat.le_of_ble_eq_true rfl⟩ (by decide +kernel) (fun _ => ?_)
  refine zr_run [(.iinc 6 1, 0, 0, 0, .int (1 : Int32))] [] (WW' := [w_Fk G a0 q4, w_Ld G a1 s1]) (lv' := [some (.ref (a0 0)), some (.ref (a1 0)), some (.int x2), none, none, some (.int x5), some (.int (x6 + (1 : Int32)))]) (pc' := 54) (st' := []) (by decide +kernel) rfl rfl ⟨trivial, trivial⟩ ?_
  refine zr_goto (off := -35) (tgt := 19) (by decide +kernel) (by decide) ?_
  exact hk19 q4 x2 x5 (x6 + (1 : Int32)) hf
set_option maxRecDepth 100000 in
set_option maxHeartbeats 4000000 in
theorem t_X1_sailsIn_b57 (l : Launch) (G : zj_G) (a0 : Nat → Nat) (a1 : Nat → Nat) (W0 : List va_W) (r : Int32 × FkT) (s0 : FkT) (s1 : LdT)   (x2 : Int32) (hf : f_X1_sailsIn_b57 s0 s1 x2 = some r) : zj_J l G M_X1_sailsIn W0 (zj_ret G M_X1_sailsIn W0 (some (.int r.1)) (fun _ => [w_Fk G a0 r.2, w_Ld G a1 s1])) 0 0 [w_Fk G a0 s0, w_Ld G a1 s1] [some (.ref (a0 0)), none, some (.int x2), none, none, none, none] 57 [] := by
  unfold f_X1_sailsIn_b57 at hf
  obtain ⟨q6, e6, hf⟩ := zbi_of hf
  refine zr_run [(.aload_n 0, 0, 0, 0, .null), (.iload_n 2, 0, 0, 0, .null), (.iconst 0, 0, 0, 0, .int (0 : Int32))] [] (WW' := [w_Fk G a0 s0, w_Ld G a1 s1]) (lv' := [some (.ref (a0 0)), none, some (.int x2), none, none, none, none]) (pc' := 60) (st' := [.int (0 : Int32), .int x2, .ref (a0 0)]) (by decide +kernel) rfl rfl ⟨trivial, trivial, trivial, trivial⟩ ?_
  refine zr_callV (c_X1_of l G a0 s0 x2 (0 : Int32) q6 e6) (WW' := fun _ => [w_Fk G a0 s0, w_Ld G a1 s1]) (st := []) (st' := [.int q6]) [0] rfl rfl (fun _ => Nat.le_of_ble_eq_true rfl) (fun _ => rfl) rfl rfl nm_X1_of zw_3_141 zw_3_142 zw_3_143 zw_1_8 zw_3_142n rfl rfl rfl (Nat.le_of_ble_eq_true rfl) ⟨Nat.le_of_ble_eq_true rfl, Nat.le_of_ble_eq_true rfl⟩ (by decide +kernel) (fun _ => ?_)
  refine zr_run [(.iconst 3, 0, 0, 0, .int (3 : Int32))] [] (WW' := [w_Fk G a0 s0, w_Ld G a1 s1]) (lv' := [some (.ref (a0 0)), none, some (.int x2), none, none, none, none]) (pc' := 64) (st' := [.int (3 : Int32), .int q6]) (by decide +kernel) rfl rfl ⟨trivial, trivial⟩ ?_
  refine zr_icmp_ne (off := 7) (tgt := 71) (by decide +kernel) (by decide) (fun hc => ?_) (fun hc => ?_)
  · have hf := zift hf hc
    refine zr_run [(.iconst 1, 0, 0, 0, .int (1 : Int32))] [] (WW' := [w_Fk G a0 s0, w_Ld G a1 s1]) (lv' := [some (.ref (a0 0)), none, some (.int x2), none, none, none, none]) (pc' := 68) (st' := [.int (1 : Int32)]) (by decide +kernel) rfl rfl ⟨trivial, trivial⟩ ?_
    refine zr_goto (off := 4) (tgt := 72) (by decide +kernel) (by decide) ?_
    obtain rfl := Option.some.inj hf
    exact zr_zret (by decide) (b0 := fun _ => 0) (by decide +kernel) rfl rfl rfl rfl rfl
  · have hf := ziff hf hc
    refine zr_run [(.iconst 0, 0, 0, 0, .int (0 : Int32))] [] (WW' := [w_Fk G a0 s0, w_Ld G a1 s1]) (lv' := [some (.ref (a0 0)), none, some (.int x2), none, none, none, none]) (pc' := 72) (st' := [.int (0 : Int32)]) (by decide +kernel) rfl rfl ⟨trivial, trivial⟩ ?_
    obtain rfl := Option.some.inj hf
    exact zr_zret (by decide) (b0 := fun _ => 0) (by decide +kernel) rfl rfl rfl rfl rfl
set_option maxRecDepth 100000 in
set_option maxHeartbeats 4000000 in
theorem t_X1_sailsIn_H19 (l : Launch) (G : zj_G) (a0 : Nat → Nat) (a1 : Nat → Nat) (W0 : List va_W) (r : Int32 × FkT) (s0 : FkT) (s1 : LdT) (k19 : FkT → Int32 → Int32 → Int32 → Option (Int32 × FkT)) (hk19 : ∀ (s0 : FkT) (x2 : Int32) (x5 : Int32) (x6 : Int32), k19 s0 x2 x5 x6 = some r → zj_J l G M_X1_sailsIn W0 (zj_ret G M_X1_sailsIn W0 (some (.int r.1)) (fun _ => [w_Fk G a0 r.2, w_Ld G a1 s1])) 0 0 [w_Fk G a0 s0, w_Ld G a1 s1] [some (.ref (a0 0)), some (.ref (a1 0)), some (.int x2), none, none, some (.int x5), some (.int x6)] 19 []) (x2 : Int32) (x5 : Int32) (x6 : Int32) (hf : f_X1_sailsIn_H19 s0 s1 k19 x2 x5 x6 = some r) : zj_J l G M_X1_sailsIn W0 (zj_ret G M_X1_sailsIn W0 (some (.int r.1)) (fun _ => [w_Fk G a0 r.2, w_Ld G a1 s1])) 0 0 [w_Fk G a0 s0, w_Ld G a1 s1] [some (.ref (a0 0)), some (.ref (a1 0)), some (.int x2), none, none, some (.int x5), some (.int x6)] 19 [] := by
  unfold f_X1_sailsIn_H19 at hf
  refine zr_run [(.iload 6, 0, 0, 0, .null), (.iload 5, 0, 0, 0, .null)] [] (WW' := [w_Fk G a0 s0, w_Ld G a1 s1]) (lv' := [some (.ref (a0 0)), some (.ref (a1 0)), some (.int x2), none, none, some (.int x5), some (.int x6)]) (pc' := 23) (st' := [.int x5, .int x6]) (by decide +kernel) rfl rfl ⟨trivial, trivial, trivial⟩ ?_
  refine zr_icmp_ge (off := 34) (tgt := 57) (by decide +kernel) (by decide) (fun hc => ?_) (fun hc => ?_)
  · have hf := zift hf hc
    obtain ⟨q3, e3, hf⟩ := zbi_of hf
    refine zr_run [(.aload_n 0, 0, 0, 0, .null), (.iload_n 2, 0, 0, 0, .null), (.iconst 0, 0, 0, 0, .int (0 : Int32))] [] (WW' := [w_Fk G a0 s0, w_Ld G a1 s1]) (lv' := [some (.ref (a0 0)), some (.ref (a1 0)), some (.int x2), none, none, some (.int x5), some (.int x6)]) (pc' := 29) (st' := [.int (0 : Int32), .int x2, .ref (a0 0)]) (by decide +kernel) rfl rfl ⟨trivial, trivial, trivial, trivial⟩ ?_
    refine zr_callV (c_X1_of l G a0 s0 x2 (0 : Int32) q3 e3) (WW' := fun _ => [w_Fk G a0 s0, w_Ld G a1 s1]) (st := []) (st' := [.int q3]) [0] rfl rfl (fun _ => Nat.le_of_ble_eq_true rfl) (fun _ => rfl) rfl rfl nm_X1_of zw_3_141 zw_3_142 zw_3_143 zw_1_8 zw_3_142n rfl rfl rfl (Nat.le_of_ble_eq_true rfl) ⟨Nat.le_of_ble_eq_true rfl, Nat.le_of_ble_eq_true rfl⟩ (by decide +kernel) (fun _ => ?_)
    refine zr_run [(.iconst 1, 0, 0, 0, .int (1 : Int32))] [] (WW' := [w_Fk G a0 s0, w_Ld G a1 s1]) (lv' := [some (.ref (a0 0)), some (.ref (a1 0)), some (.int x2), none, none, some (.int x5), some (.int x6)]) (pc' := 33) (st' := [.int (1 : Int32), .int q3]) (by decide +kernel) rfl rfl ⟨trivial, trivial⟩ ?_
    refine zr_icmp_eq (off := 13) (tgt := 46) (by decide +kernel) (by decide) (fun hc => ?_) (fun hc => ?_)
    · have hf := zift hf hc
      exact t_X1_sailsIn_b46 l G a0 a1 W0 r s0 s1 k19 hk19 x2 x5 x6 hf
    · have hf := ziff hf hc
      obtain ⟨q5, e5, hf⟩ := zbi_of hf
      refine zr_run [(.aload_n 0, 0, 0, 0, .null), (.iload_n 2, 0, 0, 0, .null), (.iconst 0, 0, 0, 0, .int (0 : Int32))] [] (WW' := [w_Fk G a0 s0, w_Ld G a1 s1]) (lv' := [some (.ref (a0 0)), some (.ref (a1 0)), some (.int x2), none, none, some (.int x5), some (.int x6)]) (pc' := 39) (st' := [.int (0 : Int32), .int x2, .ref (a0 0)]) (by decide +kernel) rfl rfl ⟨trivial, trivial, trivial, trivial⟩ ?_
      refine zr_callV (c_X1_of l G a0 s0 x2 (0 : Int32) q5 e5) (WW' := fun _ => [w_Fk G a0 s0, w_Ld G a1 s1]) (st := []) (st' := [.int q5]) [0] rfl rfl (fun _ => Nat.le_of_ble_eq_true rfl) (fun _ => rfl) rfl rfl nm_X1_of zw_3_141 zw_3_142 zw_3_143 zw_1_8 zw_3_142n rfl rfl rfl (Nat.le_of_ble_eq_true rfl) ⟨Nat.le_of_ble_eq_true rfl, Nat.le_of_ble_eq_true rfl⟩ (by decide +kernel) (fun _ => ?_)
      refine zr_run [(.iconst 2, 0, 0, 0, .int (2 : Int32))] [] (WW' := [w_Fk G a0 s0, w_Ld G a1 s1]) (lv' := [some (.ref (a0 0)), some (.ref (a1 0)), some (.int x2), none, none, some (.int x5), some (.int x6)]) (pc' := 43) (st' := [.int (2 : Int32), .int q5]) (by decide +kernel) rfl rfl ⟨trivial, trivial⟩ ?_
      refine zr_icmp_ne (off := 14) (tgt := 57) (by decide +kernel) (by decide) (fun hc => ?_) (fun hc => ?_)
      · have hf := zift hf hc
        exact t_X1_sailsIn_b46 l G a0 a1 W0 r s0 s1 k19 hk19 x2 x5 x6 hf
      · have hf := ziff hf hc
        refine zr_run [] [1, 5, 6] (WW' := [w_Fk G a0 s0, w_Ld G a1 s1]) (lv' := [some (.ref (a0 0)), none, some (.int x2), none, none, none, none]) (pc' := 57) (st' := []) (by decide +kernel) rfl rfl trivial ?_
        exact t_X1_sailsIn_b57 l G a0 a1 W0 r s0 s1 x2 hf
  · have hf := ziff hf hc
    refine zr_run [] [1, 5, 6] (WW' := [w_Fk G a0 s0, w_Ld G a1 s1]) (lv' := [some (.ref (a0 0)), none, some (.int x2), none, none, none, none]) (pc' := 57) (st' := []) (by decide +kernel) rfl rfl trivial ?_
    exact t_X1_sailsIn_b57 l G a0 a1 W0 r s0 s1 x2 hf
theorem t_X1_sailsIn_L19 (l : Launch) (G : zj_G) (a0 : Nat → Nat) (a1 : Nat → Nat) (W0 : List va_W) (r : Int32 × FkT) (s1 : LdT)   : ∀ (n : Nat) (s0 : FkT) (x2 : Int32) (x5 : Int32) (x6 : Int32), f_X1_sailsIn_L19 s1 n s0 x2 x5 x6 = some r → zj_J l G M_X1_sailsIn W0 (zj_ret G M_X1_sailsIn W0 (some (.int r.1)) (fun _ => [w_Fk G a0 r.2, w_Ld G a1 s1])) 0 0 [w_Fk G a0 s0, w_Ld G a1 s1] [some (.ref (a0 0)), some (.ref (a1 0)), some (.int x2), none, none, some (.int x5), some (.int x6)] 19 [] := by
  intro n
  induction n with
  | zero => intro s0 x2 x5 x6 hf; exact nomatch (show none = some r from hf)
  | succ n ih => intro s0 x2 x5 x6 hf; exact t_X1_sailsIn_H19 l G a0 a1 W0 r s0 s1  (f_X1_sailsIn_L19 s1 n)  ih x2 x5 x6  hf
set_option maxRecDepth 100000 in
set_option maxHeartbeats 4000000 in
theorem c_X1_sailsIn (l : Launch) (G : zj_G) (a0 : Nat → Nat) (a1 : Nat → Nat) (s0 : FkT) (s1 : LdT) (x2 : Int32) (x3 : Int32) (x4 : Int32) (r : Int32 × FkT) (hf : f_X1_sailsIn s0 s1 x2 x3 x4 = some r) : zj_C l G M_X1_sailsIn yX1_sailsIn [w_Fk G a0 s0, w_Ld G a1 s1] [.ref (a0 0), .ref (a1 0), .int x2, .int x3, .int x4] (some (.int r.1)) (fun _ => [w_Fk G a0 r.2, w_Ld G a1 s1]) := by
  have key : ∀ W0 : List va_W, zj_J l G M_X1_sailsIn W0 (zj_ret G M_X1_sailsIn W0 (some (.int r.1)) (fun _ => [w_Fk G a0 r.2, w_Ld G a1 s1])) 0 0 [w_Fk G a0 s0, w_Ld G a1 s1] [some (.ref (a0 0)), some (.ref (a1 0)), some (.int x2), some (.int x3), some (.int x4), none, none] 0 [] := by
    intro W0
    unfold f_X1_sailsIn at hf
    obtain ⟨y1, e1, hf⟩ := zlet_of hf
    refine zr_run [(.aload_n 0, 0, 0, 0, .null), (.iload 4, 0, 0, 0, .null), (.putfield 19, 0, 0, 2, .null)] [] (WW' := [w_Fk G a0 (Fk_s_seed s0 x4), w_Ld G a1 s1]) (lv' := [some (.ref (a0 0)), some (.ref (a1 0)), some (.int x2), some (.int x3), some (.int x4), none, none]) (pc' := 6) (st' := []) (by decide +kernel) rfl rfl ⟨trivial, trivial, ⟨rfl, rfl, rfl, trivial, rfl, rfl, zw_1_216⟩, trivial⟩ ?_
    refine zr_eq (WW2 := [w_Fk G a0 y1, w_Ld G a1 s1]) (lv2 := [some (.ref (a0 0)), some (.ref (a1 0)), some (.int x2), some (.int x3), some (.int x4), none, none]) (st2 := []) (by rw [e1]) rfl rfl ?_
    obtain ⟨q2, e2, hf⟩ := zbi_of hf
    refine zr_run [(.iload_n 3, 0, 0, 0, .null), (.aload_n 0, 0, 0, 0, .null)] [] (WW' := [w_Fk G a0 y1, w_Ld G a1 s1]) (lv' := [some (.ref (a0 0)), some (.ref (a1 0)), some (.int x2), some (.int x3), some (.int x4), none, none]) (pc' := 8) (st' := [.ref (a0 0), .int x3]) (by decide +kernel) rfl rfl ⟨trivial, trivial, trivial⟩ ?_
    refine zr_callV (c_X1_daysToCome l G a0 y1 q2 e2) (WW' := fun _ => [w_Fk G a0 y1, w_Ld G a1 s1]) (st := [.int x3]) (st' := [.int q2, .int x3]) [0] rfl rfl (fun _ => Nat.le_of_ble_eq_true rfl) (fun _ => rfl) rfl rfl nm_X1_daysToCome zw_4_6 zw_4_7 zw_4_8 zw_1_8 zw_4_9 rfl rfl rfl (Nat.le_of_ble_eq_true rfl) ⟨Nat.le_of_ble_eq_true rfl, Nat.le_of_ble_eq_true rfl⟩ (by decide +kernel) (fun _ => ?_)
    refine zr_mmin zw_3_235 zw_3_236 zw_1_24 zw_3_237 (Nat.le_of_ble_eq_true rfl) (Nat.le_of_ble_eq_true rfl) ⟨Nat.le_of_ble_eq_true rfl, Nat.le_of_ble_eq_true rfl⟩ (by decide +kernel) ?_
    refine zr_run [(.istore 5, 0, 0, 0, .null), (.iconst 0, 0, 0, 0, .int (0 : Int32)), (.istore 6, 0, 0, 0, .null)] [3, 4] (WW' := [w_Fk G a0 y1, w_Ld G a1 s1]) (lv' := [some (.ref (a0 0)), some (.ref (a1 0)), some (.int x2), none, none, some (.int (zr_mminF x3 q2)), some (.int (0 : Int32))]) (pc' := 19) (st' := []) (by decide +kernel) rfl rfl ⟨trivial, trivial, trivial, trivial⟩ ?_
    exact t_X1_sailsIn_L19 l G a0 a1 W0 r s1 zFU y1 x2 (zr_mminF x3 q2) (0 : Int32) hf
  exact zj_entry [some (.ref (a0 0)), some (.ref (a1 0)), some (.int x2), some (.int x3), some (.int x4), none, none] (by decide +kernel) rfl (by decide) (Nat.le_of_ble_eq_true rfl) rfl rfl (key _)
