def M_X12_write : zj_M := (RX12, cX12_write, 2, none, { frames := 0, cells := 0, slots := 0, locals := 0 }, false)
theorem nm_X12_write : zj_nm yX12_write 1 := ⟨by decide +kernel, by decide +kernel, by decide +kernel⟩
def f_X12_write  (s0 : MoT) (x1 : Int32) : Option (MoT) := (if zb_in (Mo_texts s0) 64 = true then (zlet (Mo_s_text s0 ((upd (Mo_text s0) (Mo_texts s0).toNatClampNeg x1))) fun y2 => (zlet (Mo_s_texts y2 ((Mo_texts y2) + (1 : Int32))) fun y3 => some y3)) else none)
set_option maxRecDepth 100000 in
set_option maxHeartbeats 4000000 in
theorem c_X12_write (l : Launch) (G : zj_G) (a0 : Nat → Nat) (s0 : MoT) (x1 : Int32) (r : MoT) (hf : f_X12_write s0 x1 = some r) : zj_C l G M_X12_write yX12_write [w_Mo G a0 s0] [.ref (a0 0), .int x1] (none) (fun _ => [w_Mo G a0 r]) := by
  have key : ∀ W0 : List va_W, zj_J l G M_X12_write W0 (zj_ret G M_X12_write W0 (none) (fun _ => [w_Mo G a0 r])) 0 0 [w_Mo G a0 s0] [some (.ref (a0 0)), some (.int x1)] 0 [] := by
    intro W0
    unfold f_X12_write at hf
    obtain ⟨h1, hf⟩ := zck_of hf
    obtain ⟨y2, e2, hf⟩ := zlet_of hf
    refine zr_run [(.aload_n 0, 0, 0, 0, .null), (.getfield 79, 0, 0, 43, .null), (.aload_n 0, 0, 0, 0, .null), (.getfield 381, 0, 0, 44, .null), (.iload_n 1, 0, 0, 0, .null), (.iastore, 0, 20, 0, .null)] [] (WW' := [w_Mo G a0 (Mo_s_text s0 ((upd (Mo_text s0) (Mo_texts s0).toNatClampNeg x1)))]) (lv' := [some (.ref (a0 0)), some (.int x1)]) (pc' := 10) (st' := []) (by decide +kernel) rfl rfl ⟨trivial, ⟨rfl, rfl, zw_6_72⟩, trivial, ⟨rfl, rfl, zw_6_73⟩, trivial, ⟨rfl, rfl, h1⟩, trivial⟩ ?_
    refine zr_eq (WW2 := [w_Mo G a0 y2]) (lv2 := [some (.ref (a0 0)), some (.int x1)]) (st2 := []) (by rw [e2]) rfl rfl ?_
    obtain ⟨y3, e3, hf⟩ := zlet_of hf
    refine zr_run [(.aload_n 0, 0, 0, 0, .null), (.dup, 0, 0, 0, .null), (.getfield 381, 0, 0, 44, .null), (.iconst 1, 0, 0, 0, .int (1 : Int32)), (.iadd, 0, 0, 0, .null), (.putfield 381, 0, 0, 44, .null)] [] (WW' := [w_Mo G a0 (Mo_s_texts y2 ((Mo_texts y2) + (1 : Int32)))]) (lv' := [some (.ref (a0 0)), some (.int x1)]) (pc' := 20) (st' := []) (by decide +kernel) rfl rfl ⟨trivial, trivial, ⟨rfl, rfl, zw_6_73⟩, trivial, trivial, ⟨rfl, rfl, rfl, trivial, rfl, rfl, zw_6_73⟩, trivial⟩ ?_
    refine zr_eq (WW2 := [w_Mo G a0 y3]) (lv2 := [some (.ref (a0 0)), some (.int x1)]) (st2 := []) (by rw [e3]) rfl rfl ?_
    obtain rfl := Option.some.inj hf
    exact zr_vret (b0 := fun _ => 0) (by decide +kernel) rfl rfl rfl rfl rfl
  exact zj_entry [some (.ref (a0 0)), some (.int x1)] (by decide +kernel) rfl (by decide) (Nat.le_of_ble_eq_true rfl) rfl rfl (key _)
def M_X12_writeWord (d : Nat) : zj_M := (RX12, cX12_writeWord, 3, none, { frames := d + 1, cells := 0, slots := 0, locals := d * 22 + 21 }, false)
theorem nm_X12_writeWord : zj_nm yX12_writeWord 1 := ⟨by decide +kernel, by decide +kernel, by decide +kernel⟩
def f_B_X12_writeWord_b17 (R_X12_writeWord : MoT → Int64 → Option (MoT)) (s0 : MoT)  (x1 : Int64) : Option (MoT) := ((f_X12_write s0 ((96 : Int32) + (zr_reml x1 (27 : Int64)).toInt32)).bind fun q1 => some q1)
def f_B_X12_writeWord (R_X12_writeWord : MoT → Int64 → Option (MoT)) (s0 : MoT) (x1 : Int64) : Option (MoT) := (if (lg_cmp x1 (27 : Int64)) < 0 then f_B_X12_writeWord_b17 R_X12_writeWord s0 x1 else ((R_X12_writeWord s0 (x1 / (27 : Int64))).bind fun q2 => f_B_X12_writeWord_b17 R_X12_writeWord q2 x1))
set_option maxRecDepth 100000 in
set_option maxHeartbeats 4000000 in
theorem t_B_X12_writeWord_b17 (l : Launch) (G : zj_G) (d : Nat) (R_X12_writeWord : MoT → Int64 → Option (MoT)) (hR_X12_writeWord : ∀ (a0 : Nat → Nat) (s0 : MoT) (x0 : Int64) (r : MoT), R_X12_writeWord s0 x0 = some r → zj_C l G (M_X12_writeWord d) yX12_writeWord [w_Mo G a0 s0] [.ref (a0 0), .long x0] (none) (fun _ => [w_Mo G a0 r])) (a0 : Nat → Nat) (W0 : List va_W) (r : MoT) (s0 : MoT)   (x1 : Int64) (hf : f_B_X12_writeWord_b17 R_X12_writeWord s0 x1 = some r) : zj_J l G (M_X12_writeWord (d + 1)) W0 (zj_ret G (M_X12_writeWord (d + 1)) W0 (none) (fun _ => [w_Mo G a0 r])) 0 0 [w_Mo G a0 s0] [some (.ref (a0 0)), some (.long x1), none] 17 [] := by
  unfold f_B_X12_writeWord_b17 at hf
  obtain ⟨q1, e1, hf⟩ := zbi_of hf
  refine zr_run [(.aload_n 0, 0, 0, 0, .null), (.bipush 96, 0, 0, 0, .int (96 : Int32)), (.lload_n 1, 0, 0, 0, .null), (.ldc2_w 137, 0, 0, 0, .long (27 : Int64)), (.lrem, 0, 0, 0, .null), (.l2i, 0, 0, 0, .null), (.iadd, 0, 0, 0, .null)] [] (WW' := [w_Mo G a0 s0]) (lv' := [some (.ref (a0 0)), some (.long x1), none]) (pc' := 27) (st' := [.int ((96 : Int32) + (zr_reml x1 (27 : Int64)).toInt32), .ref (a0 0)]) (by change zj_dec cX12_writeWord _ _ = true; decide +kernel) rfl rfl ⟨trivial, trivial, trivial, zw_6_235, (by decide), trivial, trivial, trivial⟩ ?_
  refine zr_callV (c_X12_write l G a0 s0 ((96 : Int32) + (zr_reml x1 (27 : Int64)).toInt32) q1 e1) (WW' := fun _ => [w_Mo G a0 q1]) (st := []) (st' := []) [0] rfl rfl (fun _ => Nat.le_of_ble_eq_true rfl) (fun _ => rfl) rfl rfl nm_X12_write zw_8_103 zw_8_105 zw_0_103 zw_1_18 zw_8_106 rfl rfl rfl (Nat.le_of_ble_eq_true rfl) ⟨Nat.le_of_ble_eq_true rfl, Nat.le_of_ble_eq_true rfl⟩ (by change decode cX12_writeWord _ = _; decide +kernel) (fun _ => ?_)
  obtain rfl := Option.some.inj hf
  exact zr_vret (b0 := fun _ => 0) (by change decode cX12_writeWord _ = _; decide +kernel) rfl rfl rfl rfl rfl
set_option maxRecDepth 100000 in
set_option maxHeartbeats 4000000 in
theorem c_B_X12_writeWord (l : Launch) (G : zj_G) (d : Nat) (R_X12_writeWord : MoT → Int64 → Option (MoT)) (hR_X12_writeWord : ∀ (a0 : Nat → Nat) (s0 : MoT) (x0 : Int64) (r : MoT), R_X12_writeWord s0 x0 = some r → zj_C l G (M_X12_writeWord d) yX12_writeWord [w_Mo G a0 s0] [.ref (a0 0), .long x0] (none) (fun _ => [w_Mo G a0 r])) (a0 : Nat → Nat) (s0 : MoT) (x1 : Int64) (r : MoT) (hf : f_B_X12_writeWord R_X12_writeWord s0 x1 = some r) : zj_C l G (M_X12_writeWord (d + 1)) yX12_writeWord [w_Mo G a0 s0] [.ref (a0 0), .long x1] (none) (fun _ => [w_Mo G a0 r]) := by
  have key : ∀ W0 : List va_W, zj_J l G (M_X12_writeWord (d + 1)) W0 (zj_ret G (M_X12_writeWord (d + 1)) W0 (none) (fun _ => [w_Mo G a0 r])) 0 0 [w_Mo G a0 s0] [some (.ref (a0 0)), some (.long x1), none] 0 [] := by
    intro W0
    unfold f_B_X12_writeWord at hf
    refine zr_run [(.lload_n 1, 0, 0, 0, .null), (.ldc2_w 137, 0, 0, 0, .long (27 : Int64)), (.lcmp, 0, 0, 0, .null)] [] (WW' := [w_Mo G a0 s0]) (lv' := [some (.ref (a0 0)), some (.long x1), none]) (pc' := 5) (st' := [.int (lg_cmp x1 (27 : Int64))]) (by change zj_dec cX12_writeWord _ _ = true; decide +kernel) rfl rfl ⟨trivial, zw_6_235, trivial, trivial⟩ ?_
    refine zr_if_lt (off := 12) (tgt := 17) (by change decode cX12_writeWord _ = _; decide +kernel) (by decide) (fun hc => ?_) (fun hc => ?_)
    · have hf := zift hf hc
      exact t_B_X12_writeWord_b17 l G d R_X12_writeWord hR_X12_writeWord a0 W0 r s0 x1 hf
    · have hf := ziff hf hc
      obtain ⟨q2, e2, hf⟩ := zbi_of hf
      refine zr_run [(.aload_n 0, 0, 0, 0, .null), (.lload_n 1, 0, 0, 0, .null), (.ldc2_w 137, 0, 0, 0, .long (27 : Int64)), (.ldiv, 0, 0, 0, .null)] [] (WW' := [w_Mo G a0 s0]) (lv' := [some (.ref (a0 0)), some (.long x1), none]) (pc' := 14) (st' := [.long (x1 / (27 : Int64)), .ref (a0 0)]) (by change zj_dec cX12_writeWord _ _ = true; decide +kernel) rfl rfl ⟨trivial, trivial, zw_6_235, (by decide), trivial⟩ ?_
      refine zr_callV (hR_X12_writeWord a0 s0 (x1 / (27 : Int64)) q2 e2) (WW' := fun _ => [w_Mo G a0 q2]) (st := []) (st' := []) [0] rfl rfl (fun _ => Nat.le_of_ble_eq_true rfl) (fun _ => rfl) rfl rfl nm_X12_writeWord zw_8_99 zw_8_101 zw_0_102 zw_1_18 zw_8_102 rfl rfl (zj_rm_in (show d + 1 + 1 ≤ (d + 1) + 1 by omega) (show 8 + (3 + 11) + (d * 22 + 21) ≤ (d + 1) * 22 + 21 by omega)) (Nat.le_of_ble_eq_true rfl) ⟨Nat.le_of_ble_eq_true rfl, Nat.le_of_ble_eq_true rfl⟩ (by change decode cX12_writeWord _ = _; decide +kernel) (fun _ => ?_)
      exact t_B_X12_writeWord_b17 l G d R_X12_writeWord hR_X12_writeWord a0 W0 r q2 x1 hf
  exact zj_entry [some (.ref (a0 0)), some (.long x1), none] (by decide +kernel) rfl (fun h => absurd (show false = true from h) (by decide)) (Nat.le_of_ble_eq_true rfl) rfl rfl (key _)
def fG_X12_writeWord : Nat → (MoT → Int64 → Option (MoT))
  | 0 => fun _ _ => none
  | n + 1 => f_B_X12_writeWord ((fG_X12_writeWord n))
def f_X12_writeWord (d : Nat) : MoT → Int64 → Option (MoT) := (fG_X12_writeWord d)
theorem cG_X12_writeWord (l : Launch) (G : zj_G) : ∀ d : Nat, (∀ (a0 : Nat → Nat) (s0 : MoT) (x0 : Int64) (r : MoT), ((fG_X12_writeWord d)) s0 x0 = some r → zj_C l G (M_X12_writeWord d) yX12_writeWord [w_Mo G a0 s0] [.ref (a0 0), .long x0] (none) (fun _ => [w_Mo G a0 r])) := by
  intro d
  induction d with
  | zero => exact (fun a0 s0 x0 r hf => nomatch (show none = some r from hf))
  | succ d ih => exact (fun a0 s0 x0 r hf => c_B_X12_writeWord l G d _ ih a0 s0 x0 r hf)
theorem c_X12_writeWord (l : Launch) (G : zj_G) (d : Nat) : ∀ (a0 : Nat → Nat) (s0 : MoT) (x0 : Int64) (r : MoT), f_X12_writeWord d s0 x0 = some r → zj_C l G (M_X12_writeWord d) yX12_writeWord [w_Mo G a0 s0] [.ref (a0 0), .long x0] (none) (fun _ => [w_Mo G a0 r]) := cG_X12_writeWord l G d
def M_X12_writeNumber (d : Nat) : zj_M := (RX12, cX12_writeNumber, 2, none, { frames := d + 1, cells := 0, slots := 0, locals := d * 21 + 21 }, false)
theorem nm_X12_writeNumber : zj_nm yX12_writeNumber 1 := ⟨by decide +kernel, by decide +kernel, by decide +kernel⟩
def f_B_X12_writeNumber_b14 (R_X12_writeNumber : MoT → Int32 → Option (MoT)) (s0 : MoT)  (x1 : Int32) : Option (MoT) := ((f_X12_write s0 ((48 : Int32) + (zr_rem x1 (10 : Int32)))).bind fun q2 => some q2)
def f_B_X12_writeNumber (R_X12_writeNumber : MoT → Int32 → Option (MoT)) (s0 : MoT) (x1 : Int32) : Option (MoT) := (if (9 : Int32) < x1 then ((R_X12_writeNumber s0 (x1 / (10 : Int32))).bind fun q1 => f_B_X12_writeNumber_b14 R_X12_writeNumber q1 x1) else f_B_X12_writeNumber_b14 R_X12_writeNumber s0 x1)
set_option maxRecDepth 100000 in
set_option maxHeartbeats 4000000 in
theorem t_B_X12_writeNumber_b14 (l : Launch) (G : zj_G) (d : Nat) (R_X12_writeNumber : MoT → Int32 → Option (MoT)) (hR_X12_writeNumber : ∀ (a0 : Nat → Nat) (s0 : MoT) (x0 : Int32) (r : MoT), R_X12_writeNumber s0 x0 = some r → zj_C l G (M_X12_writeNumber d) yX12_writeNumber [w_Mo G a0 s0] [.ref (a0 0), .int x0] (none) (fun _ => [w_Mo G a0 r])) (a0 : Nat → Nat) (W0 : List va_W) (r : MoT) (s0 : MoT)   (x1 : Int32) (hf : f_B_X12_writeNumber_b14 R_X12_writeNumber s0 x1 = some r) : zj_J l G (M_X12_writeNumber (d + 1)) W0 (zj_ret G (M_X12_writeNumber (d + 1)) W0 (none) (fun _ => [w_Mo G a0 r])) 0 0 [w_Mo G a0 s0] [some (.ref (a0 0)), some (.int x1)] 14 [] := by
  unfold f_B_X12_writeNumber_b14 at hf
  obtain ⟨q2, e2, hf⟩ := zbi_of hf
  refine zr_run [(.aload_n 0, 0, 0, 0, .null), (.bipush 48, 0, 0, 0, .int (48 : Int32)), (.iload_n 1, 0, 0, 0, .null), (.bipush 10, 0, 0, 0, .int (10 : Int32)), (.irem, 0, 0, 0, .null), (.iadd, 0, 0, 0, .null)] [] (WW' := [w_Mo G a0 s0]) (lv' := [some (.ref (a0 0)), some (.int x1)]) (pc' := 22) (st' := [.int ((48 : Int32) + (zr_rem x1 (10 : Int32))), .ref (a0 0)]) (by change zj_dec cX12_writeNumber _ _ = true; decide +kernel) rfl rfl ⟨trivial, trivial, trivial, trivial, (by decide), trivial, trivial⟩ ?_
  refine zr_callV (c_X12_write l G a0 s0 ((48 : Int32) + (zr_rem x1 (10 : Int32))) q2 e2) (WW' := fun _ => [w_Mo G a0 q2]) (st := []) (st' := []) [0] rfl rfl (fun _ => Nat.le_of_ble_eq_true rfl) (fun _ => rfl) rfl rfl nm_X12_write zw_8_103 zw_8_105 zw_0_103 zw_1_18 zw_8_106 rfl rfl rfl (Nat.le_of_ble_eq_true rfl) ⟨Nat.le_of_ble_eq_true rfl, Nat.le_of_ble_eq_true rfl⟩ (by change decode cX12_writeNumber _ = _; decide +kernel) (fun _ => ?_)
  obtain rfl := Option.some.inj hf
  exact zr_vret (b0 := fun _ => 0) (by change decode cX12_writeNumber _ = _; decide +kernel) rfl rfl rfl rfl rfl
set_option maxRecDepth 100000 in
set_option maxHeartbeats 4000000 in
theorem c_B_X12_writeNumber (l : Launch) (G : zj_G) (d : Nat) (R_X12_writeNumber : MoT → Int32 → Option (MoT)) (hR_X12_writeNumber : ∀ (a0 : Nat → Nat) (s0 : MoT) (x0 : Int32) (r : MoT), R_X12_writeNumber s0 x0 = some r → zj_C l G (M_X12_writeNumber d) yX12_writeNumber [w_Mo G a0 s0] [.ref (a0 0), .int x0] (none) (fun _ => [w_Mo G a0 r])) (a0 : Nat → Nat) (s0 : MoT) (x1 : Int32) (r : MoT) (hf : f_B_X12_writeNumber R_X12_writeNumber s0 x1 = some r) : zj_C l G (M_X12_writeNumber (d + 1)) yX12_writeNumber [w_Mo G a0 s0] [.ref (a0 0), .int x1] (none) (fun _ => [w_Mo G a0 r]) := by
  have key : ∀ W0 : List va_W, zj_J l G (M_X12_writeNumber (d + 1)) W0 (zj_ret G (M_X12_writeNumber (d + 1)) W0 (none) (fun _ => [w_Mo G a0 r])) 0 0 [w_Mo G a0 s0] [some (.ref (a0 0)), some (.int x1)] 0 [] := by
    intro W0
    unfold f_B_X12_writeNumber at hf
    refine zr_run [(.iload_n 1, 0, 0, 0, .null), (.bipush 9, 0, 0, 0, .int (9 : Int32))] [] (WW' := [w_Mo G a0 s0]) (lv' := [some (.ref (a0 0)), some (.int x1)]) (pc' := 3) (st' := [.int (9 : Int32), .int x1]) (by change zj_dec cX12_writeNumber _ _ = true; decide +kernel) rfl rfl ⟨trivial, trivial, trivial⟩ ?_
    refine zr_icmp_le (off := 11) (tgt := 14) (by change decode cX12_writeNumber _ = _; decide +kernel) (by decide) (fun hc => ?_) (fun hc => ?_)
    · have hf := zift hf hc
      obtain ⟨q1, e1, hf⟩ := zbi_of hf
      refine zr_run [(.aload_n 0, 0, 0, 0, .null), (.iload_n 1, 0, 0, 0, .null), (.bipush 10, 0, 0, 0, .int (10 : Int32)), (.idiv, 0, 0, 0, .null)] [] (WW' := [w_Mo G a0 s0]) (lv' := [some (.ref (a0 0)), some (.int x1)]) (pc' := 11) (st' := [.int (x1 / (10 : Int32)), .ref (a0 0)]) (by change zj_dec cX12_writeNumber _ _ = true; decide +kernel) rfl rfl ⟨trivial, trivial, trivial, (by decide), trivial⟩ ?_
      refine zr_callV (hR_X12_writeNumber a0 s0 (x1 / (10 : Int32)) q1 e1) (WW' := fun _ => [w_Mo G a0 q1]) (st := []) (st' := []) [0] rfl rfl (fun _ => Nat.le_of_ble_eq_true rfl) (fun _ => rfl) rfl rfl nm_X12_writeNumber zw_8_111 zw_8_113 zw_0_105 zw_1_18 zw_8_114 rfl rfl (zj_rm_in (show d + 1 + 1 ≤ (d + 1) + 1 by omega) (show 8 + (2 + 11) + (d * 21 + 21) ≤ (d + 1) * 21 + 21 by omega)) (Nat.le_of_ble_eq_true rfl) ⟨Nat.le_of_ble_eq_true rfl, Nat.le_of_ble_eq_true rfl⟩ (by change decode cX12_writeNumber _ = _; decide +kernel) (fun _ => ?_)
      exact t_B_X12_writeNumber_b14 l G d R_X12_writeNumber hR_X12_writeNumber a0 W0 r q1 x1 hf
    · have hf := ziff hf hc
      exact t_B_X12_writeNumber_b14 l G d R_X12_writeNumber hR_X12_writeNumber a0 W0 r s0 x1 hf
  exact zj_entry [some (.ref (a0 0)), some (.int x1)] (by decide +kernel) rfl (fun h => absurd (show false = true from h) (by decide)) (Nat.le_of_ble_eq_true rfl) rfl rfl (key _)
def fG_X12_writeNumber : Nat → (MoT → Int32 → Option (MoT))
  | 0 => fun _ _ => none
  | n + 1 => f_B_X12_writeNumber ((fG_X12_writeNumber n))
def f_X12_writeNumber (d : Nat) : MoT → Int32 → Option (MoT) := (fG_X12_writeNumber d)
theorem cG_X12_writeNumber (l : Launch) (G : zj_G) : ∀ d : Nat, (∀ (a0 : Nat → Nat) (s0 : MoT) (x0 : Int32) (r : MoT), ((fG_X12_writeNumber d)) s0 x0 = some r → zj_C l G (M_X12_writeNumber d) yX12_writeNumber [w_Mo G a0 s0] [.ref (a0 0), .int x0] (none) (fun _ => [w_Mo G a0 r])) := by
  intro d
  induction d with
  | zero => exact (fun a0 s0 x0 r hf => nomatch (show none = some r from hf))
  | succ d ih => exact (fun a0 s0 x0 r hf => c_B_X12_writeNumber l G d _ ih a0 s0 x0 r hf)
theorem c_X12_writeNumber (l : Launch) (G : zj_G) (d : Nat) : ∀ (a0 : Nat → Nat) (s0 : MoT) (x0 : Int32) (r : MoT), f_X12_writeNumber d s0 x0 = some r → zj_C l G (M_X12_writeNumber d) yX12_writeNumber [w_Mo G a0 s0] [.ref (a0 0), .int x0] (none) (fun _ => [w_Mo G a0 r]) := cG_X12_writeNumber l G d
