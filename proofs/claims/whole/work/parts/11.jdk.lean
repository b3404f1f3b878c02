def M_J6_bitCount_0f7a4 : zj_M := (RJ6, cJ6_bitCount_0f7a4, 1, (some .int), { frames := 0, cells := 0, slots := 0, locals := 0 }, false)
theorem nm_J6_bitCount_0f7a4 : zj_nm yJ6_bitCount_0f7a4 1 := ⟨by decide +kernel, by decide +kernel, by decide +kernel⟩
def f_J6_bitCount_0f7a4   (x0 : Int32) : Option (Int32) := (zlet (((x0 - ((zr_ushr x0 (1 : Int32)) &&& (1431655765 : Int32))) &&& (858993459 : Int32)) + ((zr_ushr (x0 - ((zr_ushr x0 (1 : Int32)) &&& (1431655765 : Int32))) (2 : Int32)) &&& (858993459 : Int32))) fun y1 => (zlet (((y1 + (zr_ushr y1 (4 : Int32))) &&& (252645135 : Int32)) + (zr_ushr ((y1 + (zr_ushr y1 (4 : Int32))) &&& (252645135 : Int32)) (8 : Int32))) fun y2 => some ((y2 + (zr_ushr y2 (16 : Int32))) &&& (63 : Int32))))
set_option maxRecDepth 100000 in
set_option maxHeartbeats 4000000 in
theorem c_J6_bitCount_0f7a4 (l : Launch) (G : zj_G)   (x0 : Int32) (r : Int32) (hf : f_J6_bitCount_0f7a4 x0 = some r) : zj_C l G M_J6_bitCount_0f7a4 yJ6_bitCount_0f7a4 [] [.int x0] (some (.int r)) (fun _ => []) := by
  have key : ∀ W0 : List va_W, zj_J l G M_J6_bitCount_0f7a4 W0 (zj_ret G M_J6_bitCount_0f7a4 W0 (some (.int r)) (fun _ => [])) 0 0 [] [some (.int x0)] 0 [] := by
    intro W0
    unfold f_J6_bitCount_0f7a4 at hf
    obtain ⟨y1, e1, hf⟩ := zlet_of hf
    refine zr_run [(.iload_n 0, 0, 0, 0, .null), (.iload_n 0, 0, 0, 0, .null), (.iconst 1, 0, 0, 0, .int (1 : Int32)), (.iushr, 0, 0, 0, .null), (.ldc_w 265, 0, 0, 0, .int (1431655765 : Int32)), (.iand, 0, 0, 0, .null), (.isub, 0, 0, 0, .null), (.istore_n 0, 0, 0, 0, .null), (.iload_n 0, 0, 0, 0, .null), (.ldc_w 266, 0, 0, 0, .int (858993459 : Int32)), (.iand, 0, 0, 0, .null), (.iload_n 0, 0, 0, 0, .null), (.iconst 2, 0, 0, 0, .int (2 : Int32)), (.iushr, 0, 0, 0, .null), (.ldc_w 266, 0, 0, 0, .int (858993459 : Int32)), (.iand, 0, 0, 0, .null), (.iadd, 0, 0, 0, .null), (.istore_n 0, 0, 0, 0, .null)] [] (WW' := []) (lv' := [some (.int (((x0 - ((zr_ushr x0 (1 : Int32)) &&& (1431655765 : Int32))) &&& (858993459 : Int32)) + ((zr_ushr (x0 - ((zr_ushr x0 (1 : Int32)) &&& (1431655765 : Int32))) (2 : Int32)) &&& (858993459 : Int32))))]) (pc' := 24) (st' := []) (by decide +kernel) rfl rfl ⟨trivial, trivial, trivial, trivial, zw_4_115, trivial, trivial, trivial, trivial, zw_4_116, trivial, trivial, trivial, trivial, zw_4_116, trivial, trivial, trivial, trivial⟩ ?_
    refine zr_eq (WW2 := []) (lv2 := [some (.int y1)]) (st2 := []) rfl (by rw [e1]) rfl ?_
    obtain ⟨y2, e2, hf⟩ := zlet_of hf
    refine zr_run [(.iload_n 0, 0, 0, 0, .null), (.iload_n 0, 0, 0, 0, .null), (.iconst 4, 0, 0, 0, .int (4 : Int32)), (.iushr, 0, 0, 0, .null), (.iadd, 0, 0, 0, .null), (.ldc_w 267, 0, 0, 0, .int (252645135 : Int32)), (.iand, 0, 0, 0, .null), (.istore_n 0, 0, 0, 0, .null), (.iload_n 0, 0, 0, 0, .null), (.iload_n 0, 0, 0, 0, .null), (.bipush 8, 0, 0, 0, .int (8 : Int32)), (.iushr, 0, 0, 0, .null), (.iadd, 0, 0, 0, .null), (.istore_n 0, 0, 0, 0, .null)] [] (WW' := []) (lv' := [some (.int (((y1 + (zr_ushr y1 (4 : Int32))) &&& (252645135 : Int32)) + (zr_ushr ((y1 + (zr_ushr y1 (4 : Int32))) &&& (252645135 : Int32)) (8 : Int32))))]) (pc' := 41) (st' := []) (by decide +kernel) rfl rfl ⟨trivial, trivial, trivial, trivial, trivial, zw_4_117, trivial, trivial, trivial, trivial, trivial, trivial, trivial, trivial, trivial⟩ ?_
    refine zr_eq (WW2 := []) (lv2 := [some (.int y2)]) (st2 := []) rfl (by rw [e2]) rfl ?_
    refine zr_run [(.iload_n 0, 0, 0, 0, .null), (.iload_n 0, 0, 0, 0, .null), (.bipush 16, 0, 0, 0, .int (16 : Int32)), (.iushr, 0, 0, 0, .null), (.iadd, 0, 0, 0, .null), (.istore_n 0, 0, 0, 0, .null), (.iload_n 0, 0, 0, 0, .null), (.bipush 63, 0, 0, 0, .int (63 : Int32)), (.iand, 0, 0, 0, .null)] [] (WW' := []) (lv' := [some (.int (y2 + (zr_ushr y2 (16 : Int32))))]) (pc' := 52) (st' := [.int ((y2 + (zr_ushr y2 (16 : Int32))) &&& (63 : Int32))]) (by decide +kernel) rfl rfl ⟨trivial, trivial, trivial, trivial, trivial, trivial, trivial, trivial, trivial, trivial⟩ ?_
    obtain rfl := Option.some.inj hf
    exact zr_iret (b0 := fun _ => 0) (by decide +kernel) rfl rfl rfl rfl rfl
  exact zj_entry [some (.int x0)] (by decide +kernel) rfl (by decide) (Nat.le_of_ble_eq_true rfl) rfl rfl (key _)
def M_J7_fill_031fb : zj_M := (RJ7, cJ7_fill_031fb, 4, none, { frames := 0, cells := 0, slots := 0, locals := 0 }, false)
theorem nm_J7_fill_031fb : zj_nm yJ7_fill_031fb 2 := ⟨by decide +kernel, by decide +kernel, by decide +kernel⟩
def f_J7_fill_031fb_H5 (N0 : Nat) (s0 : (Nat → Int32)) (k5 : (Nat → Int32) → Int32 → Int32 → Int32 → Option ((Nat → Int32))) (x1 : Int32) (x2 : Int32) (x3 : Int32) : Option ((Nat → Int32)) := (if x2 < x3 then (if zb_in x2 N0 = true then (zlet (upd s0 x2.toNatClampNeg (vp_nar .byte x1)) fun y2 => k5 y2 x1 (x2 + (1 : Int32)) x3) else none) else some s0)
def f_J7_fill_031fb_L5 (N0 : Nat)   : Nat → (Nat → Int32) → Int32 → Int32 → Int32 → Option ((Nat → Int32))
  | 0 => fun _ _ _ _ => none
  | n + 1 => fun s0 x1 x2 x3 => f_J7_fill_031fb_H5 N0 s0 (f_J7_fill_031fb_L5 N0  n) x1 x2 x3
def f_J7_fill_031fb (N0 : Nat) (s0 : (Nat → Int32)) (x1 : Int32) : Option ((Nat → Int32)) := f_J7_fill_031fb_L5 N0 zFU s0 x1 (0 : Int32) (nI N0)
set_option maxRecDepth 100000 in
set_option maxHeartbeats 4000000 in
theorem t_J7_fill_031fb_H5 (l : Launch) (G : zj_G) (a0 : Nat → Nat) (N0 : Nat) (W0 : List va_W) (r : (Nat → Int32)) (s0 : (Nat → Int32)) (k5 : (Nat → Int32) → Int32 → Int32 → Int32 → Option ((Nat → Int32))) (hk5 : ∀ (s0 : (Nat → Int32)) (x1 : Int32) (x2 : Int32) (x3 : Int32), k5 s0 x1 x2 x3 = some r → zj_J l G M_J7_fill_031fb W0 (zj_ret G M_J7_fill_031fb W0 (none) (fun _ => [[(a0 0, .inl (G.2.1 0, N0, .inl (r)))]])) 0 0 [[(a0 0, .inl (G.2.1 0, N0, .inl (s0)))]] [some (.ref (a0 0)), some (.int x1), some (.int x2), some (.int x3)] 5 []) (x1 : Int32) (x2 : Int32) (x3 : Int32) (hf : f_J7_fill_031fb_H5 N0 s0 k5 x1 x2 x3 = some r) : zj_J l G M_J7_fill_031fb W0 (zj_ret G M_J7_fill_031fb W0 (none) (fun _ => [[(a0 0, .inl (G.2.1 0, N0, .inl (r)))]])) 0 0 [[(a0 0, .inl (G.2.1 0, N0, .inl (s0)))]] [some (.ref (a0 0)), some (.int x1), some (.int x2), some (.int x3)] 5 [] := by
  unfold f_J7_fill_031fb_H5 at hf
  refine zr_run [(.iload_n 2, 0, 0, 0, .null), (.iload_n 3, 0, 0, 0, .null)] [] (WW' := [[(a0 0, .inl (G.2.1 0, N0, .inl (s0)))]]) (lv' := [some (.ref (a0 0)), some (.int x1), some (.int x2), some (.int x3)]) (pc' := 7) (st' := [.int x3, .int x2]) (by decide +kernel) rfl rfl ⟨trivial, trivial, trivial⟩ ?_
  refine zr_icmp_ge (off := 13) (tgt := 20) (by decide +kernel) (by decide) (fun hc => ?_) (fun hc => ?_)
  · have hf := zift hf hc
    obtain ⟨h1, hf⟩ := zck_of hf
    obtain ⟨y2, e2, hf⟩ := zlet_of hf
    refine zr_run [(.aload_n 0, 0, 0, 0, .null), (.iload_n 2, 0, 0, 0, .null), (.iload_n 1, 0, 0, 0, .null), (.bastore, 0, 0, 0, .null)] [] (WW' := [[(a0 0, .inl (G.2.1 0, N0, .inl ((upd s0 x2.toNatClampNeg (vp_nar .byte x1)))))]]) (lv' := [some (.ref (a0 0)), some (.int x1), some (.int x2), some (.int x3)]) (pc' := 14) (st' := []) (by decide +kernel) rfl rfl ⟨trivial, trivial, trivial, ⟨rfl, rfl, h1⟩, trivial⟩ ?_
    refine zr_eq (WW2 := [[(a0 0, .inl (G.2.1 0, N0, .inl (y2)))]]) (lv2 := [some (.ref (a0 0)), some (.int x1), some (.int x2), some (.int x3)]) (st2 := []) (by rw [e2]) rfl rfl ?_
    refine zr_run [(.iinc 2 1, 0, 0, 0, .int (1 : Int32))] [] (WW' := [[(a0 0, .inl (G.2.1 0, N0, .inl (y2)))]]) (lv' := [some (.ref (a0 0)), some (.int x1), some (.int (x2 + (1 : Int32))), some (.int x3)]) (pc' := 17) (st' := []) (by decide +kernel) rfl rfl ⟨trivial, trivial⟩ ?_
    refine zr_goto (off := -12) (tgt := 5) (by decide +kernel) (by decide) ?_
    exact hk5 y2 x1 (x2 + (1 : Int32)) x3 hf
  · have hf := ziff hf hc
    obtain rfl := Option.some.inj hf
    exact zr_vret (b0 := fun _ => 0) (by decide +kernel) rfl rfl rfl rfl rfl
theorem t_J7_fill_031fb_L5 (l : Launch) (G : zj_G) (a0 : Nat → Nat) (N0 : Nat) (W0 : List va_W) (r : (Nat → Int32))    : ∀ (n : Nat) (s0 : (Nat → Int32)) (x1 : Int32) (x2 : Int32) (x3 : Int32), f_J7_fill_031fb_L5 N0 n s0 x1 x2 x3 = some r → zj_J l G M_J7_fill_031fb W0 (zj_ret G M_J7_fill_031fb W0 (none) (fun _ => [[(a0 0, .inl (G.2.1 0, N0, .inl (r)))]])) 0 0 [[(a0 0, .inl (G.2.1 0, N0, .inl (s0)))]] [some (.ref (a0 0)), some (.int x1), some (.int x2), some (.int x3)] 5 [] := by
  intro n
  induction n with
  | zero => intro s0 x1 x2 x3 hf; exact nomatch (show none = some r from hf)
  | succ n ih => intro s0 x1 x2 x3 hf; exact t_J7_fill_031fb_H5 l G a0 N0 W0 r s0  (f_J7_fill_031fb_L5 N0 n)  ih x1 x2 x3  hf
set_option maxRecDepth 100000 in
set_option maxHeartbeats 4000000 in
theorem c_J7_fill_031fb (l : Launch) (G : zj_G) (a0 : Nat → Nat) (N0 : Nat) (s0 : (Nat → Int32)) (x1 : Int32) (r : (Nat → Int32)) (hf : f_J7_fill_031fb N0 s0 x1 = some r) : zj_C l G M_J7_fill_031fb yJ7_fill_031fb [[(a0 0, .inl (G.2.1 0, N0, .inl (s0)))]] [.ref (a0 0), .int x1] (none) (fun _ => [[(a0 0, .inl (G.2.1 0, N0, .inl (r)))]]) := by
  have key : ∀ W0 : List va_W, zj_J l G M_J7_fill_031fb W0 (zj_ret G M_J7_fill_031fb W0 (none) (fun _ => [[(a0 0, .inl (G.2.1 0, N0, .inl (r)))]])) 0 0 [[(a0 0, .inl (G.2.1 0, N0, .inl (s0)))]] [some (.ref (a0 0)), some (.int x1), none, none] 0 [] := by
    intro W0
    unfold f_J7_fill_031fb at hf
    refine zr_run [(.iconst 0, 0, 0, 0, .int (0 : Int32)), (.istore_n 2, 0, 0, 0, .null), (.aload_n 0, 0, 0, 0, .null)] [] (WW' := [[(a0 0, .inl (G.2.1 0, N0, .inl (s0)))]]) (lv' := [some (.ref (a0 0)), some (.int x1), some (.int (0 : Int32)), none]) (pc' := 3) (st' := [.ref (a0 0)]) (by decide +kernel) rfl rfl ⟨trivial, trivial, trivial, trivial⟩ ?_
    refine zr_alenB (b := 0) (c' := 0) rfl rfl rfl (by decide +kernel) ?_
    refine zr_run [(.istore_n 3, 0, 0, 0, .null)] [] (WW' := [[(a0 0, .inl (G.2.1 0, N0, .inl (s0)))]]) (lv' := [some (.ref (a0 0)), some (.int x1), some (.int (0 : Int32)), some (.int (nI N0))]) (pc' := 5) (st' := []) (by decide +kernel) rfl rfl ⟨trivial, trivial⟩ ?_
    exact t_J7_fill_031fb_L5 l G a0 N0 W0 r zFU s0 x1 (0 : Int32) (nI N0) hf
  exact zj_entry [some (.ref (a0 0)), some (.int x1), none, none] (by decide +kernel) rfl (by decide) (Nat.le_of_ble_eq_true rfl) rfl rfl (key _)
def M_J7_fill_53178 : zj_M := (RJ7, cJ7_fill_53178, 4, none, { frames := 0, cells := 0, slots := 0, locals := 0 }, false)
theorem nm_J7_fill_53178 : zj_nm yJ7_fill_53178 2 := ⟨by decide +kernel, by decide +kernel, by decide +kernel⟩
def f_J7_fill_53178_H5 (N0 : Nat) (s0 : (Nat → Int32)) (k5 : (Nat → Int32) → Int32 → Int32 → Int32 → Option ((Nat → Int32))) (x1 : Int32) (x2 : Int32) (x3 : Int32) : Option ((Nat → Int32)) := (if x2 < x3 then (if zb_in x2 N0 = true then (zlet (upd s0 x2.toNatClampNeg x1) fun y2 => k5 y2 x1 (x2 + (1 : Int32)) x3) else none) else some s0)
def f_J7_fill_53178_L5 (N0 : Nat)   : Nat → (Nat → Int32) → Int32 → Int32 → Int32 → Option ((Nat → Int32))
  | 0 => fun _ _ _ _ => none
  | n + 1 => fun s0 x1 x2 x3 => f_J7_fill_53178_H5 N0 s0 (f_J7_fill_53178_L5 N0  n) x1 x2 x3
def f_J7_fill_53178 (N0 : Nat) (s0 : (Nat → Int32)) (x1 : Int32) : Option ((Nat → Int32)) := f_J7_fill_53178_L5 N0 zFU s0 x1 (0 : Int32) (nI N0)
set_option maxRecDepth 100000 in
set_option maxHeartbeats 4000000 in
theorem t_J7_fill_53178_H5 (l : Launch) (G : zj_G) (a0 : Nat → Nat) (N0 : Nat) (W0 : List va_W) (r : (Nat → Int32)) (s0 : (Nat → Int32)) (k5 : (Nat → Int32) → Int32 → Int32 → Int32 → Option ((Nat → Int32))) (hk5 : ∀ (s0 : (Nat → Int32)) (x1 : Int32) (x2 : Int32) (x3 : Int32), k5 s0 x1 x2 x3 = some r → zj_J l G M_J7_fill_53178 W0 (zj_ret G M_J7_fill_53178 W0 (none) (fun _ => [[(a0 0, .inl (G.2.1 1, N0, .inl (r)))]])) 0 0 [[(a0 0, .inl (G.2.1 1, N0, .inl (s0)))]] [some (.ref (a0 0)), some (.int x1), some (.int x2), some (.int x3)] 5 []) (x1 : Int32) (x2 : Int32) (x3 : Int32) (hf : f_J7_fill_53178_H5 N0 s0 k5 x1 x2 x3 = some r) : zj_J l G M_J7_fill_53178 W0 (zj_ret G M_J7_fill_53178 W0 (none) (fun _ => [[(a0 0, .inl (G.2.1 1, N0, .inl (r)))]])) 0 0 [[(a0 0, .inl (G.2.1 1, N0, .inl (s0)))]] [some (.ref (a0 0)), some (.int x1), some (.int x2), some (.int x3)] 5 [] := by
  unfold f_J7_fill_53178_H5 at hf
  refine zr_run [(.iload_n 2, 0, 0, 0, .null), (.iload_n 3, 0, 0, 0, .null)] [] (WW' := [[(a0 0, .inl (G.2.1 1, N0, .inl (s0)))]]) (lv' := [some (.ref (a0 0)), some (.int x1), some (.int x2), some (.int x3)]) (pc' := 7) (st' := [.int x3, .int x2]) (by decide +kernel) rfl rfl ⟨trivial, trivial, trivial⟩ ?_
  refine zr_icmp_ge (off := 13) (tgt := 20) (by decide +kernel) (by decide) (fun hc => ?_) (fun hc => ?_)
  · have hf := zift hf hc
    obtain ⟨h1, hf⟩ := zck_of hf
    obtain ⟨y2, e2, hf⟩ := zlet_of hf
    refine zr_run [(.aload_n 0, 0, 0, 0, .null), (.iload_n 2, 0, 0, 0, .null), (.iload_n 1, 0, 0, 0, .null), (.iastore, 0, 0, 0, .null)] [] (WW' := [[(a0 0, .inl (G.2.1 1, N0, .inl ((upd s0 x2.toNatClampNeg x1))))]]) (lv' := [some (.ref (a0 0)), some (.int x1), some (.int x2), some (.int x3)]) (pc' := 14) (st' := []) (by decide +kernel) rfl rfl ⟨trivial, trivial, trivial, ⟨rfl, rfl, h1⟩, trivial⟩ ?_
    refine zr_eq (WW2 := [[(a0 0, .inl (G.2.1 1, N0, .inl (y2)))]]) (lv2 := [some (.ref (a0 0)), some (.int x1), some (.int x2), some (.int x3)]) (st2 := []) (by rw [e2]) rfl rfl ?_
    refine zr_run [(.iinc 2 1, 0, 0, 0, .int (1 : Int32))] [] (WW' := [[(a0 0, .inl (G.2.1 1, N0, .inl (y2)))]]) (lv' := [some (.ref (a0 0)), some (.int x1), some (.int (x2 + (1 : Int32))), some (.int x3)]) (pc' := 17) (st' := []) (by decide +kernel) rfl rfl ⟨trivial, trivial⟩ ?_
    refine zr_goto (off := -12) (tgt := 5) (by decide +kernel) (by decide) ?_
    exact hk5 y2 x1 (x2 + (1 : Int32)) x3 hf
  · have hf := ziff hf hc
    obtain rfl := Option.some.inj hf
    exact zr_vret (b0 := fun _ => 0) (by decide +kernel) rfl rfl rfl rfl rfl
theorem t_J7_fill_53178_L5 (l : Launch) (G : zj_G) (a0 : Nat → Nat) (N0 : Nat) (W0 : List va_W) (r : (Nat → Int32))    : ∀ (n : Nat) (s0 : (Nat → Int32)) (x1 : Int32) (x2 : Int32) (x3 : Int32), f_J7_fill_53178_L5 N0 n s0 x1 x2 x3 = some r → zj_J l G M_J7_fill_53178 W0 (zj_ret G M_J7_fill_53178 W0 (none) (fun _ => [[(a0 0, .inl (G.2.1 1, N0, .inl (r)))]])) 0 0 [[(a0 0, .inl (G.2.1 1, N0, .inl (s0)))]] [some (.ref (a0 0)), some (.int x1), some (.int x2), some (.int x3)] 5 [] := by
  intro n
  induction n with
  | zero => intro s0 x1 x2 x3 hf; exact nomatch (show none = some r from hf)
  | succ n ih => intro s0 x1 x2 x3 hf; exact t_J7_fill_53178_H5 l G a0 N0 W0 r s0  (f_J7_fill_53178_L5 N0 n)  ih x1 x2 x3  hf
set_option maxRecDepth 100000 in
set_option maxHeartbeats 4000000 in
theorem c_J7_fill_53178 (l : Launch) (G : zj_G) (a0 : Nat → Nat) (N0 : Nat) (s0 : (Nat → Int32)) (x1 : Int32) (r : (Nat → Int32)) (hf : f_J7_fill_53178 N0 s0 x1 = some r) : zj_C l G M_J7_fill_53178 yJ7_fill_53178 [[(a0 0, .inl (G.2.1 1, N0, .inl (s0)))]] [.ref (a0 0), .int x1] (none) (fun _ => [[(a0 0, .inl (G.2.1 1, N0, .inl (r)))]]) := by
  have key : ∀ W0 : List va_W, zj_J l G M_J7_fill_53178 W0 (zj_ret G M_J7_fill_53178 W0 (none) (fun _ => [[(a0 0, .inl (G.2.1 1, N0, .inl (r)))]])) 0 0 [[(a0 0, .inl (G.2.1 1, N0, .inl (s0)))]] [some (.ref (a0 0)), some (.int x1), none, none] 0 [] := by
    intro W0
    unfold f_J7_fill_53178 at hf
    refine zr_run [(.iconst 0, 0, 0, 0, .int (0 : Int32)), (.istore_n 2, 0, 0, 0, .null), (.aload_n 0, 0, 0, 0, .null)] [] (WW' := [[(a0 0, .inl (G.2.1 1, N0, .inl (s0)))]]) (lv' := [some (.ref (a0 0)), some (.int x1), some (.int (0 : Int32)), none]) (pc' := 3) (st' := [.ref (a0 0)]) (by decide +kernel) rfl rfl ⟨trivial, trivial, trivial, trivial⟩ ?_
    refine zr_alenI (b := 0) (c' := 0) rfl rfl rfl (by decide +kernel) ?_
    refine zr_run [(.istore_n 3, 0, 0, 0, .null)] [] (WW' := [[(a0 0, .inl (G.2.1 1, N0, .inl (s0)))]]) (lv' := [some (.ref (a0 0)), some (.int x1), some (.int (0 : Int32)), some (.int (nI N0))]) (pc' := 5) (st' := []) (by decide +kernel) rfl rfl ⟨trivial, trivial⟩ ?_
    exact t_J7_fill_53178_L5 l G a0 N0 W0 r zFU s0 x1 (0 : Int32) (nI N0) hf
  exact zj_entry [some (.ref (a0 0)), some (.int x1), none, none] (by decide +kernel) rfl (by decide) (Nat.le_of_ble_eq_true rfl) rfl rfl (key _)
def M_J7_fill_d0a16 : zj_M := (RJ7, cJ7_fill_d0a16, 5, none, { frames := 0, cells := 0, slots := 0, locals := 0 }, false)
theorem nm_J7_fill_d0a16 : zj_nm yJ7_fill_d0a16 2 := ⟨by decide +kernel, by decide +kernel, by decide +kernel⟩
def f_J7_fill_d0a16_H6 (N0 : Nat) (s0 : (Nat → Int64)) (k6 : (Nat → Int64) → Int64 → Int32 → Int32 → Option ((Nat → Int64))) (x1 : Int64) (x3 : Int32) (x4 : Int32) : Option ((Nat → Int64)) := (if x3 < x4 then (if zb_in x3 N0 = true then (zlet (vp_updL s0 x3.toNatClampNeg x1) fun y2 => k6 y2 x1 (x3 + (1 : Int32)) x4) else none) else some s0)
def f_J7_fill_d0a16_L6 (N0 : Nat)   : Nat → (Nat → Int64) → Int64 → Int32 → Int32 → Option ((Nat → Int64))
  | 0 => fun _ _ _ _ => none
  | n + 1 => fun s0 x1 x3 x4 => f_J7_fill_d0a16_H6 N0 s0 (f_J7_fill_d0a16_L6 N0  n) x1 x3 x4
def f_J7_fill_d0a16 (N0 : Nat) (s0 : (Nat → Int64)) (x1 : Int64) : Option ((Nat → Int64)) := f_J7_fill_d0a16_L6 N0 zFU s0 x1 (0 : Int32) (nI N0)
set_option maxRecDepth 100000 in
set_option maxHeartbeats 4000000 in
theorem t_J7_fill_d0a16_H6 (l : Launch) (G : zj_G) (a0 : Nat → Nat) (N0 : Nat) (W0 : List va_W) (r : (Nat → Int64)) (s0 : (Nat → Int64)) (k6 : (Nat → Int64) → Int64 → Int32 → Int32 → Option ((Nat → Int64))) (hk6 : ∀ (s0 : (Nat → Int64)) (x1 : Int64) (x3 : Int32) (x4 : Int32), k6 s0 x1 x3 x4 = some r → zj_J l G M_J7_fill_d0a16 W0 (zj_ret G M_J7_fill_d0a16 W0 (none) (fun _ => [[(a0 0, .inl (G.2.1 2, N0, .inr (.inl (r))))]])) 0 0 [[(a0 0, .inl (G.2.1 2, N0, .inr (.inl (s0))))]] [some (.ref (a0 0)), some (.long x1), none, some (.int x3), some (.int x4)] 6 []) (x1 : Int64) (x3 : Int32) (x4 : Int32) (hf : f_J7_fill_d0a16_H6 N0 s0 k6 x1 x3 x4 = some r) : zj_J l G M_J7_fill_d0a16 W0 (zj_ret G M_J7_fill_d0a16 W0 (none) (fun _ => [[(a0 0, .inl (G.2.1 2, N0, .inr (.inl (r))))]])) 0 0 [[(a0 0, .inl (G.2.1 2, N0, .inr (.inl (s0))))]] [some (.ref (a0 0)), some (.long x1), none, some (.int x3), some (.int x4)] 6 [] := by
  unfold f_J7_fill_d0a16_H6 at hf
  refine zr_run [(.iload_n 3, 0, 0, 0, .null), (.iload 4, 0, 0, 0, .null)] [] (WW' := [[(a0 0, .inl (G.2.1 2, N0, .inr (.inl (s0))))]]) (lv' := [some (.ref (a0 0)), some (.long x1), none, some (.int x3), some (.int x4)]) (pc' := 9) (st' := [.int x4, .int x3]) (by decide +kernel) rfl rfl ⟨trivial, trivial, trivial⟩ ?_
  refine zr_icmp_ge (off := 13) (tgt := 22) (by decide +kernel) (by decide) (fun hc => ?_) (fun hc => ?_)
  · have hf := zift hf hc
    obtain ⟨h1, hf⟩ := zck_of hf
    obtain ⟨y2, e2, hf⟩ := zlet_of hf
    refine zr_run [(.aload_n 0, 0, 0, 0, .null), (.iload_n 3, 0, 0, 0, .null), (.lload_n 1, 0, 0, 0, .null), (.lastore, 0, 0, 0, .null)] [] (WW' := [[(a0 0, .inl (G.2.1 2, N0, .inr (.inl ((vp_updL s0 x3.toNatClampNeg x1)))))]]) (lv' := [some (.ref (a0 0)), some (.long x1), none, some (.int x3), some (.int x4)]) (pc' := 16) (st' := []) (by decide +kernel) rfl rfl ⟨trivial, trivial, trivial, ⟨rfl, rfl, h1⟩, trivial⟩ ?_
    refine zr_eq (WW2 := [[(a0 0, .inl (G.2.1 2, N0, .inr (.inl (y2))))]]) (lv2 := [some (.ref (a0 0)), some (.long x1), none, some (.int x3), some (.int x4)]) (st2 := []) (by rw [e2]) rfl rfl ?_
    refine zr_run [(.iinc 3 1, 0, 0, 0, .int (1 : Int32))] [] (WW' := [[(a0 0, .inl (G.2.1 2, N0, .inr (.inl (y2))))]]) (lv' := [some (.ref (a0 0)), some (.long x1), none, some (.int (x3 + (1 : Int32))), some (.int x4)]) (pc' := 19) (st' := []) (by decide +kernel) rfl rfl ⟨trivial, trivial⟩ ?_
    refine zr_goto (off := -13) (tgt := 6) (by decide +kernel) (by decide) ?_
    exact hk6 y2 x1 (x3 + (1 : Int32)) x4 hf
  · have hf := ziff hf hc
    obtain rfl := Option.some.inj hf
    exact zr_vret (b0 := fun _ => 0) (by decide +kernel) rfl rfl rfl rfl rfl
theorem t_J7_fill_d0a16_L6 (l : Launch) (G : zj_G) (a0 : Nat → Nat) (N0 : Nat) (W0 : List va_W) (r : (Nat → Int64))    : ∀ (n : Nat) (s0 : (Nat → Int64)) (x1 : Int64) (x3 : Int32) (x4 : Int32), f_J7_fill_d0a16_L6 N0 n s0 x1 x3 x4 = some r → zj_J l G M_J7_fill_d0a16 W0 (zj_ret G M_J7_fill_d0a16 W0 (none) (fun _ => [[(a0 0, .inl (G.2.1 2, N0, .inr (.inl (r))))]])) 0 0 [[(a0 0, .inl (G.2.1 2, N0, .inr (.inl (s0))))]] [some (.ref (a0 0)), some (.long x1), none, some (.int x3), some (.int x4)] 6 [] := by
  intro n
  induction n with
  | zero => intro s0 x1 x3 x4 hf; exact nomatch (show none = some r from hf)
  | succ n ih => intro s0 x1 x3 x4 hf; exact t_J7_fill_d0a16_H6 l G a0 N0 W0 r s0  (f_J7_fill_d0a16_L6 N0 n)  ih x1 x3 x4  hf
set_option maxRecDepth 100000 in
set_option maxHeartbeats 4000000 in
theorem c_J7_fill_d0a16 (l : Launch) (G : zj_G) (a0 : Nat → Nat) (N0 : Nat) (s0 : (Nat → Int64)) (x1 : Int64) (r : (Nat → Int64)) (hf : f_J7_fill_d0a16 N0 s0 x1 = some r) : zj_C l G M_J7_fill_d0a16 yJ7_fill_d0a16 [[(a0 0, .inl (G.2.1 2, N0, .inr (.inl (s0))))]] [.ref (a0 0), .long x1] (none) (fun _ => [[(a0 0, .inl (G.2.1 2, N0, .inr (.inl (r))))]]) := by
  have key : ∀ W0 : List va_W, zj_J l G M_J7_fill_d0a16 W0 (zj_ret G M_J7_fill_d0a16 W0 (none) (fun _ => [[(a0 0, .inl (G.2.1 2, N0, .inr (.inl (r))))]])) 0 0 [[(a0 0, .inl (G.2.1 2, N0, .inr (.inl (s0))))]] [some (.ref (a0 0)), some (.long x1), none, none, none] 0 [] := by
    intro W0
    unfold f_J7_fill_d0a16 at hf
    refine zr_run [(.iconst 0, 0, 0, 0, .int (0 : Int32)), (.istore_n 3, 0, 0, 0, .null), (.aload_n 0, 0, 0, 0, .null)] [] (WW' := [[(a0 0, .inl (G.2.1 2, N0, .inr (.inl (s0))))]]) (lv' := [some (.ref (a0 0)), some (.long x1), none, some (.int (0 : Int32)), none]) (pc' := 3) (st' := [.ref (a0 0)]) (by decide +kernel) rfl rfl ⟨trivial, trivial, trivial, trivial⟩ ?_
    refine zr_alenJ (b := 0) (c' := 0) rfl rfl rfl (by decide +kernel) ?_
    refine zr_run [(.istore 4, 0, 0, 0, .null)] [] (WW' := [[(a0 0, .inl (G.2.1 2, N0, .inr (.inl (s0))))]]) (lv' := [some (.ref (a0 0)), some (.long x1), none, some (.int (0 : Int32)), some (.int (nI N0))]) (pc' := 6) (st' := []) (by decide +kernel) rfl rfl ⟨trivial, trivial⟩ ?_
    exact t_J7_fill_d0a16_L6 l G a0 N0 W0 r zFU s0 x1 (0 : Int32) (nI N0) hf
  exact zj_entry [some (.ref (a0 0)), some (.long x1), none, none, none] (by decide +kernel) rfl (by decide) (Nat.le_of_ble_eq_true rfl) rfl rfl (key _)
