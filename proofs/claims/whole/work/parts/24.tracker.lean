def M_X10_goesOnTo : zj_M := (RX10, cX10_goesOnTo, 5, (some .boolean), { frames := 0, cells := 0, slots := 0, locals := 0 }, false)
theorem nm_X10_goesOnTo : zj_nm yX10_goesOnTo 2 := ⟨by decide +kernel, by decide +kernel, by decide +kernel⟩
def f_X10_goesOnTo_H2  (s0 : TrT) (k2 : Int32 → Int32 → Int32 → Option (Int32)) (x1 : Int32) (x2 : Int32) (x3 : Int32) : Option (Int32) := (if x3 < x1 then (if zb_in (x3 + (1 : Int32)) 20 = true then (if zb_in x3 20 = true then (zlet (((Tr_seen s0) (x3 + (1 : Int32)).toNatClampNeg) - ((Tr_seen s0) x3.toNatClampNeg)) fun y3 => (if y3 < 0 then some (0 : Int32) else (if x2 < y3 then some (0 : Int32) else k2 x1 x2 (x3 + (1 : Int32))))) else none) else none) else some (1 : Int32))
def f_X10_goesOnTo_L2  (s0 : TrT)  : Nat → Int32 → Int32 → Int32 → Option (Int32)
  | 0 => fun _ _ _ => none
  | n + 1 => fun x1 x2 x3 => f_X10_goesOnTo_H2 s0 (f_X10_goesOnTo_L2 s0 n) x1 x2 x3
def f_X10_goesOnTo  (s0 : TrT) (x1 : Int32) (x2 : Int32) : Option (Int32) := f_X10_goesOnTo_L2 s0 zFU x1 x2 (0 : Int32)
set_option maxRecDepth 100000 in
set_option maxHeartbeats 4000000 in
theorem t_X10_goesOnTo_H2 (l : Launch) (G : zj_G) (a0 : Nat → Nat) (W0 : List va_W) (r : Int32) (s0 : TrT) (k2 : Int32 → Int32 → Int32 → Option (Int32)) (hk2 : ∀ (x1 : Int32) (x2 : Int32) (x3 : Int32), k2 x1 x2 x3 = some r → zj_J l G M_X10_goesOnTo W0 (zj_ret G M_X10_goesOnTo W0 (some (.int r)) (fun _ => [w_Tr G a0 s0])) 0 0 [w_Tr G a0 s0] [some (.ref (a0 0)), some (.int x1), some (.int x2), some (.int x3), none] 2 []) (x1 : Int32) (x2 : Int32) (x3 : Int32) (hf : f_X10_goesOnTo_H2 s0 k2 x1 x2 x3 = some r) : zj_J l G M_X10_goesOnTo W0 (zj_ret G M_X10_goesOnTo W0 (some (.int r)) (fun _ => [w_Tr G a0 s0])) 0 0 [w_Tr G a0 s0] [some (.ref (a0 0)), some (.int x1), some (.int x2), some (.int x3), none] 2 [] := by
  unfold f_X10_goesOnTo_H2 at hf
  refine zr_run [(.iload_n 3, 0, 0, 0, .null), (.iload_n 1, 0, 0, 0, .null)] [] (WW' := [w_Tr G a0 s0]) (lv' := [some (.ref (a0 0)), some (.int x1), some (.int x2), some (.int x3), none]) (pc' := 4) (st' := [.int x1, .int x3]) (by decide +kernel) rfl rfl ⟨trivial, trivial, trivial⟩ ?_
  refine zr_icmp_ge (off := 39) (tgt := 43) (by decide +kernel) (by decide) (fun hc => ?_) (fun hc => ?_)
  · have hf := zift hf hc
    obtain ⟨h1, hf⟩ := zck_of hf
    obtain ⟨h2, hf⟩ := zck_of hf
    obtain ⟨y3, e3, hf⟩ := zlet_of hf
    refine zr_run [(.aload_n 0, 0, 0, 0, .null), (.getfield 18, 0, 0, 2, .null), (.iload_n 3, 0, 0, 0, .null), (.iconst 1, 0, 0, 0, .int (1 : Int32)), (.iadd, 0, 0, 0, .null), (.iaload, 0, 1, 0, .null), (.aload_n 0, 0, 0, 0, .null), (.getfield 18, 0, 0, 2, .null), (.iload_n 3, 0, 0, 0, .null), (.iaload, 0, 1, 0, .null), (.isub, 0, 0, 0, .null), (.istore 4, 0, 0, 0, .null)] [] (WW' := [w_Tr G a0 s0]) (lv' := [some (.ref (a0 0)), some (.int x1), some (.int x2), some (.int x3), some (.int (((Tr_seen s0) (x3 + (1 : Int32)).toNatClampNeg) - ((Tr_seen s0) x3.toNatClampNeg)))]) (pc' := 24) (st' := []) (by decide +kernel) rfl rfl ⟨trivial, ⟨rfl, rfl, zw_2_138⟩, trivial, trivial, trivial, ⟨rfl, rfl, h1⟩, trivial, ⟨rfl, rfl, zw_2_138⟩, trivial, ⟨rfl, rfl, h2⟩, trivial, trivial, trivial⟩ ?_
    refine zr_eq (WW2 := [w_Tr G a0 s0]) (lv2 := [some (.ref (a0 0)), some (.int x1), some (.int x2), some (.int x3), some (.int y3)]) (st2 := []) rfl (by rw [e3]) rfl ?_
    refine zr_run [(.iload 4, 0, 0, 0, .null)] [] (WW' := [w_Tr G a0 s0]) (lv' := [some (.ref (a0 0)), some (.int x1), some (.int x2), some (.int x3), some (.int y3)]) (pc' := 26) (st' := [.int y3]) (by decide +kernel) rfl rfl ⟨trivial, trivial⟩ ?_
    refine zr_if_lt (off := 9) (tgt := 35) (by decide +kernel) (by decide) (fun hc => ?_) (fun hc => ?_)
    · have hf := zift hf hc
      refine zr_run [(.iconst 0, 0, 0, 0, .int (0 : Int32))] [] (WW' := [w_Tr G a0 s0]) (lv' := [some (.ref (a0 0)), some (.int x1), some (.int x2), some (.int x3), some (.int y3)]) (pc' := 36) (st' := [.int (0 : Int32)]) (by decide +kernel) rfl rfl ⟨trivial, trivial⟩ ?_
      obtain rfl := Option.some.inj hf
      exact zr_zret (by decide) (b0 := fun _ => 0) (by decide +kernel) rfl rfl rfl rfl rfl
    · have hf := ziff hf hc
      refine zr_run [(.iload 4, 0, 0, 0, .null), (.iload_n 2, 0, 0, 0, .null)] [] (WW' := [w_Tr G a0 s0]) (lv' := [some (.ref (a0 0)), some (.int x1), some (.int x2), some (.int x3), some (.int y3)]) (pc' := 32) (st' := [.int x2, .int y3]) (by decide +kernel) rfl rfl ⟨trivial, trivial, trivial⟩ ?_
      refine zr_icmp_le (off := 5) (tgt := 37) (by decide +kernel) (by decide) (fun hc => ?_) (fun hc => ?_)
      · have hf := zift hf hc
        refine zr_run [(.iconst 0, 0, 0, 0, .int (0 : Int32))] [] (WW' := [w_Tr G a0 s0]) (lv' := [some (.ref (a0 0)), some (.int x1), some (.int x2), some (.int x3), some (.int y3)]) (pc' := 36) (st' := [.int (0 : Int32)]) (by decide +kernel) rfl rfl ⟨trivial, trivial⟩ ?_
        obtain rfl := Option.some.inj hf
        exact zr_zret (by decide) (b0 := fun _ => 0) (by decide +kernel) rfl rfl rfl rfl rfl
      · have hf := ziff hf hc
        refine zr_run [(.iinc 3 1, 0, 0, 0, .int (1 : Int32))] [] (WW' := [w_Tr G a0 s0]) (lv' := [some (.ref (a0 0)), some (.int x1), some (.int x2), some (.int (x3 + (1 : Int32))), some (.int y3)]) (pc' := 40) (st' := []) (by decide +kernel) rfl rfl ⟨trivial, trivial⟩ ?_
        refine zr_run [] [4] (WW' := [w_Tr G a0 s0]) (lv' := [some (.ref (a0 0)), some (.int x1), some (.int x2), some (.int (x3 + (1 : Int32))), none]) (pc' := 40) (st' := []) (by decide +kernel) rfl rfl trivial ?_
        refine zr_goto (off := -38) (tgt := 2) (by decide +kernel) (by decide) ?_
        exact hk2 x1 x2 (x3 + (1 : Int32)) hf
  · have hf := ziff hf hc
    refine zr_run [(.iconst 1, 0, 0, 0, .int (1 : Int32))] [] (WW' := [w_Tr G a0 s0]) (lv' := [some (.ref (a0 0)), some (.int x1), some (.int x2), some (.int x3), none]) (pc' := 44) (st' := [.int (1 : Int32)]) (by decide +kernel) rfl rfl ⟨trivial, trivial⟩ ?_
    obtain rfl := Option.some.inj hf
    exact zr_zret (by decide) (b0 := fun _ => 0) (by decide +kernel) rfl rfl rfl rfl rfl
theorem t_X10_goesOnTo_L2 (l : Launch) (G : zj_G) (a0 : Nat → Nat) (W0 : List va_W) (r : Int32) (s0 : TrT)   : ∀ (n : Nat) (x1 : Int32) (x2 : Int32) (x3 : Int32), f_X10_goesOnTo_L2 s0 n x1 x2 x3 = some r → zj_J l G M_X10_goesOnTo W0 (zj_ret G M_X10_goesOnTo W0 (some (.int r)) (fun _ => [w_Tr G a0 s0])) 0 0 [w_Tr G a0 s0] [some (.ref (a0 0)), some (.int x1), some (.int x2), some (.int x3), none] 2 [] := by
  intro n
  induction n with
  | zero => intro x1 x2 x3 hf; exact nomatch (show none = some r from hf)
  | succ n ih => intro x1 x2 x3 hf; exact t_X10_goesOnTo_H2 l G a0 W0 r s0  (f_X10_goesOnTo_L2 s0 n)  ih x1 x2 x3  hf
set_option maxRecDepth 100000 in
set_option maxHeartbeats 4000000 in
theorem c_X10_goesOnTo (l : Launch) (G : zj_G) (a0 : Nat → Nat) (s0 : TrT) (x1 : Int32) (x2 : Int32) (r : Int32) (hf : f_X10_goesOnTo s0 x1 x2 = some r) : zj_C l G M_X10_goesOnTo yX10_goesOnTo [w_Tr G a0 s0] [.ref (a0 0), .int x1, .int x2] (some (.int r)) (fun _ => [w_Tr G a0 s0]) := by
  have key : ∀ W0 : List va_W, zj_J l G M_X10_goesOnTo W0 (zj_ret G M_X10_goesOnTo W0 (some (.int r)) (fun _ => [w_Tr G a0 s0])) 0 0 [w_Tr G a0 s0] [some (.ref (a0 0)), some (.int x1), some (.int x2), none, none] 0 [] := by
    intro W0
    unfold f_X10_goesOnTo at hf
    refine zr_run [(.iconst 0, 0, 0, 0, .int (0 : Int32)), (.istore_n 3, 0, 0, 0, .null)] [] (WW' := [w_Tr G a0 s0]) (lv' := [some (.ref (a0 0)), some (.int x1), some (.int x2), some (.int (0 : Int32)), none]) (pc' := 2) (st' := []) (by decide +kernel) rfl rfl ⟨trivial, trivial, trivial⟩ ?_
    exact t_X10_goesOnTo_L2 l G a0 W0 r s0 zFU x1 x2 (0 : Int32) hf
  exact zj_entry [some (.ref (a0 0)), some (.int x1), some (.int x2), none, none] (by decide +kernel) rfl (by decide) (Nat.le_of_ble_eq_true rfl) rfl rfl (key _)
def M_X10_goesBackFrom : zj_M := (RX10, cX10_goesBackFrom, 6, (some .boolean), { frames := 0, cells := 0, slots := 0, locals := 0 }, false)
theorem nm_X10_goesBackFrom : zj_nm yX10_goesBackFrom 3 := ⟨by decide +kernel, by decide +kernel, by decide +kernel⟩
def f_X10_goesBackFrom_H3  (s0 : TrT) (k3 : Int32 → Int32 → Int32 → Option (Int32)) (x2 : Int32) (x3 : Int32) (x4 : Int32) : Option (Int32) := (if (x4 + (1 : Int32)) < x2 then (if zb_in x4 20 = true then (if zb_in (x4 + (1 : Int32)) 20 = true then (zlet (((Tr_seen s0) x4.toNatClampNeg) - ((Tr_seen s0) (x4 + (1 : Int32)).toNatClampNeg)) fun y3 => (if y3 < 0 then some (0 : Int32) else (if x3 < y3 then some (0 : Int32) else k3 x2 x3 (x4 + (1 : Int32))))) else none) else none) else some (1 : Int32))
def f_X10_goesBackFrom_L3  (s0 : TrT)  : Nat → Int32 → Int32 → Int32 → Option (Int32)
  | 0 => fun _ _ _ => none
  | n + 1 => fun x2 x3 x4 => f_X10_goesBackFrom_H3 s0 (f_X10_goesBackFrom_L3 s0 n) x2 x3 x4
def f_X10_goesBackFrom  (s0 : TrT) (x1 : Int32) (x2 : Int32) (x3 : Int32) : Option (Int32) := f_X10_goesBackFrom_L3 s0 zFU x2 x3 x1
set_option maxRecDepth 100000 in
set_option maxHeartbeats 4000000 in
theorem t_X10_goesBackFrom_H3 (l : Launch) (G : zj_G) (a0 : Nat → Nat) (W0 : List va_W) (r : Int32) (s0 : TrT) (k3 : Int32 → Int32 → Int32 → Option (Int32)) (hk3 : ∀ (x2 : Int32) (x3 : Int32) (x4 : Int32), k3 x2 x3 x4 = some r → zj_J l G M_X10_goesBackFrom W0 (zj_ret G M_X10_goesBackFrom W0 (some (.int r)) (fun _ => [w_Tr G a0 s0])) 0 0 [w_Tr G a0 s0] [some (.ref (a0 0)), none, some (.int x2), some (.int x3), some (.int x4), none] 3 []) (x2 : Int32) (x3 : Int32) (x4 : Int32) (hf : f_X10_goesBackFrom_H3 s0 k3 x2 x3 x4 = some r) : zj_J l G M_X10_goesBackFrom W0 (zj_ret G M_X10_goesBackFrom W0 (some (.int r)) (fun _ => [w_Tr G a0 s0])) 0 0 [w_Tr G a0 s0] [some (.ref (a0 0)), none, some (.int x2), some (.int x3), some (.int x4), none] 3 [] := by
  unfold f_X10_goesBackFrom_H3 at hf
  refine zr_run [(.iload 4, 0, 0, 0, .null), (.iconst 1, 0, 0, 0, .int (1 : Int32)), (.iadd, 0, 0, 0, .null), (.iload_n 2, 0, 0, 0, .null)] [] (WW' := [w_Tr G a0 s0]) (lv' := [some (.ref (a0 0)), none, some (.int x2), some (.int x3), some (.int x4), none]) (pc' := 8) (st' := [.int x2, .int (x4 + (1 : Int32))]) (by decide +kernel) rfl rfl ⟨trivial, trivial, trivial, trivial, trivial⟩ ?_
  refine zr_icmp_ge (off := 41) (tgt := 49) (by decide +kernel) (by decide) (fun hc => ?_) (fun hc => ?_)
  · have hf := zift hf hc
    obtain ⟨h1, hf⟩ := zck_of hf
    obtain ⟨h2, hf⟩ := zck_of hf
    obtain ⟨y3, e3, hf⟩ := zlet_of hf
    refine zr_run [(.aload_n 0, 0, 0, 0, .null), (.getfield 18, 0, 0, 2, .null), (.iload 4, 0, 0, 0, .null), (.iaload, 0, 1, 0, .null), (.aload_n 0, 0, 0, 0, .null), (.getfield 18, 0, 0, 2, .null), (.iload 4, 0, 0, 0, .null), (.iconst 1, 0, 0, 0, .int (1 : Int32)), (.iadd, 0, 0, 0, .null), (.iaload, 0, 1, 0, .null), (.isub, 0, 0, 0, .null), (.istore 5, 0, 0, 0, .null)] [] (WW' := [w_Tr G a0 s0]) (lv' := [some (.ref (a0 0)), none, some (.int x2), some (.int x3), some (.int x4), some (.int (((Tr_seen s0) x4.toNatClampNeg) - ((Tr_seen s0) (x4 + (1 : Int32)).toNatClampNeg)))]) (pc' := 30) (st' := []) (by decide +kernel) rfl rfl ⟨trivial, ⟨rfl, rfl, zw_2_138⟩, trivial, ⟨rfl, rfl, h1⟩, trivial, ⟨rfl, rfl, zw_2_138⟩, trivial, trivial, trivial, ⟨rfl, rfl, h2⟩, trivial, trivial, trivial⟩ ?_
    refine zr_eq (WW2 := [w_Tr G a0 s0]) (lv2 := [some (.ref (a0 0)), none, some (.int x2), some (.int x3), some (.int x4), some (.int y3)]) (st2 := []) rfl (by rw [e3]) rfl ?_
    refine zr_run [(.iload 5, 0, 0, 0, .null)] [] (WW' := [w_Tr G a0 s0]) (lv' := [some (.ref (a0 0)), none, some (.int x2), some (.int x3), some (.int x4), some (.int y3)]) (pc' := 32) (st' := [.int y3]) (by decide +kernel) rfl rfl ⟨trivial, trivial⟩ ?_
    refine zr_if_lt (off := 9) (tgt := 41) (by decide +kernel) (by decide) (fun hc => ?_) (fun hc => ?_)
    · have hf := zift hf hc
      refine zr_run [(.iconst 0, 0, 0, 0, .int (0 : Int32))] [] (WW' := [w_Tr G a0 s0]) (lv' := [some (.ref (a0 0)), none, some (.int x2), some (.int x3), some (.int x4), some (.int y3)]) (pc' := 42) (st' := [.int (0 : Int32)]) (by decide +kernel) rfl rfl ⟨trivial, trivial⟩ ?_
      obtain rfl := Option.some.inj hf
      exact zr_zret (by decide) (b0 := fun _ => 0) (by decide +kernel) rfl rfl rfl rfl rfl
    · have hf := ziff hf hc
      refine zr_run [(.iload 5, 0, 0, 0, .null), (.iload_n 3, 0, 0, 0, .null)] [] (WW' := [w_Tr G a0 s0]) (lv' := [some (.ref (a0 0)), none, some (.int x2), some (.int x3), some (.int x4), some (.int y3)]) (pc' := 38) (st' := [.int x3, .int y3]) (by decide +kernel) rfl rfl ⟨trivial, trivial, trivial⟩ ?_
      refine zr_icmp_le (off := 5) (tgt := 43) (by decide +kernel) (by decide) (fun hc => ?_) (fun hc => ?_)
      · have hf := zift hf hc
        refine zr_run [(.iconst 0, 0, 0, 0, .int (0 : Int32))] [] (WW' := [w_Tr G a0 s0]) (lv' := [some (.ref (a0 0)), none, some (.int x2), some (.int x3), some (.int x4), some (.int y3)]) (pc' := 42) (st' := [.int (0 : Int32)]) (by decide +kernel) rfl rfl ⟨trivial, trivial⟩ ?_
        obtain rfl := Option.some.inj hf
        exact zr_zret (by decide) (b0 := fun _ => 0) (by decide +kernel) rfl rfl rfl rfl rfl
      · have hf := ziff hf hc
        refine zr_run [(.iinc 4 1, 0, 0, 0, .int (1 : Int32))] [] (WW' := [w_Tr G a0 s0]) (lv' := [some (.ref (a0 0)), none, some (.int x2), some (.int x3), some (.int (x4 + (1 : Int32))), some (.int y3)]) (pc' := 46) (st' := []) (by decide +kernel) rfl rfl ⟨trivial, trivial⟩ ?_
        refine zr_run [] [5] (WW' := [w_Tr G a0 s0]) (lv' := [some (.ref (a0 0)), none, some (.int x2), some (.int x3), some (.int (x4 + (1 : Int32))), none]) (pc' := 46) (st' := []) (by decide +kernel) rfl rfl trivial ?_
        refine zr_goto (off := -43) (tgt := 3) (by decide +kernel) (by decide) ?_
        exact hk3 x2 x3 (x4 + (1 : Int32)) hf
  · have hf := ziff hf hc
    refine zr_run [(.iconst 1, 0, 0, 0, .int (1 : Int32))] [] (WW' := [w_Tr G a0 s0]) (lv' := [some (.ref (a0 0)), none, some (.int x2), some (.int x3), some (.int x4), none]) (pc' := 50) (st' := [.int (1 : Int32)]) (by decide +kernel) rfl rfl ⟨trivial, trivial⟩ ?_
    obtain rfl := Option.some.inj hf
    exact zr_zret (by decide) (b0 := fun _ => 0) (by decide +kernel) rfl rfl rfl rfl rfl
theorem t_X10_goesBackFrom_L3 (l : Launch) (G : zj_G) (a0 : Nat → Nat) (W0 : List va_W) (r : Int32) (s0 : TrT)   : ∀ (n : Nat) (x2 : Int32) (x3 : Int32) (x4 : Int32), f_X10_goesBackFrom_L3 s0 n x2 x3 x4 = some r → zj_J l G M_X10_goesBackFrom W0 (zj_ret G M_X10_goesBackFrom W0 (some (.int r)) (fun _ => [w_Tr G a0 s0])) 0 0 [w_Tr G a0 s0] [some (.ref (a0 0)), none, some (.int x2), some (.int x3), some (.int x4), none] 3 [] := by
  intro n
  induction n with
  | zero => intro x2 x3 x4 hf; exact nomatch (show none = some r from hf)
  | succ n ih => intro x2 x3 x4 hf; exact t_X10_goesBackFrom_H3 l G a0 W0 r s0  (f_X10_goesBackFrom_L3 s0 n)  ih x2 x3 x4  hf
set_option maxRecDepth 100000 in
set_option maxHeartbeats 4000000 in
theorem c_X10_goesBackFrom (l : Launch) (G : zj_G) (a0 : Nat → Nat) (s0 : TrT) (x1 : Int32) (x2 : Int32) (x3 : Int32) (r : Int32) (hf : f_X10_goesBackFrom s0 x1 x2 x3 = some r) : zj_C l G M_X10_goesBackFrom yX10_goesBackFrom [w_Tr G a0 s0] [.ref (a0 0), .int x1, .int x2, .int x3] (some (.int r)) (fun _ => [w_Tr G a0 s0]) := by
  have key : ∀ W0 : List va_W, zj_J l G M_X10_goesBackFrom W0 (zj_ret G M_X10_goesBackFrom W0 (some (.int r)) (fun _ => [w_Tr G a0 s0])) 0 0 [w_Tr G a0 s0] [some (.ref (a0 0)), some (.int x1), some (.int x2), some (.int x3), none, none] 0 [] := by
    intro W0
    unfold f_X10_goesBackFrom at hf
    refine zr_run [(.iload_n 1, 0, 0, 0, .null), (.istore 4, 0, 0, 0, .null)] [1] (WW' := [w_Tr G a0 s0]) (lv' := [some (.ref (a0 0)), none, some (.int x2), some (.int x3), some (.int x1), none]) (pc' := 3) (st' := []) (by decide +kernel) rfl rfl ⟨trivial, trivial, trivial⟩ ?_
    exact t_X10_goesBackFrom_L3 l G a0 W0 r s0 zFU x2 x3 x1 hf
  exact zj_entry [some (.ref (a0 0)), some (.int x1), some (.int x2), some (.int x3), none, none] (by decide +kernel) rfl (by decide) (Nat.le_of_ble_eq_true rfl) rfl rfl (key _)
def M_X10_mark : zj_M := (RX10, cX10_mark, 6, none, { frames := 1, cells := 0, slots := 0, locals := 23 }, false)
theorem nm_X10_mark : zj_nm yX10_mark 4 := ⟨by decide +kernel, by decide +kernel, by decide +kernel⟩
def f_X10_mark_b43  (s0 : TrT) (k7 : TrT → Int32 → Int32 → Int32 → Int32 → Int32 → Option (TrT)) (x1 : Int32) (x2 : Int32) (x3 : Int32) (x4 : Int32) (x5 : Int32) : Option (TrT) := k7 s0 x1 x2 x3 x4 (x5 + (1 : Int32))
def f_X10_mark_H7  (s0 : TrT) (k7 : TrT → Int32 → Int32 → Int32 → Int32 → Int32 → Option (TrT)) (x1 : Int32) (x2 : Int32) (x3 : Int32) (x4 : Int32) (x5 : Int32) : Option (TrT) := (if x4 < x5 then some s0 else (if (270 : Int32) < x5 then some s0 else (if x3 < (((x5 - x1) + x5) - x2) then f_X10_mark_b43 s0 k7 x1 x2 x3 x4 x5 else (if zb_in x5 271 = true then (zlet (Tr_s_marks s0 ((upd (Tr_marks s0) x5.toNatClampNeg (vp_nar .byte (1 : Int32))))) fun y2 => f_X10_mark_b43 y2 k7 x1 x2 x3 x4 x5) else none))))
def f_X10_mark_L7    : Nat → TrT → Int32 → Int32 → Int32 → Int32 → Int32 → Option (TrT)
  | 0 => fun _ _ _ _ _ _ => none
  | n + 1 => fun s0 x1 x2 x3 x4 x5 => f_X10_mark_H7 s0 (f_X10_mark_L7  n) x1 x2 x3 x4 x5
def f_X10_mark  (s0 : TrT) (x1 : Int32) (x2 : Int32) (x3 : Int32) (x4 : Int32) : Option (TrT) := f_X10_mark_L7 zFU s0 x1 x2 x3 x4 (zr_mmaxF x1 x2)
set_option maxRecDepth 100000 in
set_option maxHeartbeats 4000000 in
theorem t_X10_mark_b43 (l : Launch) (G : zj_G) (a0 : Nat → Nat) (W0 : List va_W) (r : TrT) (s0 : TrT) (k7 : TrT → Int32 → Int32 → Int32 → Int32 → Int32 → Option (TrT)) (hk7 : ∀ (s0 : TrT) (x1 : Int32) (x2 : Int32) (x3 : Int32) (x4 : Int32) (x5 : Int32), k7 s0 x1 x2 x3 x4 x5 = some r → zj_J l G M_X10_mark W0 (zj_ret G M_X10_mark W0 (none) (fun _ => [w_Tr G a0 r])) 0 0 [w_Tr G a0 s0] [some (.ref (a0 0)), some (.int x1), some (.int x2), some (.int x3), some (.int x4), some (.int x5)] 7 []) (x1 : Int32) (x2 : Int32) (x3 : Int32) (x4 : Int32) (x5 : Int32) (hf : f_X10_mark_b43 s0 k7 x1 x2 x3 x4 x5 = some r) : zj_J l G M_X10_mark W0 (zj_ret G M_X10_mark W0 (none) (fun _ => [w_Tr G a0 r])) 0 0 [w_Tr G a0 s0] [some (.ref (a0 0)), some (.int x1), some (.int x2), some (.int x3), some (.int x4), some (.int x5)] 43 [] := by
  unfold f_X10_mark_b43 at hf
  refine zr_run [(.iinc 5 1, 0, 0, 0, .int (1 : Int32))] [] (WW' := [w_Tr G a0 s0]) (lv' := [some (.ref (a0 0)), some (.int x1), some (.int x2), some (.int x3), some (.int x4), some (.int (x5 + (1 : Int32)))]) (pc' := 46) (st' := []) (by decide +kernel) rfl rfl ⟨trivial, trivial⟩ ?_
  refine zr_goto (off := -39) (tgt := 7) (by decide +kernel) (by decide) ?_
  exact hk7 s0 x1 x2 x3 x4 (x5 + (1 : Int32)) hf
set_option maxRecDepth 100000 in
set_option maxHeartbeats 4000000 in
theorem t_X10_mark_H7 (l : Launch) (G : zj_G) (a0 : Nat → Nat) (W0 : List va_W) (r : TrT) (s0 : TrT) (k7 : TrT → Int32 → Int32 → Int32 → Int32 → Int32 → Option (TrT)) (hk7 : ∀ (s0 : TrT) (x1 : Int32) (x2 : Int32) (x3 : Int32) (x4 : Int32) (x5 : Int32), k7 s0 x1 x2 x3 x4 x5 = some r → zj_J l G M_X10_mark W0 (zj_ret G M_X10_mark W0 (none) (fun _ => [w_Tr G a0 r])) 0 0 [w_Tr G a0 s0] [some (.ref (a0 0)), some (.int x1), some (.int x2), some (.int x3), some (.int x4), some (.int x5)] 7 []) (x1 : Int32) (x2 : Int32) (x3 : Int32) (x4 : Int32) (x5 : Int32) (hf : f_X10_mark_H7 s0 k7 x1 x2 x3 x4 x5 = some r) : zj_J l G M_X10_mark W0 (zj_ret G M_X10_mark W0 (none) (fun _ => [w_Tr G a0 r])) 0 0 [w_Tr G a0 s0] [some (.ref (a0 0)), some (.int x1), some (.int x2), some (.int x3), some (.int x4), some (.int x5)] 7 [] := by
  unfold f_X10_mark_H7 at hf
  refine zr_run [(.iload 5, 0, 0, 0, .null), (.iload 4, 0, 0, 0, .null)] [] (WW' := [w_Tr G a0 s0]) (lv' := [some (.ref (a0 0)), some (.int x1), some (.int x2), some (.int x3), some (.int x4), some (.int x5)]) (pc' := 11) (st' := [.int x4, .int x5]) (by decide +kernel) rfl rfl ⟨trivial, trivial, trivial⟩ ?_
  refine zr_icmp_gt (off := 38) (tgt := 49) (by decide +kernel) (by decide) (fun hc => ?_) (fun hc => ?_)
  · have hf := zift hf hc
    obtain rfl := Option.some.inj hf
    exact zr_vret (b0 := fun _ => 0) (by decide +kernel) rfl rfl rfl rfl rfl
  · have hf := ziff hf hc
    refine zr_run [(.iload 5, 0, 0, 0, .null), (.sipush 270, 0, 0, 0, .int (270 : Int32))] [] (WW' := [w_Tr G a0 s0]) (lv' := [some (.ref (a0 0)), some (.int x1), some (.int x2), some (.int x3), some (.int x4), some (.int x5)]) (pc' := 19) (st' := [.int (270 : Int32), .int x5]) (by decide +kernel) rfl rfl ⟨trivial, trivial, trivial⟩ ?_
    refine zr_icmp_gt (off := 30) (tgt := 49) (by decide +kernel) (by decide) (fun hc => ?_) (fun hc => ?_)
    · have hf := zift hf hc
      obtain rfl := Option.some.inj hf
      exact zr_vret (b0 := fun _ => 0) (by decide +kernel) rfl rfl rfl rfl rfl
    · have hf := ziff hf hc
      refine zr_run [(.iload 5, 0, 0, 0, .null), (.iload_n 1, 0, 0, 0, .null), (.isub, 0, 0, 0, .null), (.iload 5, 0, 0, 0, .null), (.iadd, 0, 0, 0, .null), (.iload_n 2, 0, 0, 0, .null), (.isub, 0, 0, 0, .null), (.iload_n 3, 0, 0, 0, .null)] [] (WW' := [w_Tr G a0 s0]) (lv' := [some (.ref (a0 0)), some (.int x1), some (.int x2), some (.int x3), some (.int x4), some (.int x5)]) (pc' := 32) (st' := [.int x3, .int (((x5 - x1) + x5) - x2)]) (by decide +kernel) rfl rfl ⟨trivial, trivial, trivial, trivial, trivial, trivial, trivial, trivial, trivial⟩ ?_
      refine zr_icmp_gt (off := 11) (tgt := 43) (by decide +kernel) (by decide) (fun hc => ?_) (fun hc => ?_)
      · have hf := zift hf hc
        exact t_X10_mark_b43 l G a0 W0 r s0 k7 hk7 x1 x2 x3 x4 x5 hf
      · have hf := ziff hf hc
        obtain ⟨h1, hf⟩ := zck_of hf
        obtain ⟨y2, e2, hf⟩ := zlet_of hf
        refine zr_run [(.aload_n 0, 0, 0, 0, .null), (.getfield 22, 0, 0, 3, .null), (.iload 5, 0, 0, 0, .null), (.iconst 1, 0, 0, 0, .int (1 : Int32)), (.bastore, 0, 2, 0, .null)] [] (WW' := [w_Tr G a0 (Tr_s_marks s0 ((upd (Tr_marks s0) x5.toNatClampNeg (vp_nar .byte (1 : Int32)))))]) (lv' := [some (.ref (a0 0)), some (.int x1), some (.int x2), some (.int x3), some (.int x4), some (.int x5)]) (pc' := 43) (st' := []) (by decide +kernel) rfl rfl ⟨trivial, ⟨rfl, rfl, zw_2_139⟩, trivial, trivial, ⟨rfl, rfl, h1⟩, trivial⟩ ?_
        refine zr_eq (WW2 := [w_Tr G a0 y2]) (lv2 := [some (.ref (a0 0)), some (.int x1), some (.int x2), some (.int x3), some (.int x4), some (.int x5)]) (st2 := []) (by rw [e2]) rfl rfl ?_
        exact t_X10_mark_b43 l G a0 W0 r y2 k7 hk7 x1 x2 x3 x4 x5 hf
theorem t_X10_mark_L7 (l : Launch) (G : zj_G) (a0 : Nat → Nat) (W0 : List va_W) (r : TrT)    : ∀ (n : Nat) (s0 : TrT) (x1 : Int32) (x2 : Int32) (x3 : Int32) (x4 : Int32) (x5 : Int32), f_X10_mark_L7 n s0 x1 x2 x3 x4 x5 = some r → zj_J l G M_X10_mark W0 (zj_ret G M_X10_mark W0 (none) (fun _ => [w_Tr G a0 r])) 0 0 [w_Tr G a0 s0] [some (.ref (a0 0)), some (.int x1), some (.int x2), some (.int x3), some (.int x4), some (.int x5)] 7 [] := by
  intro n
  induction n with
  | zero => intro s0 x1 x2 x3 x4 x5 hf; exact nomatch (show none = some r from hf)
  | succ n ih => intro s0 x1 x2 x3 x4 x5 hf; exact t_X10_mark_H7 l G a0 W0 r s0  (f_X10_mark_L7 n)  ih x1 x2 x3 x4 x5  hf
set_option maxRecDepth 100000 in
set_option maxHeartbeats 4000000 in
theorem c_X10_mark (l : Launch) (G : zj_G) (a0 : Nat → Nat) (s0 : TrT) (x1 : Int32) (x2 : Int32) (x3 : Int32) (x4 : Int32) (r : TrT) (hf : f_X10_mark s0 x1 x2 x3 x4 = some r) : zj_C l G M_X10_mark yX10_mark [w_Tr G a0 s0] [.ref (a0 0), .int x1, .int x2, .int x3, .int x4] (none) (fun _ => [w_Tr G a0 r]) := by
  have key : ∀ W0 : List va_W, zj_J l G M_X10_mark W0 (zj_ret G M_X10_mark W0 (none) (fun _ => [w_Tr G a0 r])) 0 0 [w_Tr G a0 s0] [some (.ref (a0 0)), some (.int x1), some (.int x2), some (.int x3), some (.int x4), none] 0 [] := by
    intro W0
    unfold f_X10_mark at hf
    refine zr_run [(.iload_n 1, 0, 0, 0, .null), (.iload_n 2, 0, 0, 0, .null)] [] (WW' := [w_Tr G a0 s0]) (lv' := [some (.ref (a0 0)), some (.int x1), some (.int x2), some (.int x3), some (.int x4), none]) (pc' := 2) (st' := [.int x2, .int x1]) (by decide +kernel) rfl rfl ⟨trivial, trivial, trivial⟩ ?_
    refine zr_mmax zw_4_190 zw_4_191 zw_1_24 zw_4_192 (Nat.le_of_ble_eq_true rfl) (Nat.le_of_ble_eq_true rfl) ⟨Nat.le_of_ble_eq_true rfl, Nat.le_of_ble_eq_true rfl⟩ (by decide +kernel) ?_
    refine zr_run [(.istore 5, 0, 0, 0, .null)] [] (WW' := [w_Tr G a0 s0]) (lv' := [some (.ref (a0 0)), some (.int x1), some (.int x2), some (.int x3), some (.int x4), some (.int (zr_mmaxF x1 x2))]) (pc' := 7) (st' := []) (by decide +kernel) rfl rfl ⟨trivial, trivial⟩ ?_
    exact t_X10_mark_L7 l G a0 W0 r zFU s0 x1 x2 x3 x4 (zr_mmaxF x1 x2) hf
  exact zj_entry [some (.ref (a0 0)), some (.int x1), some (.int x2), some (.int x3), some (.int x4), none] (by decide +kernel) rfl (by decide) (Nat.le_of_ble_eq_true rfl) rfl rfl (key _)
def M_X10_tell : zj_M := (RX10, cX10_tell, 6, (some .int), { frames := 0, cells := 0, slots := 0, locals := 0 }, false)
theorem nm_X10_tell : zj_nm yX10_tell 1 := ⟨by decide +kernel, by decide +kernel, by decide +kernel⟩
def f_X10_tell_b60  (s0 : TrT)  (x2 : Int32) (x3 : Int32) (x4 : Int32) : Option (Int32 × TrT) := (if 0 < x2 then (zlet (Tr_s_least s0 x3) fun y1 => (zlet (Tr_s_greatest y1 x4) fun y2 => some (x2, y2))) else some (x2, s0))
def f_X10_tell_b54  (s0 : TrT) (k10 : TrT → Int32 → Int32 → Int32 → Int32 → Int32 → Option (Int32 × TrT)) (x1 : Int32) (x2 : Int32) (x3 : Int32) (x4 : Int32) (x5 : Int32) : Option (Int32 × TrT) := k10 s0 x1 x2 x3 x4 (x5 + (1 : Int32))
def f_X10_tell_b49  (s0 : TrT) (k10 : TrT → Int32 → Int32 → Int32 → Int32 → Int32 → Option (Int32 × TrT)) (x1 : Int32) (x2 : Int32) (x5 : Int32) (z0 : Int32) : Option (Int32 × TrT) := f_X10_tell_b54 s0 k10 x1 x2 z0 x5 x5
def f_X10_tell_H10  (s0 : TrT) (k10 : TrT → Int32 → Int32 → Int32 → Int32 → Int32 → Option (Int32 × TrT)) (x1 : Int32) (x2 : Int32) (x3 : Int32) (x4 : Int32) (x5 : Int32) : Option (Int32 × TrT) := (if x1 < x5 then f_X10_tell_b60 s0 x2 x3 x4 else (if (270 : Int32) < x5 then f_X10_tell_b60 s0 x2 x3 x4 else (if zb_in x5 271 = true then (if ((Tr_marks s0) x5.toNatClampNeg) = (1 : Int32) then (if x3 = (-1 : Int32) then f_X10_tell_b49 s0 k10 x1 (x2 + (1 : Int32)) x5 x5 else f_X10_tell_b49 s0 k10 x1 (x2 + (1 : Int32)) x5 x3) else f_X10_tell_b54 s0 k10 x1 x2 x3 x4 x5) else none)))
def f_X10_tell_L10    : Nat → TrT → Int32 → Int32 → Int32 → Int32 → Int32 → Option (Int32 × TrT)
  | 0 => fun _ _ _ _ _ _ => none
  | n + 1 => fun s0 x1 x2 x3 x4 x5 => f_X10_tell_H10 s0 (f_X10_tell_L10  n) x1 x2 x3 x4 x5
def f_X10_tell  (s0 : TrT) (x1 : Int32) : Option (Int32 × TrT) := f_X10_tell_L10 zFU s0 x1 (0 : Int32) (-1 : Int32) (-1 : Int32) (0 : Int32)
set_option maxRecDepth 100000 in
set_option maxHeartbeats 4000000 in
theorem t_X10_tell_b60 (l : Launch) (G : zj_G) (a0 : Nat → Nat) (W0 : List va_W) (r : Int32 × TrT) (s0 : TrT)   (x2 : Int32) (x3 : Int32) (x4 : Int32) (hf : f_X10_tell_b60 s0 x2 x3 x4 = some r) : zj_J l G M_X10_tell W0 (zj_ret G M_X10_tell W0 (some (.int r.1)) (fun _ => [w_Tr G a0 r.2])) 0 0 [w_Tr G a0 s0] [some (.ref (a0 0)), none, some (.int x2), some (.int x3), some (.int x4), none] 60 [] := by
  unfold f_X10_tell_b60 at hf
  refine zr_run [(.iload_n 2, 0, 0, 0, .null)] [] (WW' := [w_Tr G a0 s0]) (lv' := [some (.ref (a0 0)), none, some (.int x2), some (.int x3), some (.int x4), none]) (pc' := 61) (st' := [.int x2]) (by decide +kernel) rfl rfl ⟨trivial, trivial⟩ ?_
  refine zr_if_le (off := 14) (tgt := 75) (by decide +kernel) (by decide) (fun hc => ?_) (fun hc => ?_)
  · have hf := zift hf hc
    obtain ⟨y1, e1, hf⟩ := zlet_of hf
    refine zr_run [(.aload_n 0, 0, 0, 0, .null), (.iload_n 3, 0, 0, 0, .null), (.putfield 9, 0, 0, 0, .null)] [] (WW' := [w_Tr G a0 (Tr_s_least s0 x3)]) (lv' := [some (.ref (a0 0)), none, some (.int x2), some (.int x3), some (.int x4), none]) (pc' := 69) (st' := []) (by decide +kernel) rfl rfl ⟨trivial, trivial, ⟨rfl, rfl, rfl, trivial, rfl, rfl, zw_2_134⟩, trivial⟩ ?_
    refine zr_eq (WW2 := [w_Tr G a0 y1]) (lv2 := [some (.ref (a0 0)), none, some (.int x2), some (.int x3), some (.int x4), none]) (st2 := []) (by rw [e1]) rfl rfl ?_
    obtain ⟨y2, e2, hf⟩ := zlet_of hf
    refine zr_run [(.aload_n 0, 0, 0, 0, .null), (.iload 4, 0, 0, 0, .null), (.putfield 15, 0, 0, 1, .null)] [] (WW' := [w_Tr G a0 (Tr_s_greatest y1 x4)]) (lv' := [some (.ref (a0 0)), none, some (.int x2), some (.int x3), some (.int x4), none]) (pc' := 75) (st' := []) (by decide +kernel) rfl rfl ⟨trivial, trivial, ⟨rfl, rfl, rfl, trivial, rfl, rfl, zw_2_136⟩, trivial⟩ ?_
    refine zr_eq (WW2 := [w_Tr G a0 y2]) (lv2 := [some (.ref (a0 0)), none, some (.int x2), some (.int x3), some (.int x4), none]) (st2 := []) (by rw [e2]) rfl rfl ?_
    refine zr_run [(.iload_n 2, 0, 0, 0, .null)] [] (WW' := [w_Tr G a0 y2]) (lv' := [some (.ref (a0 0)), none, some (.int x2), some (.int x3), some (.int x4), none]) (pc' := 76) (st' := [.int x2]) (by decide +kernel) rfl rfl ⟨trivial, trivial⟩ ?_
    obtain rfl := Option.some.inj hf
    exact zr_iret (b0 := fun _ => 0) (by decide +kernel) rfl rfl rfl rfl rfl
  · have hf := ziff hf hc
    refine zr_run [(.iload_n 2, 0, 0, 0, .null)] [] (WW' := [w_Tr G a0 s0]) (lv' := [some (.ref (a0 0)), none, some (.int x2), some (.int x3), some (.int x4), none]) (pc' := 76) (st' := [.int x2]) (by decide +kernel) rfl rfl ⟨trivial, trivial⟩ ?_
    obtain rfl := Option.some.inj hf
    exact zr_iret (b0 := fun _ => 0) (by decide +kernel) rfl rfl rfl rfl rfl
set_option maxRecDepth 100000 in
set_option maxHeartbeats 4000000 in
theorem t_X10_tell_b54 (l : Launch) (G : zj_G) (a0 : Nat → Nat) (W0 : List va_W) (r : Int32 × TrT) (s0 : TrT) (k10 : TrT → Int32 → Int32 → Int32 → Int32 → Int32 → Option (Int32 × TrT)) (hk10 : ∀ (s0 : TrT) (x1 : Int32) (x2 : Int32) (x3 : Int32) (x4 : Int32) (x5 : Int32), k10 s0 x1 x2 x3 x4 x5 = some r → zj_J l G M_X10_tell W0 (zj_ret G M_X10_tell W0 (some (.int r.1)) (fun _ => [w_Tr G a0 r.2])) 0 0 [w_Tr G a0 s0] [some (.ref (a0 0)), some (.int x1), some (.int x2), some (.int x3), some (.int x4), some (.int x5)] 10 []) (x1 : Int32) (x2 : Int32) (x3 : Int32) (x4 : Int32) (x5 : Int32) (hf : f_X10_tell_b54 s0 k10 x1 x2 x3 x4 x5 = some r) : zj_J l G M_X10_tell W0 (zj_ret G M_X10_tell W0 (some (.int r.1)) (fun _ => [w_Tr G a0 r.2])) 0 0 [w_Tr G a0 s0] [some (.ref (a0 0)), some (.int x1), some (.int x2), some (.int x3), some (.int x4), some (.int x5)] 54 [] := by
  unfold f_X10_tell_b54 at hf
  refine zr_run [(.iinc 5 1, 0, 0, 0, .int (1 : Int32))] [] (WW' := [w_Tr G a0 s0]) (lv' := [some (.ref (a0 0)), some (.int x1), some (.int x2), some (.int x3), some (.int x4), some (.int (x5 + (1 : Int32)))]) (pc' := 57) (st' := []) (by decide +kernel) rfl rfl ⟨trivial, trivial⟩ ?_
  refine zr_goto (off := -47) (tgt := 10) (by decide +kernel) (by decide) ?_
  exact hk10 s0 x1 x2 x3 x4 (x5 + (1 : Int32)) hf
set_option maxRecDepth 100000 in
set_option maxHeartbeats 4000000 in
theorem t_X10_tell_b49 (l : Launch) (G : zj_G) (a0 : Nat → Nat) (W0 : List va_W) (r : Int32 × TrT) (s0 : TrT) (k10 : TrT → Int32 → Int32 → Int32 → Int32 → Int32 → Option (Int32 × TrT)) (hk10 : ∀ (s0 : TrT) (x1 : Int32) (x2 : Int32) (x3 : Int32) (x4 : Int32) (x5 : Int32), k10 s0 x1 x2 x3 x4 x5 = some r → zj_J l G M_X10_tell W0 (zj_ret G M_X10_tell W0 (some (.int r.1)) (fun _ => [w_Tr G a0 r.2])) 0 0 [w_Tr G a0 s0] [some (.ref (a0 0)), some (.int x1), some (.int x2), some (.int x3), some (.int x4), some (.int x5)] 10 []) (x1 : Int32) (x2 : Int32) (x5 : Int32) (z0 : Int32) (hf : f_X10_tell_b49 s0 k10 x1 x2 x5 z0 = some r) : zj_J l G M_X10_tell W0 (zj_ret G M_X10_tell W0 (some (.int r.1)) (fun _ => [w_Tr G a0 r.2])) 0 0 [w_Tr G a0 s0] [some (.ref (a0 0)), some (.int x1), some (.int x2), none, none, some (.int x5)] 49 [.int z0] := by
  unfold f_X10_tell_b49 at hf
  refine zr_run [(.istore_n 3, 0, 0, 0, .null), (.iload 5, 0, 0, 0, .null), (.istore 4, 0, 0, 0, .null)] [] (WW' := [w_Tr G a0 s0]) (lv' := [some (.ref (a0 0)), some (.int x1), some (.int x2), some (.int z0), some (.int x5), some (.int x5)]) (pc' := 54) (st' := []) (by decide +kernel) rfl rfl ⟨trivial, trivial, trivial, trivial⟩ ?_
  exact t_X10_tell_b54 l G a0 W0 r s0 k10 hk10 x1 x2 z0 x5 x5 hf
set_option maxRecDepth 100000 in
set_option maxHeartbeats 4000000 in
theorem t_X10_tell_H10 (l : Launch) (G : zj_G) (a0 : Nat → Nat) (W0 : List va_W) (r : Int32 × TrT) (s0 : TrT) (k10 : TrT → Int32 → Int32 → Int32 → Int32 → Int32 → Option (Int32 × TrT)) (hk10 : ∀ (s0 : TrT) (x1 : Int32) (x2 : Int32) (x3 : Int32) (x4 : Int32) (x5 : Int32), k10 s0 x1 x2 x3 x4 x5 = some r → zj_J l G M_X10_tell W0 (zj_ret G M_X10_tell W0 (some (.int r.1)) (fun _ => [w_Tr G a0 r.2])) 0 0 [w_Tr G a0 s0] [some (.ref (a0 0)), some (.int x1), some (.int x2), some (.int x3), some (.int x4), some (.int x5)] 10 []) (x1 : Int32) (x2 : Int32) (x3 : Int32) (x4 : Int32) (x5 : Int32) (hf : f_X10_tell_H10 s0 k10 x1 x2 x3 x4 x5 = some r) : zj_J l G M_X10_tell W0 (zj_ret G M_X10_tell W0 (some (.int r.1)) (fun _ => [w_Tr G a0 r.2])) 0 0 [w_Tr G a0 s0] [some (.ref (a0 0)), some (.int x1), some (.int x2), some (.int x3), some (.int x4), some (.int x5)] 10 [] := by
  unfold f_X10_tell_H10 at hf
  refine zr_run [(.iload 5, 0, 0, 0, .null), (.iload_n 1, 0, 0, 0, .null)] [] (WW' := [w_Tr G a0 s0]) (lv' := [some (.ref (a0 0)), some (.int x1), some (.int x2), some (.int x3), some (.int x4), some (.int x5)]) (pc' := 13) (st' := [.int x1, .int x5]) (by decide +kernel) rfl rfl ⟨trivial, trivial, trivial⟩ ?_
  refine zr_icmp_gt (off := 47) (tgt := 60) (by decide +kernel) (by decide) (fun hc => ?_) (fun hc => ?_)
  · have hf := zift hf hc
    refine zr_run [] [1, 5] (WW' := [w_Tr G a0 s0]) (lv' := [some (.ref (a0 0)), none, some (.int x2), some (.int x3), some (.int x4), none]) (pc' := 60) (st' := []) (by decide +kernel) rfl rfl trivial ?_
    exact t_X10_tell_b60 l G a0 W0 r s0 x2 x3 x4 hf
  · have hf := ziff hf hc
    refine zr_run [(.iload 5, 0, 0, 0, .null), (.sipush 270, 0, 0, 0, .int (270 : Int32))] [] (WW' := [w_Tr G a0 s0]) (lv' := [some (.ref (a0 0)), some (.int x1), some (.int x2), some (.int x3), some (.int x4), some (.int x5)]) (pc' := 21) (st' := [.int (270 : Int32), .int x5]) (by decide +kernel) rfl rfl ⟨trivial, trivial, trivial⟩ ?_
    refine zr_icmp_gt (off := 39) (tgt := 60) (by decide +kernel) (by decide) (fun hc => ?_) (fun hc => ?_)
    · have hf := zift hf hc
      refine zr_run [] [1, 5] (WW' := [w_Tr G a0 s0]) (lv' := [some (.ref (a0 0)), none, some (.int x2), some (.int x3), some (.int x4), none]) (pc' := 60) (st' := []) (by decide +kernel) rfl rfl trivial ?_
      exact t_X10_tell_b60 l G a0 W0 r s0 x2 x3 x4 hf
    · have hf := ziff hf hc
      obtain ⟨h3, hf⟩ := zck_of hf
      refine zr_run [(.aload_n 0, 0, 0, 0, .null), (.getfield 22, 0, 0, 3, .null), (.iload 5, 0, 0, 0, .null), (.baload, 0, 2, 0, .null), (.iconst 1, 0, 0, 0, .int (1 : Int32))] [] (WW' := [w_Tr G a0 s0]) (lv' := [some (.ref (a0 0)), some (.int x1), some (.int x2), some (.int x3), some (.int x4), some (.int x5)]) (pc' := 32) (st' := [.int (1 : Int32), .int ((Tr_marks s0) x5.toNatClampNeg)]) (by decide +kernel) rfl rfl ⟨trivial, ⟨rfl, rfl, zw_2_139⟩, trivial, ⟨rfl, rfl, h3⟩, trivial, trivial⟩ ?_
      refine zr_icmp_ne (off := 22) (tgt := 54) (by decide +kernel) (by decide) (fun hc => ?_) (fun hc => ?_)
      · have hf := zift hf hc
        refine zr_run [(.iinc 2 1, 0, 0, 0, .int (1 : Int32)), (.iload_n 3, 0, 0, 0, .null), (.iconst (-1), 0, 0, 0, .int (-1 : Int32))] [] (WW' := [w_Tr G a0 s0]) (lv' := [some (.ref (a0 0)), some (.int x1), some (.int (x2 + (1 : Int32))), some (.int x3), some (.int x4), some (.int x5)]) (pc' := 40) (st' := [.int (-1 : Int32), .int x3]) (by decide +kernel) rfl rfl ⟨trivial, trivial, trivial, trivial⟩ ?_
        refine zr_icmp_ne (off := 8) (tgt := 48) (by decide +kernel) (by decide) (fun hc => ?_) (fun hc => ?_)
        · have hf := zift hf hc
          refine zr_run [(.iload 5, 0, 0, 0, .null)] [] (WW' := [w_Tr G a0 s0]) (lv' := [some (.ref (a0 0)), some (.int x1), some (.int (x2 + (1 : Int32))), some (.int x3), some (.int x4), some (.int x5)]) (pc' := 45) (st' := [.int x5]) (by decide +kernel) rfl rfl ⟨trivial, trivial⟩ ?_
          refine zr_goto (off := 4) (tgt := 49) (by decide +kernel) (by decide) ?_
          refine zr_run [] [3, 4] (WW' := [w_Tr G a0 s0]) (lv' := [some (.ref (a0 0)), some (.int x1), some (.int (x2 + (1 : Int32))), none, none, some (.int x5)]) (pc' := 49) (st' := [.int x5]) (by decide +kernel) rfl rfl trivial ?_
          exact t_X10_tell_b49 l G a0 W0 r s0 k10 hk10 x1 (x2 + (1 : Int32)) x5 x5 hf
        · have hf := ziff hf hc
          refine zr_run [(.iload_n 3, 0, 0, 0, .null)] [3, 4] (WW' := [w_Tr G a0 s0]) (lv' := [some (.ref (a0 0)), some (.int x1), some (.int (x2 + (1 : Int32))), none, none, some (.int x5)]) (pc' := 49) (st' := [.int x3]) (by decide +kernel) rfl rfl ⟨trivial, trivial⟩ ?_
          exact t_X10_tell_b49 l G a0 W0 r s0 k10 hk10 x1 (x2 + (1 : Int32)) x5 x3 hf
      · have hf := ziff hf hc
        exact t_X10_tell_b54 l G a0 W0 r s0 k10 hk10 x1 x2 x3 x4 x5 hf
theorem t_X10_tell_L10 (l : Launch) (G : zj_G) (a0 : Nat → Nat) (W0 : List va_W) (r : Int32 × TrT)    : ∀ (n : Nat) (s0 : TrT) (x1 : Int32) (x2 : Int32) (x3 : Int32) (x4 : Int32) (x5 : Int32), f_X10_tell_L10 n s0 x1 x2 x3 x4 x5 = some r → zj_J l G M_X10_tell W0 (zj_ret G M_X10_tell W0 (some (.int r.1)) (fun _ => [w_Tr G a0 r.2])) 0 0 [w_Tr G a0 s0] [some (.ref (a0 0)), some (.int x1), some (.int x2), some (.int x3), some (.int x4), some (.int x5)] 10 [] := by
  intro n
  induction n with
  | zero => intro s0 x1 x2 x3 x4 x5 hf; exact nomatch (show none = some r from hf)
  | succ n ih => intro s0 x1 x2 x3 x4 x5 hf; exact t_X10_tell_H10 l G a0 W0 r s0  (f_X10_tell_L10 n)  ih x1 x2 x3 x4 x5  hf
set_option maxRecDepth 100000 in
set_option maxHeartbeats 4000000 in
theorem c_X10_tell (l : Launch) (G : zj_G) (a0 : Nat → Nat) (s0 : TrT) (x1 : Int32) (r : Int32 × TrT) (hf : f_X10_tell s0 x1 = some r) : zj_C l G M_X10_tell yX10_tell [w_Tr G a0 s0] [.ref (a0 0), .int x1] (some (.int r.1)) (fun _ => [w_Tr G a0 r.2]) := by
  have key : ∀ W0 : List va_W, zj_J l G M_X10_tell W0 (zj_ret G M_X10_tell W0 (some (.int r.1)) (fun _ => [w_Tr G a0 r.2])) 0 0 [w_Tr G a0 s0] [some (.ref (a0 0)), some (.int x1), none, none, none, none] 0 [] := by
    intro W0
    unfold f_X10_tell at hf
    refine zr_run [(.iconst 0, 0, 0, 0, .int (0 : Int32)), (.istore_n 2, 0, 0, 0, .null), (.iconst (-1), 0, 0, 0, .int (-1 : Int32)), (.istore_n 3, 0, 0, 0, .null), (.iconst (-1), 0, 0, 0, .int (-1 : Int32)), (.istore 4, 0, 0, 0, .null), (.iconst 0, 0, 0, 0, .int (0 : Int32)), (.istore 5, 0, 0, 0, .null)] [] (WW' := [w_Tr G a0 s0]) (lv' := [some (.ref (a0 0)), some (.int x1), some (.int (0 : Int32)), some (.int (-1 : Int32)), some (.int (-1 : Int32)), some (.int (0 : Int32))]) (pc' := 10) (st' := []) (by decide +kernel) rfl rfl ⟨trivial, trivial, trivial, trivial, trivial, trivial, trivial, trivial, trivial⟩ ?_
    exact t_X10_tell_L10 l G a0 W0 r zFU s0 x1 (0 : Int32) (-1 : Int32) (-1 : Int32) (0 : Int32) hf
  exact zj_entry [some (.ref (a0 0)), some (.int x1), none, none, none, none] (by decide +kernel) rfl (by decide) (Nat.le_of_ble_eq_true rfl) rfl rfl (key _)
def M_X10_track : zj_M := (RX10, cX10_track, 6, (some .int), { frames := 2, cells := 0, slots := 0, locals := 48 }, false)
theorem nm_X10_track : zj_nm yX10_track 3 := ⟨by decide +kernel, by decide +kernel, by decide +kernel⟩
def f_X10_track_b134  (s0 : TrT) (s1 : RdT) (k79 : TrT → Int32 → Int32 → Int32 → Int32 → Option (Int32 × TrT)) (x2 : Int32) (x3 : Int32) (x4 : Int32) (x5 : Int32) : Option (Int32 × TrT) := k79 s0 x2 x3 x4 (x5 + (1 : Int32))
def f_X10_track_H79  (s0 : TrT) (s1 : RdT) (k79 : TrT → Int32 → Int32 → Int32 → Int32 → Option (Int32 × TrT)) (x2 : Int32) (x3 : Int32) (x4 : Int32) (x5 : Int32) : Option (Int32 × TrT) := (if (x5 + (1 : Int32)) < x4 then ((f_X10_goesOnTo s0 x5 x2).bind fun q6 => (if q6 = 0 then f_X10_track_b134 s0 s1 k79 x2 x3 x4 x5 else ((f_X10_goesBackFrom s0 (x5 + (1 : Int32)) x4 x2).bind fun q7 => (if q7 = 0 then f_X10_track_b134 s0 s1 k79 x2 x3 x4 x5 else (if zb_in x5 20 = true then (if zb_in (x5 + (1 : Int32)) 20 = true then ((f_X10_mark s0 ((Tr_seen s0) x5.toNatClampNeg) ((Tr_seen s0) (x5 + (1 : Int32)).toNatClampNeg) x2 x3).bind fun q10 => f_X10_track_b134 q10 s1 k79 x2 x3 x4 x5) else none) else none))))) else ((f_X10_tell s0 x3).bind fun q11 => some (q11.1, q11.2)))
def f_X10_track_L79  (s1 : RdT)  : Nat → TrT → Int32 → Int32 → Int32 → Int32 → Option (Int32 × TrT)
  | 0 => fun _ _ _ _ _ => none
  | n + 1 => fun s0 x2 x3 x4 x5 => f_X10_track_H79 s0 s1 (f_X10_track_L79 s1 n) x2 x3 x4 x5
def f_X10_track_H24  (s0 : TrT) (s1 : RdT) (k24 : TrT → Int32 → Int32 → Int32 → Int32 → Option (Int32 × TrT)) (x2 : Int32) (x3 : Int32) (x4 : Int32) (x5 : Int32) : Option (Int32 × TrT) := (if x5 < x4 then (if zb_in x5 940 = true then (if zb_in x5 20 = true then (zlet (Tr_s_seen s0 ((upd (Tr_seen s0) x5.toNatClampNeg (((Rd_tape s1) x5.toNatClampNeg) &&& (255 : Int32))))) fun y3 => (if zb_in x5 20 = true then (if x3 < ((Tr_seen y3) x5.toNatClampNeg) then some ((-1 : Int32), y3) else k24 y3 x2 x3 x4 (x5 + (1 : Int32))) else none)) else none) else none) else (zlet (Tr_s_marks s0 ((zr_fill 271 (Tr_marks s0) (vp_nar .byte (0 : Int32))))) fun y5 => f_X10_track_L79 s1 zFU y5 x2 x3 x4 (0 : Int32)))
def f_X10_track_L24  (s1 : RdT)  : Nat → TrT → Int32 → Int32 → Int32 → Int32 → Option (Int32 × TrT)
  | 0 => fun _ _ _ _ _ => none
  | n + 1 => fun s0 x2 x3 x4 x5 => f_X10_track_H24 s0 s1 (f_X10_track_L24 s1 n) x2 x3 x4 x5
def f_X10_track  (s0 : TrT) (s1 : RdT) (x2 : Int32) (x3 : Int32) : Option (Int32 × TrT) := (if (Rd_length s1) < (2 : Int32) then some ((-1 : Int32), s0) else (if (20 : Int32) < (Rd_length s1) then some ((-1 : Int32), s0) else f_X10_track_L24 s1 zFU s0 x2 x3 (Rd_length s1) (0 : Int32)))
set_option maxRecDepth 100000 in
set_option maxHeartbeats 4000000 in
theorem t_X10_track_b134 (l : Launch) (G : zj_G) (a0 : Nat → Nat) (a1 : Nat → Nat) (W0 : List va_W) (r : Int32 × TrT) (s0 : TrT) (s1 : RdT) (k79 : TrT → Int32 → Int32 → Int32 → Int32 → Option (Int32 × TrT)) (hk79 : ∀ (s0 : TrT) (x2 : Int32) (x3 : Int32) (x4 : Int32) (x5 : Int32), k79 s0 x2 x3 x4 x5 = some r → zj_J l G M_X10_track W0 (zj_ret G M_X10_track W0 (some (.int r.1)) (fun _ => [w_Tr G a0 r.2, w_Rd G a1 s1])) 0 0 [w_Tr G a0 s0, w_Rd G a1 s1] [some (.ref (a0 0)), none, some (.int x2), some (.int x3), some (.int x4), some (.int x5)] 79 []) (x2 : Int32) (x3 : Int32) (x4 : Int32) (x5 : Int32) (hf : f_X10_track_b134 s0 s1 k79 x2 x3 x4 x5 = some r) : zj_J l G M_X10_track W0 (zj_ret G M_X10_track W0 (some (.int r.1)) (fun _ => [w_Tr G a0 r.2, w_Rd G a1 s1])) 0 0 [w_Tr G a0 s0, w_Rd G a1 s1] [some (.ref (a0 0)), none, some (.int x2), some (.int x3), some (.int x4), some (.int x5)] 134 [] := by
  unfold f_X10_track_b134 at hf
  refine zr_run [(.iinc 5 1, 0, 0, 0, .int (1 : Int32))] [] (WW' := [w_Tr G a0 s0, w_Rd G a1 s1]) (lv' := [some (.ref (a0 0)), none, some (.int x2), some (.int x3), some (.int x4), some (.int (x5 + (1 : Int32)))]) (pc' := 137) (st' := []) (by decide +kernel) rfl rfl ⟨trivial, trivial⟩ ?_
  refine zr_goto (off := -58) (tgt := 79) (by decide +kernel) (by decide) ?_
  exact hk79 s0 x2 x3 x4 (x5 + (1 : Int32)) hf
set_option maxRecDepth 100000 in
set_option maxHeartbeats 4000000 in
theorem t_X10_track_H79 (l : Launch) (G : zj_G) (a0 : Nat → Nat) (a1 : Nat → Nat) (W0 : List va_W) (r : Int32 × TrT) (s0 : TrT) (s1 : RdT) (k79 : TrT → Int32 → Int32 → Int32 → Int32 → Option (Int32 × TrT)) (hk79 : ∀ (s0 : TrT) (x2 : Int32) (x3 : Int32) (x4 : Int32) (x5 : Int32), k79 s0 x2 x3 x4 x5 = some r → zj_J l G M_X10_track W0 (zj_ret G M_X10_track W0 (some (.int r.1)) (fun _ => [w_Tr G a0 r.2, w_Rd G a1 s1])) 0 0 [w_Tr G a0 s0, w_Rd G a1 s1] [some (.ref (a0 0)), none, some (.int x2), some (.int x3), some (.int x4), some (.int x5)] 79 []) (x2 : Int32) (x3 : Int32) (x4 : Int32) (x5 : Int32) (hf : f_X10_track_H79 s0 s1 k79 x2 x3 x4 x5 = some r) : zj_J l G M_X10_track W0 (zj_ret G M_X10_track W0 (some (.int r.1)) (fun _ => [w_Tr G a0 r.2, w_Rd G a1 s1])) 0 0 [w_Tr G a0 s0, w_Rd G a1 s1] [some (.ref (a0 0)), none, some (.int x2), some (.int x3), some (.int x4), some (.int x5)] 79 [] := by
  unfold f_X10_track_H79 at hf
  refine zr_run [(.iload 5, 0, 0, 0, .null), (.iconst 1, 0, 0, 0, .int (1 : Int32)), (.iadd, 0, 0, 0, .null), (.iload 4, 0, 0, 0, .null)] [] (WW' := [w_Tr G a0 s0, w_Rd G a1 s1]) (lv' := [some (.ref (a0 0)), none, some (.int x2), some (.int x3), some (.int x4), some (.int x5)]) (pc' := 85) (st' := [.int x4, .int (x5 + (1 : Int32))]) (by decide +kernel) rfl rfl ⟨trivial, trivial, trivial, trivial, trivial⟩ ?_
  refine zr_icmp_ge (off := 55) (tgt := 140) (by decide +kernel) (by decide) (fun hc => ?_) (fun hc => ?_)
  · have hf := zift hf hc
    obtain ⟨q6, e6, hf⟩ := zbi_of hf
    refine zr_run [(.aload_n 0, 0, 0, 0, .null), (.iload 5, 0, 0, 0, .null), (.iload_n 2, 0, 0, 0, .null)] [] (WW' := [w_Tr G a0 s0, w_Rd G a1 s1]) (lv' := [some (.ref (a0 0)), none, some (.int x2), some (.int x3), some (.int x4), some (.int x5)]) (pc' := 92) (st' := [.int x2, .int x5, .ref (a0 0)]) (by decide +kernel) rfl rfl ⟨trivial, trivial, trivial, trivial⟩ ?_
    refine zr_callV (c_X10_goesOnTo l G a0 s0 x5 x2 q6 e6) (WW' := fun _ => [w_Tr G a0 s0, w_Rd G a1 s1]) (st := []) (st' := [.int q6]) [0] rfl rfl (fun _ => Nat.le_of_ble_eq_true rfl) (fun _ => rfl) rfl rfl nm_X10_goesOnTo zw_4_178 zw_4_180 zw_0_25 zw_1_17 zw_4_181 rfl rfl rfl (Nat.le_of_ble_eq_true rfl) ⟨Nat.le_of_ble_eq_true rfl, Nat.le_of_ble_eq_true rfl⟩ (by decide +kernel) (fun _ => ?_)
    refine zr_if_eq (off := 39) (tgt := 134) (by decide +kernel) (by decide) (fun hc => ?_) (fun hc => ?_)
    · have hf := zift hf hc
      exact t_X10_track_b134 l G a0 a1 W0 r s0 s1 k79 hk79 x2 x3 x4 x5 hf
    · have hf := ziff hf hc
      obtain ⟨q7, e7, hf⟩ := zbi_of hf
      refine zr_run [(.aload_n 0, 0, 0, 0, .null), (.iload 5, 0, 0, 0, .null), (.iconst 1, 0, 0, 0, .int (1 : Int32)), (.iadd, 0, 0, 0, .null), (.iload 4, 0, 0, 0, .null), (.iload_n 2, 0, 0, 0, .null)] [] (WW' := [w_Tr G a0 s0, w_Rd G a1 s1]) (lv' := [some (.ref (a0 0)), none, some (.int x2), some (.int x3), some (.int x4), some (.int x5)]) (pc' := 106) (st' := [.int x2, .int x4, .int (x5 + (1 : Int32)), .ref (a0 0)]) (by decide +kernel) rfl rfl ⟨trivial, trivial, trivial, trivial, trivial, trivial, trivial⟩ ?_
      refine zr_callV (c_X10_goesBackFrom l G a0 s0 (x5 + (1 : Int32)) x4 x2 q7 e7) (WW' := fun _ => [w_Tr G a0 s0, w_Rd G a1 s1]) (st := []) (st' := [.int q7]) [0] rfl rfl (fun _ => Nat.le_of_ble_eq_true rfl) (fun _ => rfl) rfl rfl nm_X10_goesBackFrom zw_4_182 zw_4_184 zw_0_26 zw_1_17 zw_4_185 rfl rfl rfl (Nat.le_of_ble_eq_true rfl) ⟨Nat.le_of_ble_eq_true rfl, Nat.le_of_ble_eq_true rfl⟩ (by decide +kernel) (fun _ => ?_)
      refine zr_if_eq (off := 25) (tgt := 134) (by decide +kernel) (by decide) (fun hc => ?_) (fun hc => ?_)
      · have hf := zift hf hc
        exact t_X10_track_b134 l G a0 a1 W0 r s0 s1 k79 hk79 x2 x3 x4 x5 hf
      · have hf := ziff hf hc
        obtain ⟨h8, hf⟩ := zck_of hf
        obtain ⟨h9, hf⟩ := zck_of hf
        obtain ⟨q10, e10, hf⟩ := zbi_of hf
        refine zr_run [(.aload_n 0, 0, 0, 0, .null), (.aload_n 0, 0, 0, 0, .null), (.getfield 18, 0, 0, 2, .null), (.iload 5, 0, 0, 0, .null), (.iaload, 0, 1, 0, .null), (.aload_n 0, 0, 0, 0, .null), (.getfield 18, 0, 0, 2, .null), (.iload 5, 0, 0, 0, .null), (.iconst 1, 0, 0, 0, .int (1 : Int32)), (.iadd, 0, 0, 0, .null), (.iaload, 0, 1, 0, .null), (.iload_n 2, 0, 0, 0, .null), (.iload_n 3, 0, 0, 0, .null)] [] (WW' := [w_Tr G a0 s0, w_Rd G a1 s1]) (lv' := [some (.ref (a0 0)), none, some (.int x2), some (.int x3), some (.int x4), some (.int x5)]) (pc' := 131) (st' := [.int x3, .int x2, .int ((Tr_seen s0) (x5 + (1 : Int32)).toNatClampNeg), .int ((Tr_seen s0) x5.toNatClampNeg), .ref (a0 0)]) (by decide +kernel) rfl rfl ⟨trivial, trivial, ⟨rfl, rfl, zw_2_138⟩, trivial, ⟨rfl, rfl, h8⟩, trivial, ⟨rfl, rfl, zw_2_138⟩, trivial, trivial, trivial, ⟨rfl, rfl, h9⟩, trivial, trivial, trivial⟩ ?_
        refine zr_callV (c_X10_mark l G a0 s0 ((Tr_seen s0) x5.toNatClampNeg) ((Tr_seen s0) (x5 + (1 : Int32)).toNatClampNeg) x2 x3 q10 e10) (WW' := fun _ => [w_Tr G a0 q10, w_Rd G a1 s1]) (st := []) (st' := []) [0] rfl rfl (fun _ => Nat.le_of_ble_eq_true rfl) (fun _ => rfl) rfl rfl nm_X10_mark zw_4_186 zw_4_188 zw_0_27 zw_1_17 zw_4_189 rfl rfl rfl (Nat.le_of_ble_eq_true rfl) ⟨Nat.le_of_ble_eq_true rfl, Nat.le_of_ble_eq_true rfl⟩ (by decide +kernel) (fun _ => ?_)
        exact t_X10_track_b134 l G a0 a1 W0 r q10 s1 k79 hk79 x2 x3 x4 x5 hf
  · have hf := ziff hf hc
    obtain ⟨q11, e11, hf⟩ := zbi_of hf
    refine zr_run [(.aload_n 0, 0, 0, 0, .null), (.iload_n 3, 0, 0, 0, .null)] [] (WW' := [w_Tr G a0 s0, w_Rd G a1 s1]) (lv' := [some (.ref (a0 0)), none, some (.int x2), some (.int x3), some (.int x4), some (.int x5)]) (pc' := 142) (st' := [.int x3, .ref (a0 0)]) (by decide +kernel) rfl rfl ⟨trivial, trivial, trivial⟩ ?_
    refine zr_callV (c_X10_tell l G a0 s0 x3 q11 e11) (WW' := fun _ => [w_Tr G a0 q11.2, w_Rd G a1 s1]) (st := []) (st' := [.int q11.1]) [0] rfl rfl (fun _ => Nat.le_of_ble_eq_true rfl) (fun _ => rfl) rfl rfl nm_X10_tell zw_4_193 zw_4_195 zw_0_28 zw_1_17 zw_4_196 rfl rfl rfl (Nat.le_of_ble_eq_true rfl) ⟨Nat.le_of_ble_eq_true rfl, Nat.le_of_ble_eq_true rfl⟩ (by decide +kernel) (fun _ => ?_)
    obtain rfl := Option.some.inj hf
    exact zr_iret (b0 := fun _ => 0) (by decide +kernel) rfl rfl rfl rfl rfl
theorem t_X10_track_L79 (l : Launch) (G : zj_G) (a0 : Nat → Nat) (a1 : Nat → Nat) (W0 : List va_W) (r : Int32 × TrT) (s1 : RdT)   : ∀ (n : Nat) (s0 : TrT) (x2 : Int32) (x3 : Int32) (x4 : Int32) (x5 : Int32), f_X10_track_L79 s1 n s0 x2 x3 x4 x5 = some r → zj_J l G M_X10_track W0 (zj_ret G M_X10_track W0 (some (.int r.1)) (fun _ => [w_Tr G a0 r.2, w_Rd G a1 s1])) 0 0 [w_Tr G a0 s0, w_Rd G a1 s1] [some (.ref (a0 0)), none, some (.int x2), some (.int x3), some (.int x4), some (.int x5)] 79 [] := by
  intro n
  induction n with
  | zero => intro s0 x2 x3 x4 x5 hf; exact nomatch (show none = some r from hf)
  | succ n ih => intro s0 x2 x3 x4 x5 hf; exact t_X10_track_H79 l G a0 a1 W0 r s0 s1  (f_X10_track_L79 s1 n)  ih x2 x3 x4 x5  hf
set_option maxRecDepth 100000 in
set_option maxHeartbeats 4000000 in
theorem t_X10_track_H24 (l : Launch) (G : zj_G) (a0 : Nat → Nat) (a1 : Nat → Nat) (W0 : List va_W) (r : Int32 × TrT) (s0 : TrT) (s1 : RdT) (k24 : TrT → Int32 → Int32 → Int32 → Int32 → Option (Int32 × TrT)) (hk24 : ∀ (s0 : TrT) (x2 : Int32) (x3 : Int32) (x4 : Int32) (x5 : Int32), k24 s0 x2 x3 x4 x5 = some r → zj_J l G M_X10_track W0 (zj_ret G M_X10_track W0 (some (.int r.1)) (fun _ => [w_Tr G a0 r.2, w_Rd G a1 s1])) 0 0 [w_Tr G a0 s0, w_Rd G a1 s1] [some (.ref (a0 0)), some (.ref (a1 0)), some (.int x2), some (.int x3), some (.int x4), some (.int x5)] 24 []) (x2 : Int32) (x3 : Int32) (x4 : Int32) (x5 : Int32) (hf : f_X10_track_H24 s0 s1 k24 x2 x3 x4 x5 = some r) : zj_J l G M_X10_track W0 (zj_ret G M_X10_track W0 (some (.int r.1)) (fun _ => [w_Tr G a0 r.2, w_Rd G a1 s1])) 0 0 [w_Tr G a0 s0, w_Rd G a1 s1] [some (.ref (a0 0)), some (.ref (a1 0)), some (.int x2), some (.int x3), some (.int x4), some (.int x5)] 24 [] := by
  unfold f_X10_track_H24 at hf
  refine zr_run [(.iload 5, 0, 0, 0, .null), (.iload 4, 0, 0, 0, .null)] [] (WW' := [w_Tr G a0 s0, w_Rd G a1 s1]) (lv' := [some (.ref (a0 0)), some (.ref (a1 0)), some (.int x2), some (.int x3), some (.int x4), some (.int x5)]) (pc' := 28) (st' := [.int x4, .int x5]) (by decide +kernel) rfl rfl ⟨trivial, trivial, trivial⟩ ?_
  refine zr_icmp_ge (off := 40) (tgt := 68) (by decide +kernel) (by decide) (fun hc => ?_) (fun hc => ?_)
  · have hf := zift hf hc
    obtain ⟨h1, hf⟩ := zck_of hf
    obtain ⟨h2, hf⟩ := zck_of hf
    obtain ⟨y3, e3, hf⟩ := zlet_of hf
    refine zr_run [(.aload_n 0, 0, 0, 0, .null), (.getfield 18, 0, 0, 2, .null), (.iload 5, 0, 0, 0, .null), (.aload_n 1, 0, 0, 0, .null), (.getfield 31, 1, 0, 0, .null), (.iload 5, 0, 0, 0, .null), (.baload, 1, 1, 0, .null), (.sipush 255, 0, 0, 0, .int (255 : Int32)), (.iand, 0, 0, 0, .null), (.iastore, 0, 1, 0, .null)] [] (WW' := [w_Tr G a0 (Tr_s_seen s0 ((upd (Tr_seen s0) x5.toNatClampNeg (((Rd_tape s1) x5.toNatClampNeg) &&& (255 : Int32))))), w_Rd G a1 s1]) (lv' := [some (.ref (a0 0)), some (.ref (a1 0)), some (.int x2), some (.int x3), some (.int x4), some (.int x5)]) (pc' := 49) (st' := []) (by decide +kernel) rfl rfl ⟨trivial, ⟨rfl, rfl, zw_2_138⟩, trivial, trivial, ⟨rfl, rfl, zw_1_91⟩, trivial, ⟨rfl, rfl, h1⟩, trivial, trivial, ⟨rfl, rfl, h2⟩, trivial⟩ ?_
    refine zr_eq (WW2 := [w_Tr G a0 y3, w_Rd G a1 s1]) (lv2 := [some (.ref (a0 0)), some (.ref (a1 0)), some (.int x2), some (.int x3), some (.int x4), some (.int x5)]) (st2 := []) (by rw [e3]) rfl rfl ?_
    obtain ⟨h4, hf⟩ := zck_of hf
    refine zr_run [(.aload_n 0, 0, 0, 0, .null), (.getfield 18, 0, 0, 2, .null), (.iload 5, 0, 0, 0, .null), (.iaload, 0, 1, 0, .null), (.iload_n 3, 0, 0, 0, .null)] [] (WW' := [w_Tr G a0 y3, w_Rd G a1 s1]) (lv' := [some (.ref (a0 0)), some (.ref (a1 0)), some (.int x2), some (.int x3), some (.int x4), some (.int x5)]) (pc' := 57) (st' := [.int x3, .int ((Tr_seen y3) x5.toNatClampNeg)]) (by decide +kernel) rfl rfl ⟨trivial, ⟨rfl, rfl, zw_2_138⟩, trivial, ⟨rfl, rfl, h4⟩, trivial, trivial⟩ ?_
    refine zr_icmp_le (off := 5) (tgt := 62) (by decide +kernel) (by decide) (fun hc => ?_) (fun hc => ?_)
    · have hf := zift hf hc
      refine zr_run [(.iconst (-1), 0, 0, 0, .int (-1 : Int32))] [] (WW' := [w_Tr G a0 y3, w_Rd G a1 s1]) (lv' := [some (.ref (a0 0)), some (.ref (a1 0)), some (.int x2), some (.int x3), some (.int x4), some (.int x5)]) (pc' := 61) (st' := [.int (-1 : Int32)]) (by decide +kernel) rfl rfl ⟨trivial, trivial⟩ ?_
      obtain rfl := Option.some.inj hf
      exact zr_iret (b0 := fun _ => 0) (by decide +kernel) rfl rfl rfl rfl rfl
    · have hf := ziff hf hc
      refine zr_run [(.iinc 5 1, 0, 0, 0, .int (1 : Int32))] [] (WW' := [w_Tr G a0 y3, w_Rd G a1 s1]) (lv' := [some (.ref (a0 0)), some (.ref (a1 0)), some (.int x2), some (.int x3), some (.int x4), some (.int (x5 + (1 : Int32)))]) (pc' := 65) (st' := []) (by decide +kernel) rfl rfl ⟨trivial, trivial⟩ ?_
      refine zr_goto (off := -41) (tgt := 24) (by decide +kernel) (by decide) ?_
      exact hk24 y3 x2 x3 x4 (x5 + (1 : Int32)) hf
  · have hf := ziff hf hc
    refine zr_run [(.aload_n 0, 0, 0, 0, .null), (.getfield 22, 0, 0, 3, .null), (.iconst 0, 0, 0, 0, .int (0 : Int32))] [] (WW' := [w_Tr G a0 s0, w_Rd G a1 s1]) (lv' := [some (.ref (a0 0)), some (.ref (a1 0)), some (.int x2), some (.int x3), some (.int x4), some (.int x5)]) (pc' := 73) (st' := [.int (0 : Int32), .ref (a0 2)]) (by decide +kernel) rfl rfl ⟨trivial, ⟨rfl, rfl, zw_2_139⟩, trivial, trivial⟩ ?_
    refine zr_fillB (b := 0) (c' := 2) rfl rfl rfl (Nat.le_of_ble_eq_true rfl) zw_4_175 zw_4_176 zw_1_13 zw_4_177 rfl (Nat.le_of_ble_eq_true rfl) ⟨Nat.le_of_ble_eq_true rfl, Nat.le_of_ble_eq_true rfl⟩ (by decide +kernel) ?_
    refine zr_eq (WW2 := [w_Tr G a0 (Tr_s_marks s0 ((zr_fill 271 (Tr_marks s0) (vp_nar .byte (0 : Int32))))), w_Rd G a1 s1]) rfl rfl rfl ?_
    obtain ⟨y5, e5, hf⟩ := zlet_of hf
    refine zr_eq (WW2 := [w_Tr G a0 y5, w_Rd G a1 s1]) (lv2 := [some (.ref (a0 0)), some (.ref (a1 0)), some (.int x2), some (.int x3), some (.int x4), some (.int x5)]) (st2 := []) (by rw [e5]) rfl rfl ?_
    refine zr_run [(.iconst 0, 0, 0, 0, .int (0 : Int32)), (.istore 5, 0, 0, 0, .null)] [1] (WW' := [w_Tr G a0 y5, w_Rd G a1 s1]) (lv' := [some (.ref (a0 0)), none, some (.int x2), some (.int x3), some (.int x4), some (.int (0 : Int32))]) (pc' := 79) (st' := []) (by decide +kernel) rfl rfl ⟨trivial, trivial, trivial⟩ ?_
    exact t_X10_track_L79 l G a0 a1 W0 r s1 zFU y5 x2 x3 x4 (0 : Int32) hf
theorem t_X10_track_L24 (l : Launch) (G : zj_G) (a0 : Nat → Nat) (a1 : Nat → Nat) (W0 : List va_W) (r : Int32 × TrT) (s1 : RdT)   : ∀ (n : Nat) (s0 : TrT) (x2 : Int32) (x3 : Int32) (x4 : Int32) (x5 : Int32), f_X10_track_L24 s1 n s0 x2 x3 x4 x5 = some r → zj_J l G M_X10_track W0 (zj_ret G M_X10_track W0 (some (.int r.1)) (fun _ => [w_Tr G a0 r.2, w_Rd G a1 s1])) 0 0 [w_Tr G a0 s0, w_Rd G a1 s1] [some (.ref (a0 0)), some (.ref (a1 0)), some (.int x2), some (.int x3), some (.int x4), some (.int x5)] 24 [] := by
  intro n
  induction n with
  | zero => intro s0 x2 x3 x4 x5 hf; exact nomatch (show none = some r from hf)
  | succ n ih => intro s0 x2 x3 x4 x5 hf; exact t_X10_track_H24 l G a0 a1 W0 r s0 s1  (f_X10_track_L24 s1 n)  ih x2 x3 x4 x5  hf
set_option maxRecDepth 100000 in
set_option maxHeartbeats 4000000 in
theorem c_X10_track (l : Launch) (G : zj_G) (a0 : Nat → Nat) (a1 : Nat → Nat) (s0 : TrT) (s1 : RdT) (x2 : Int32) (x3 : Int32) (r : Int32 × TrT) (hf : f_X10_track s0 s1 x2 x3 = some r) : zj_C l G M_X10_track yX10_track [w_Tr G a0 s0, w_Rd G a1 s1] [.ref (a0 0), .ref (a1 0), .int x2, .int x3] (some (.int r.1)) (fun _ => [w_Tr G a0 r.2, w_Rd G a1 s1]) := by
  have key : ∀ W0 : List va_W, zj_J l G M_X10_track W0 (zj_ret G M_X10_track W0 (some (.int r.1)) (fun _ => [w_Tr G a0 r.2, w_Rd G a1 s1])) 0 0 [w_Tr G a0 s0, w_Rd G a1 s1] [some (.ref (a0 0)), some (.ref (a1 0)), some (.int x2), some (.int x3), none, none] 0 [] := by
    intro W0
    unfold f_X10_track at hf
    refine zr_run [(.aload_n 1, 0, 0, 0, .null), (.getfield 26, 1, 0, 1, .null), (.istore 4, 0, 0, 0, .null), (.iload 4, 0, 0, 0, .null), (.iconst 2, 0, 0, 0, .int (2 : Int32))] [] (WW' := [w_Tr G a0 s0, w_Rd G a1 s1]) (lv' := [some (.ref (a0 0)), some (.ref (a1 0)), some (.int x2), some (.int x3), some (.int (Rd_length s1)), none]) (pc' := 9) (st' := [.int (2 : Int32), .int (Rd_length s1)]) (by decide +kernel) rfl rfl ⟨trivial, ⟨rfl, rfl, zw_1_93⟩, trivial, trivial, trivial, trivial⟩ ?_
    refine zr_icmp_lt (off := 10) (tgt := 19) (by decide +kernel) (by decide) (fun hc => ?_) (fun hc => ?_)
    · have hf := zift hf hc
      refine zr_run [(.iconst (-1), 0, 0, 0, .int (-1 : Int32))] [] (WW' := [w_Tr G a0 s0, w_Rd G a1 s1]) (lv' := [some (.ref (a0 0)), some (.ref (a1 0)), some (.int x2), some (.int x3), some (.int (Rd_length s1)), none]) (pc' := 20) (st' := [.int (-1 : Int32)]) (by decide +kernel) rfl rfl ⟨trivial, trivial⟩ ?_
      obtain rfl := Option.some.inj hf
      exact zr_iret (b0 := fun _ => 0) (by decide +kernel) rfl rfl rfl rfl rfl
    · have hf := ziff hf hc
      refine zr_run [(.iload 4, 0, 0, 0, .null), (.bipush 20, 0, 0, 0, .int (20 : Int32))] [] (WW' := [w_Tr G a0 s0, w_Rd G a1 s1]) (lv' := [some (.ref (a0 0)), some (.ref (a1 0)), some (.int x2), some (.int x3), some (.int (Rd_length s1)), none]) (pc' := 16) (st' := [.int (20 : Int32), .int (Rd_length s1)]) (by decide +kernel) rfl rfl ⟨trivial, trivial, trivial⟩ ?_
      refine zr_icmp_le (off := 5) (tgt := 21) (by decide +kernel) (by decide) (fun hc => ?_) (fun hc => ?_)
      · have hf := zift hf hc
        refine zr_run [(.iconst (-1), 0, 0, 0, .int (-1 : Int32))] [] (WW' := [w_Tr G a0 s0, w_Rd G a1 s1]) (lv' := [some (.ref (a0 0)), some (.ref (a1 0)), some (.int x2), some (.int x3), some (.int (Rd_length s1)), none]) (pc' := 20) (st' := [.int (-1 : Int32)]) (by decide +kernel) rfl rfl ⟨trivial, trivial⟩ ?_
        obtain rfl := Option.some.inj hf
        exact zr_iret (b0 := fun _ => 0) (by decide +kernel) rfl rfl rfl rfl rfl
      · have hf := ziff hf hc
        refine zr_run [(.iconst 0, 0, 0, 0, .int (0 : Int32)), (.istore 5, 0, 0, 0, .null)] [] (WW' := [w_Tr G a0 s0, w_Rd G a1 s1]) (lv' := [some (.ref (a0 0)), some (.ref (a1 0)), some (.int x2), some (.int x3), some (.int (Rd_length s1)), some (.int (0 : Int32))]) (pc' := 24) (st' := []) (by decide +kernel) rfl rfl ⟨trivial, trivial, trivial⟩ ?_
        exact t_X10_track_L24 l G a0 a1 W0 r s1 zFU s0 x2 x3 (Rd_length s1) (0 : Int32) hf
  exact zj_entry [some (.ref (a0 0)), some (.ref (a1 0)), some (.int x2), some (.int x3), none, none] (by decide +kernel) rfl (by decide) (Nat.le_of_ble_eq_true rfl) rfl rfl (key _)
