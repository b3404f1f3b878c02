theorem zr_shr0 (x : Int32) : zr_shr x 0 = x := by
  show x >>> ((0 : Int32) &&& 31) = x
  rw [show ((0 : Int32) &&& 31) = 0 from by decide]
  simp
section
variable {l : Launch} {G : zj_G} {M : zj_M} {W0 : List va_W} {Φ : zj_F} {k n : Nat} {WW : List va_W} {lv : List (Option Value)} {pc : Nat} {st stk st' : List Value}
theorem zr_ldcS {i ix : Nat} {tx : String} (hq : zj_n zj_sx i = some (M.1, ix, tx)) (hd : decode M.2.1 pc = .ok (.ldc ix, 2)) (kk : zj_J l G M W0 Φ k n WW lv (pc + 2) (.ref (G.2.2.1 i) :: st)) : zj_J l G M W0 Φ k n WW lv pc st := by
  intro p e s m args below meth c H locs ls C hP hD hS hl
  exact va_ldcS C.1 C.2.1 C.2.2.2.2.1 (C.2.2.2.2.2.2.1.2.2.2.2.1 i _ hq) hd (kk p e s m args below meth c H locs ls C hP hD hS hl)
theorem zr_sval {i ix : Nat} (hi : i < 8) (hw : Cond.fieldLink M.1 ix "java/lang/String" "value" "[B" ∈ zT) (hd : decode M.2.1 pc = .ok (.getfield ix, 3)) (kk : zj_J l G M W0 Φ k n WW lv (pc + 3) (.ref (G.2.2.2 i) :: st)) : zj_J l G M W0 Φ k n WW lv pc (.ref (G.2.2.1 i) :: st) := by
  intro p e s m args below meth c H locs ls C hP hD hS hl
  exact va_getX (N := 8) (v := fun i => .ref (G.2.2.2 i)) (ad := G.2.2.1) C.1 C.2.1 (fun j hj => (C.2.2.2.2.2.2.1.2.2.2.1.1 j hj).2.2.1) hi hS C.2.2.2.2.1 (C.2.2.2.2.2.1 _ hw) (fun _ h => h) hd (kk p e s m args below meth c H locs ls C hP hD hS hl)
theorem zr_scod {i ix : Nat} (hi : i < 8) (hw : Cond.fieldLink M.1 ix "java/lang/String" "coder" "B" ∈ zT) (hd : decode M.2.1 pc = .ok (.getfield ix, 3)) (kk : zj_J l G M W0 Φ k n WW lv (pc + 3) (.int 0 :: st)) : zj_J l G M W0 Φ k n WW lv pc (.ref (G.2.2.1 i) :: st) := by
  intro p e s m args below meth c H locs ls C hP hD hS hl
  exact va_getX (N := 8) (v := fun _ => .int 0) (ad := G.2.2.1) C.1 C.2.1 (fun j hj => (C.2.2.2.2.2.2.1.2.2.2.1.1 j hj).2.1) hi hS C.2.2.2.2.1 (C.2.2.2.2.2.1 _ hw) (fun _ h => h) hd (kk p e s m args below meth c H locs ls C hP hD hS hl)
theorem zr_slen {i : Nat} (hi : i < 8) (hd : decode M.2.1 pc = .ok (.arraylength, 1)) (kk : zj_J l G M W0 Φ k n WW lv (pc + 1) (.int (nI (zj_slen.getD i 0)) :: st)) : zj_J l G M W0 Φ k n WW lv pc (.ref (G.2.2.2 i) :: st) := by
  intro p e s m args below meth c H locs ls C hP hD hS hl
  exact va_tlen C.1 C.2.1 (C.2.2.2.2.2.2.1.2.2.2.1.1 i hi).2.2.2 hS rfl hd (kk p e s m args below meth c H locs ls C hP hD hS hl)
theorem zr_sbald {i : Nat} {x : Int32} (hi : i < 8) (hx : zb_in x (zj_slen.getD i 0) = true) (hd : decode M.2.1 pc = .ok (.baload, 1)) (kk : zj_J l G M W0 Φ k n WW lv (pc + 1) (.int ((zj_sbyt.getD i []).getD x.toNatClampNeg 0) :: st)) : zj_J l G M W0 Φ k n WW lv pc (.int x :: .ref (G.2.2.2 i) :: st) := by
  intro p e s m args below meth c H locs ls C hP hD hS hl
  exact va_tb C.1 C.2.1 (C.2.2.2.2.2.2.1.2.2.2.1.1 i hi).2.2.2 hS (zb_in_of hx) rfl hd (kk p e s m args below meth c H locs ls C hP hD hS hl)
theorem zr_compact {ix : Nat} (hw : Cond.fieldLink M.1 ix "java/lang/String" "COMPACT_STRINGS" "Z" ∈ zT) (hd : decode M.2.1 pc = .ok (.getstatic ix, 3)) (kk : zj_J l G M W0 Φ k n WW lv (pc + 3) (.int 1 :: st)) : zj_J l G M W0 Φ k n WW lv pc st := by
  intro p e s m args below meth c H locs ls C hP hD hS hl
  exact va_gets C.1 C.2.1 C.2.2.2.2.2.2.1.2.2.2.2.2.1 hS C.2.2.2.2.1 (C.2.2.2.2.2.1 _ hw) (fun _ h => h) hd (kk p e s m args below meth c H locs ls C hP hD hS hl)
theorem zr_sioobe {ix : Nat} (hw : Cond.fieldLink M.1 ix "jdk/internal/util/Preconditions" "SIOOBE_FORMATTER" "Ljava/util/function/BiFunction;" ∈ zT) (hd : decode M.2.1 pc = .ok (.getstatic ix, 3)) (k1 : zj_J l G M W0 Φ k n WW lv (pc + 3) (.null :: st)) (k2 : ∀ t : Nat, zj_J l G M W0 Φ k n WW lv (pc + 3) (.ref t :: st)) : zj_J l G M W0 Φ k n WW lv pc st := by
  intro p e s m args below meth c H locs ls C hP hD hS hl
  rcases C.2.2.2.2.2.2.1.2.2.2.2.2.2.1 with h | ⟨t, h⟩
  · exact va_gets C.1 C.2.1 h hS C.2.2.2.2.1 (C.2.2.2.2.2.1 _ hw) (fun _ h => h) hd (k1 p e s m args below meth c H locs ls C hP hD hS hl)
  · exact va_gets C.1 C.2.1 h hS C.2.2.2.2.1 (C.2.2.2.2.2.1 _ hw) (fun _ h => h) hd (k2 t p e s m args below meth c H locs ls C hP hD hS hl)
theorem zr_i2c {x : Int32} (hd : decode M.2.1 pc = .ok (.i2c, 1)) (kk : zj_J l G M W0 Φ k n WW lv (pc + 1) (.int ((x.toUInt32 % 65536).toInt32) :: st)) : zj_J l G M W0 Φ k n WW lv pc (.int x :: st) := by
  intro p e s m args below meth c H locs ls C hP hD hS hl
  exact lv_i2c C.1 C.2.1 hd rfl (kk p e s m args below meth c H locs ls C hP hD hS hl)
theorem zr_nret {v : Int32} {ty : FieldType} {rv : Option Value} {W1 : (Nat → Nat) → List va_W} {b0 : Nat → Nat} (hz : narrow ty (.int v) = .int v) (hd : decode M.2.1 pc = .ok (.ireturn, 1)) (hr : M.2.2.2.1 = some ty) (hrv : rv = some (.int v)) (hW : W1 b0 = WW) (hk : k = M.2.2.2.2.1.cells) (hn : n = M.2.2.2.2.1.slots) : zj_J l G M W0 (zj_ret G M W0 rv W1) k n WW lv pc [.int v] := by
  intro p e s m args below meth c H locs ls C hP hD hS hl
  subst hk; subst hn; subst hrv; subst hW
  exact W.zret C.1 C.2.1 (C.2.2.2.1.trans hr) hz (fun t ht hW => ⟨⟨b0, rfl, by rw [ht]; exact hP, hD⟩, hS.F ht⟩) hS.2.2 hd C.2.2.2.2.2.2.2.1
/-- a call on one of the String constants -/
theorem zr_callX {MC : zj_M} {y : MethodName} {rvC : Option Value} {As : List Value} {j i : Nat} (hC : zj_C l G MC y [] (.ref (G.2.2.1 j) :: As) rvC (fun _ => [])) (hj : j < 8) (hcls : y.cls = "java/lang/String")
    (hstk : stk = As.reverse ++ .ref (G.2.2.1 j) :: st) (hst : rvC.toList ++ st = st') (hy : zj_nm y As.length) (w1 : Cond.methodLink M.1 i y ∈ zT) (w2 : Cond.instanceMethod y ∈ zT) (w3 : Cond.selects y.cls y y ∈ zT) (w4 : Cond.initialized y.cls ∈ zT) (w5 : Cond.code y MC.2.1 MC.2.2.1 MC.2.2.2.1 ∈ zT)
    (hrm : zj_rm M.2.2.2.2.1 MC = true) (hcat : (st.map fun v => v.category).sum ≤ 8) (hcs : k + MC.2.2.2.2.1.cells ≤ M.2.2.2.2.1.cells ∧ n + MC.2.2.2.2.1.slots ≤ M.2.2.2.2.1.slots)
    (hd : decode M.2.1 pc = .ok (.invokevirtual i, 3)) (kk : zj_J l G M W0 Φ (k + MC.2.2.2.2.1.cells) (n + MC.2.2.2.2.1.slots) WW lv (pc + 3) st') : zj_J l G M W0 Φ k n WW lv pc stk := by
  intro p e s m args below meth c H locs ls C hP hD hS hl
  subst hstk
  have hT : GoodIn zT (wsV M.1 i y.cls y (.code y MC.2.1 MC.2.2.1 MC.2.2.2.1 :: zT)) := zj_good _ (fun w hw => by
    simp only [wsV, List.cons_append, List.nil_append, List.mem_cons] at hw
    rcases hw with rfl | rfl | rfl | rfl | rfl | hw
    · exact w1
    · exact w2
    · exact w3
    · exact w4
    · exact w5
    · exact hw)
  have hrecv : ∃ cellB : Cell, H[G.2.2.1 j]? = some cellB ∧ cellB.vm.isStatics = false ∧ s.vm.findClass y.cls = some cellB.cls := by
    obtain ⟨cell, h1, h2, h3, h4⟩ := ((C.2.2.2.2.2.2.1.2.2.2.1.1 j hj).1).kept hS.2.1
    exact ⟨cell, h1, h2, by rw [hcls]; exact h3⟩
  exact zj_after (MC := MC) (WC := []) (W1C := fun _ => []) (WW' := fun _ => WW) C hP hD hS hl [] rfl rfl (fun _ => Nat.le_refl _) (fun _ => by simp [zj_rep]) hst (va_runV ⟨C.1, C.2.1, C.2.2.1, C.2.2.2.2.1, C.2.2.2.2.2.1⟩ (hC H.size) (cwV (ws' := zT) As.length C.2.2.2.2.2.1 hT rfl rfl rfl ⟨rfl, hy.1, hy.2.1, hy.2.2⟩ (zj_rm_of hrm))
    ⟨zj_PcBlind, hrecv, zj_PcTo (is := []) C hP hD hS rfl rfl _⟩ rfl rfl hl.1.1 rfl (lv_room hcat) hd hcs) (fun _ => kk)
end
/-- the char at a place -/
def zj_ch (i : Nat) (x : Int32) : Int32 := (zj_sbyt.getD i []).getD x.toNatClampNeg 0
theorem zj_ch_all : ∀ i, i < 8 → ∀ b ∈ zj_sbyt.getD i [], ((b &&& 255).toUInt32 % 65536).toInt32 = b ∧ narrow .char (.int b) = .int b := by decide +kernel
theorem zj_sl_all : ∀ i, i < 8 → zj_slen.getD i 0 = (zj_sbyt.getD i []).length ∧ (zj_sbyt.getD i []).length < 1000 := by decide +kernel
theorem zj_ch_in {i : Nat} {x : Int32} (hi : i < 8) (hx : zb_in x (zj_slen.getD i 0) = true) : zj_ch i x ∈ zj_sbyt.getD i [] := by
  simp only [zb_in, Bool.and_eq_true, decide_eq_true_eq] at hx
  rw [(zj_sl_all i hi).1] at hx
  unfold zj_ch
  generalize zj_sbyt.getD i [] = L at hx ⊢
  rw [List.getD_eq_getElem?_getD, List.getElem?_eq_getElem hx.2]
  exact List.getElem_mem hx.2
def M_J0_coder_7d493 : zj_M := (RJ0, cJ0_coder_7d493, 1, (some .byte), { frames := 0, cells := 0, slots := 0, locals := 0 }, false)
theorem nm_J0_coder_7d493 : zj_nm yJ0_coder_7d493 0 := ⟨by decide +kernel, by decide +kernel, by decide +kernel⟩
set_option maxRecDepth 100000 in
set_option maxHeartbeats 4000000 in
theorem c_J0_coder_7d493 (l : Launch) (G : zj_G) (i : Nat) (hi : i < 8) : zj_C l G M_J0_coder_7d493 yJ0_coder_7d493 [] [.ref (G.2.2.1 i)] (some (.int 0)) (fun _ => []) := by
  have key : ∀ W0 : List va_W, zj_J l G M_J0_coder_7d493 W0 (zj_ret G M_J0_coder_7d493 W0 (some (.int 0)) (fun _ => [])) 0 0 [] [some (.ref (G.2.2.1 i))] 0 [] := by
    intro W0
    refine zr_compact zw_1_49 (by decide +kernel) ?_
    refine zr_if_eq (off := 10) (tgt := 13) (by decide +kernel) (by decide) (fun hc => absurd hc (by decide)) (fun _ => ?_)
    refine zr_run [(.aload_n 0, 0, 0, 0, .null)] [] (WW' := []) (lv' := [some (.ref (G.2.2.1 i))]) (pc' := 7) (st' := [.ref (G.2.2.1 i)]) (by decide +kernel) rfl rfl ⟨trivial, trivial⟩ ?_
    refine zr_scod hi zw_9_1 (by decide +kernel) ?_
    refine zr_goto (off := 4) (tgt := 14) (by decide +kernel) (by decide) ?_
    exact zr_nret (b0 := fun _ => 0) (by decide +kernel) (by decide +kernel) rfl rfl rfl rfl rfl
  exact zj_entry [some (.ref (G.2.2.1 i))] (by decide +kernel) rfl (by decide) (Nat.le_of_ble_eq_true rfl) rfl rfl (key _)
def M_J0_isLatin1_aae02 : zj_M := (RJ0, cJ0_isLatin1_aae02, 1, (some .boolean), { frames := 0, cells := 0, slots := 0, locals := 0 }, false)
theorem nm_J0_isLatin1_aae02 : zj_nm yJ0_isLatin1_aae02 0 := ⟨by decide +kernel, by decide +kernel, by decide +kernel⟩
set_option maxRecDepth 100000 in
set_option maxHeartbeats 4000000 in
theorem c_J0_isLatin1_aae02 (l : Launch) (G : zj_G) (i : Nat) (hi : i < 8) : zj_C l G M_J0_isLatin1_aae02 yJ0_isLatin1_aae02 [] [.ref (G.2.2.1 i)] (some (.int 1)) (fun _ => []) := by
  have key : ∀ W0 : List va_W, zj_J l G M_J0_isLatin1_aae02 W0 (zj_ret G M_J0_isLatin1_aae02 W0 (some (.int 1)) (fun _ => [])) 0 0 [] [some (.ref (G.2.2.1 i))] 0 [] := by
    intro W0
    refine zr_compact zw_1_49 (by decide +kernel) ?_
    refine zr_if_eq (off := 14) (tgt := 17) (by decide +kernel) (by decide) (fun hc => absurd hc (by decide)) (fun _ => ?_)
    refine zr_run [(.aload_n 0, 0, 0, 0, .null)] [] (WW' := []) (lv' := [some (.ref (G.2.2.1 i))]) (pc' := 7) (st' := [.ref (G.2.2.1 i)]) (by decide +kernel) rfl rfl ⟨trivial, trivial⟩ ?_
    refine zr_scod hi zw_9_1 (by decide +kernel) ?_
    refine zr_if_ne (off := 7) (tgt := 17) (by decide +kernel) (by decide) (fun _ => ?_) (fun hc => absurd rfl hc)
    refine zr_run [(.iconst 1, 0, 0, 0, .int (1 : Int32))] [] (WW' := []) (lv' := [some (.ref (G.2.2.1 i))]) (pc' := 14) (st' := [.int (1 : Int32)]) (by decide +kernel) rfl rfl ⟨trivial, trivial⟩ ?_
    refine zr_goto (off := 4) (tgt := 18) (by decide +kernel) (by decide) ?_
    exact zr_nret (b0 := fun _ => 0) (by decide +kernel) (by decide +kernel) rfl rfl rfl rfl rfl
  exact zj_entry [some (.ref (G.2.2.1 i))] (by decide +kernel) rfl (by decide) (Nat.le_of_ble_eq_true rfl) rfl rfl (key _)
def M_J0_length_8abf5 : zj_M := (RJ0, cJ0_length_8abf5, 1, (some .int), { frames := 1, cells := 0, slots := 0, locals := 30 }, false)
theorem nm_J0_length_8abf5 : zj_nm yJ0_length_8abf5 0 := ⟨by decide +kernel, by decide +kernel, by decide +kernel⟩
set_option maxRecDepth 100000 in
set_option maxHeartbeats 4000000 in
theorem c_J0_length_8abf5 (l : Launch) (G : zj_G) (i : Nat) (hi : i < 8) : zj_C l G M_J0_length_8abf5 yJ0_length_8abf5 [] [.ref (G.2.2.1 i)] (some (.int (nI (zj_slen.getD i 0)))) (fun _ => []) := by
  have key : ∀ W0 : List va_W, zj_J l G M_J0_length_8abf5 W0 (zj_ret G M_J0_length_8abf5 W0 (some (.int (nI (zj_slen.getD i 0)))) (fun _ => [])) 0 0 [] [some (.ref (G.2.2.1 i))] 0 [] := by
    intro W0
    refine zr_run [(.aload_n 0, 0, 0, 0, .null)] [] (WW' := []) (lv' := [some (.ref (G.2.2.1 i))]) (pc' := 1) (st' := [.ref (G.2.2.1 i)]) (by decide +kernel) rfl rfl ⟨trivial, trivial⟩ ?_
    refine zr_sval hi zw_9_0 (by decide +kernel) ?_
    refine zr_slen hi (by decide +kernel) ?_
    refine zr_run [(.aload_n 0, 0, 0, 0, .null)] [] (WW' := []) (lv' := [some (.ref (G.2.2.1 i))]) (pc' := 6) (st' := [.ref (G.2.2.1 i), .int (nI (zj_slen.getD i 0))]) (by decide +kernel) rfl rfl ⟨trivial, trivial⟩ ?_
    refine zr_callX (c_J0_coder_7d493 l G i hi) hi rfl (st := [.int (nI (zj_slen.getD i 0))]) (st' := [.int 0, .int (nI (zj_slen.getD i 0))]) rfl rfl nm_J0_coder_7d493 zw_1_45 zw_1_46 zw_1_47 zw_1_3 zw_1_48 rfl (Nat.le_of_ble_eq_true rfl) ⟨Nat.le_of_ble_eq_true rfl, Nat.le_of_ble_eq_true rfl⟩ (by decide +kernel) ?_
    refine zr_run [(.ishr, 0, 0, 0, .null)] [] (WW' := []) (lv' := [some (.ref (G.2.2.1 i))]) (pc' := 10) (st' := [.int (zr_shr (nI (zj_slen.getD i 0)) 0)]) (by decide +kernel) rfl rfl ⟨trivial, trivial⟩ ?_
    refine zr_eq (st2 := [.int (nI (zj_slen.getD i 0))]) rfl rfl (by rw [zr_shr0]) ?_
    exact zr_iret (b0 := fun _ => 0) (by decide +kernel) rfl rfl rfl rfl rfl
  exact zj_entry [some (.ref (G.2.2.1 i))] (by decide +kernel) rfl (by decide) (Nat.le_of_ble_eq_true rfl) rfl rfl (key _)
def M_J3_checkIndex_8e157 : zj_M := (RJ3, cJ3_checkIndex_8e157, 3, (some .int), { frames := 0, cells := 0, slots := 0, locals := 0 }, false)
theorem nm_J3_checkIndex_8e157 : zj_nm yJ3_checkIndex_8e157 3 := ⟨by decide +kernel, by decide +kernel, by decide +kernel⟩
set_option maxRecDepth 100000 in
set_option maxHeartbeats 4000000 in
theorem c_J3_checkIndex_8e157_n (l : Launch) (G : zj_G) (x y : Int32)  (h0 : ¬ x < 0) (h1 : x < y) : zj_C l G M_J3_checkIndex_8e157 yJ3_checkIndex_8e157 [] [.int x, .int y, .null] (some (.int x)) (fun _ => []) := by
  have key : ∀ W0 : List va_W, zj_J l G M_J3_checkIndex_8e157 W0 (zj_ret G M_J3_checkIndex_8e157 W0 (some (.int x)) (fun _ => [])) 0 0 [] [some (.int x), some (.int y), some (.null)] 0 [] := by
    intro W0
    refine zr_run [(.iload_n 0, 0, 0, 0, .null)] [] (WW' := []) (lv' := [some (.int x), some (.int y), some (.null)]) (pc' := 1) (st' := [.int x]) (by decide +kernel) rfl rfl ⟨trivial, trivial⟩ ?_
    refine zr_if_lt (off := 8) (tgt := 9) (by decide +kernel) (by decide) (fun hc => absurd hc h0) (fun _ => ?_)
    refine zr_run [(.iload_n 0, 0, 0, 0, .null), (.iload_n 1, 0, 0, 0, .null)] [] (WW' := []) (lv' := [some (.int x), some (.int y), some (.null)]) (pc' := 6) (st' := [.int y, .int x]) (by decide +kernel) rfl rfl ⟨trivial, trivial, trivial⟩ ?_
    refine zr_icmp_lt (off := 10) (tgt := 16) (by decide +kernel) (by decide) (fun _ => ?_) (fun hc => absurd h1 hc)
    refine zr_run [(.iload_n 0, 0, 0, 0, .null)] [] (WW' := []) (lv' := [some (.int x), some (.int y), some (.null)]) (pc' := 17) (st' := [.int x]) (by decide +kernel) rfl rfl ⟨trivial, trivial⟩ ?_
    exact zr_iret (b0 := fun _ => 0) (by decide +kernel) rfl rfl rfl rfl rfl
  exact zj_entry [some (.int x), some (.int y), some (.null)] (by decide +kernel) rfl (by decide) (Nat.le_of_ble_eq_true rfl) rfl rfl (key _)
set_option maxRecDepth 100000 in
set_option maxHeartbeats 4000000 in
theorem c_J3_checkIndex_8e157_r (l : Launch) (G : zj_G) (x y : Int32) (t : Nat) (h0 : ¬ x < 0) (h1 : x < y) : zj_C l G M_J3_checkIndex_8e157 yJ3_checkIndex_8e157 [] [.int x, .int y, .ref t] (some (.int x)) (fun _ => []) := by
  have key : ∀ W0 : List va_W, zj_J l G M_J3_checkIndex_8e157 W0 (zj_ret G M_J3_checkIndex_8e157 W0 (some (.int x)) (fun _ => [])) 0 0 [] [some (.int x), some (.int y), some (.ref t)] 0 [] := by
    intro W0
    refine zr_run [(.iload_n 0, 0, 0, 0, .null)] [] (WW' := []) (lv' := [some (.int x), some (.int y), some (.ref t)]) (pc' := 1) (st' := [.int x]) (by decide +kernel) rfl rfl ⟨trivial, trivial⟩ ?_
    refine zr_if_lt (off := 8) (tgt := 9) (by decide +kernel) (by decide) (fun hc => absurd hc h0) (fun _ => ?_)
    refine zr_run [(.iload_n 0, 0, 0, 0, .null), (.iload_n 1, 0, 0, 0, .null)] [] (WW' := []) (lv' := [some (.int x), some (.int y), some (.ref t)]) (pc' := 6) (st' := [.int y, .int x]) (by decide +kernel) rfl rfl ⟨trivial, trivial, trivial⟩ ?_
    refine zr_icmp_lt (off := 10) (tgt := 16) (by decide +kernel) (by decide) (fun _ => ?_) (fun hc => absurd h1 hc)
    refine zr_run [(.iload_n 0, 0, 0, 0, .null)] [] (WW' := []) (lv' := [some (.int x), some (.int y), some (.ref t)]) (pc' := 17) (st' := [.int x]) (by decide +kernel) rfl rfl ⟨trivial, trivial⟩ ?_
    exact zr_iret (b0 := fun _ => 0) (by decide +kernel) rfl rfl rfl rfl rfl
  exact zj_entry [some (.int x), some (.int y), some (.ref t)] (by decide +kernel) rfl (by decide) (Nat.le_of_ble_eq_true rfl) rfl rfl (key _)
def M_J0_checkIndex_df160 : zj_M := (RJ0, cJ0_checkIndex_df160, 2, none, { frames := 1, cells := 0, slots := 0, locals := 40 }, false)
theorem nm_J0_checkIndex_df160 : zj_nm yJ0_checkIndex_df160 2 := ⟨by decide +kernel, by decide +kernel, by decide +kernel⟩
set_option maxRecDepth 100000 in
set_option maxHeartbeats 4000000 in
theorem c_J0_checkIndex_df160 (l : Launch) (G : zj_G) (x y : Int32) (h0 : ¬ x < 0) (h1 : x < y) : zj_C l G M_J0_checkIndex_df160 yJ0_checkIndex_df160 [] [.int x, .int y] none (fun _ => []) := by
  have key : ∀ W0 : List va_W, zj_J l G M_J0_checkIndex_df160 W0 (zj_ret G M_J0_checkIndex_df160 W0 none (fun _ => [])) 0 0 [] [some (.int x), some (.int y)] 0 [] := by
    intro W0
    refine zr_run [(.iload_n 0, 0, 0, 0, .null), (.iload_n 1, 0, 0, 0, .null)] [] (WW' := []) (lv' := [some (.int x), some (.int y)]) (pc' := 2) (st' := [.int y, .int x]) (by decide +kernel) rfl rfl ⟨trivial, trivial, trivial⟩ ?_
    refine zr_sioobe zw_1_65 (by decide +kernel) ?_ (fun t => ?_)
    · refine zr_callS (c_J3_checkIndex_8e157_n l G x y  h0 h1) (WW' := fun _ => []) (st := []) (st' := [.int x]) [] rfl rfl (fun _ => Nat.le_of_ble_eq_true rfl) (fun _ => rfl) rfl rfl nm_J3_checkIndex_8e157 zw_1_67 zw_1_68 zw_1_5 zw_1_69 rfl (Nat.le_of_ble_eq_true rfl) ⟨Nat.le_of_ble_eq_true rfl, Nat.le_of_ble_eq_true rfl⟩ (by decide +kernel) (fun _ => ?_)
      refine zr_run [(.pop, 0, 0, 0, .null)] [] (WW' := []) (lv' := [some (.int x), some (.int y)]) (pc' := 9) (st' := []) (by decide +kernel) rfl rfl ⟨trivial, trivial⟩ ?_
      exact zr_vret (b0 := fun _ => 0) (by decide +kernel) rfl rfl rfl rfl rfl
    · refine zr_callS (c_J3_checkIndex_8e157_r l G x y t h0 h1) (WW' := fun _ => []) (st := []) (st' := [.int x]) [] rfl rfl (fun _ => Nat.le_of_ble_eq_true rfl) (fun _ => rfl) rfl rfl nm_J3_checkIndex_8e157 zw_1_67 zw_1_68 zw_1_5 zw_1_69 rfl (Nat.le_of_ble_eq_true rfl) ⟨Nat.le_of_ble_eq_true rfl, Nat.le_of_ble_eq_true rfl⟩ (by decide +kernel) (fun _ => ?_)
      refine zr_run [(.pop, 0, 0, 0, .null)] [] (WW' := []) (lv' := [some (.int x), some (.int y)]) (pc' := 9) (st' := []) (by decide +kernel) rfl rfl ⟨trivial, trivial⟩ ?_
      exact zr_vret (b0 := fun _ => 0) (by decide +kernel) rfl rfl rfl rfl rfl
  exact zj_entry [some (.int x), some (.int y)] (by decide +kernel) rfl (by decide) (Nat.le_of_ble_eq_true rfl) rfl rfl (key _)
def M_J1_charAt_3b067 : zj_M := (RJ1, cJ1_charAt_3b067, 2, (some .char), { frames := 2, cells := 0, slots := 0, locals := 80 }, false)
theorem nm_J1_charAt_3b067 : zj_nm yJ1_charAt_3b067 2 := ⟨by decide +kernel, by decide +kernel, by decide +kernel⟩
set_option maxRecDepth 100000 in
set_option maxHeartbeats 4000000 in
theorem c_J1_charAt_3b067 (l : Launch) (G : zj_G) (i : Nat) (x : Int32) (hi : i < 8) (hx : zb_in x (zj_slen.getD i 0) = true) : zj_C l G M_J1_charAt_3b067 yJ1_charAt_3b067 [] [.ref (G.2.2.2 i), .int x] (some (.int (zj_ch i x))) (fun _ => []) := by
  have key : ∀ W0 : List va_W, zj_J l G M_J1_charAt_3b067 W0 (zj_ret G M_J1_charAt_3b067 W0 (some (.int (zj_ch i x))) (fun _ => [])) 0 0 [] [some (.ref (G.2.2.2 i)), some (.int x)] 0 [] := by
    intro W0
    have hq := hx
    simp only [zb_in, Bool.and_eq_true, decide_eq_true_eq] at hq
    have hl := zj_sl_all i hi
    refine zr_run [(.iload_n 1, 0, 0, 0, .null), (.aload_n 0, 0, 0, 0, .null)] [] (WW' := []) (lv' := [some (.ref (G.2.2.2 i)), some (.int x)]) (pc' := 2) (st' := [.ref (G.2.2.2 i), .int x]) (by decide +kernel) rfl rfl ⟨trivial, trivial, trivial⟩ ?_
    refine zr_slen hi (by decide +kernel) ?_
    have h1 : x < nI (zj_slen.getD i 0) := by
      obtain ⟨j, hj, rfl⟩ := nI_of hq.1
      rw [nI_clamp hj] at hq
      exact nI_lt hq.2 (by omega)
    refine zr_callS (c_J0_checkIndex_df160 l G x _ hq.1 h1) (WW' := fun _ => []) (st := []) (st' := []) [] rfl rfl (fun _ => Nat.le_of_ble_eq_true rfl) (fun _ => rfl) rfl rfl nm_J0_checkIndex_df160 zw_1_62 zw_1_63 zw_1_3 zw_1_64 rfl (Nat.le_of_ble_eq_true rfl) ⟨Nat.le_of_ble_eq_true rfl, Nat.le_of_ble_eq_true rfl⟩ (by decide +kernel) (fun _ => ?_)
    refine zr_run [(.aload_n 0, 0, 0, 0, .null), (.iload_n 1, 0, 0, 0, .null)] [] (WW' := []) (lv' := [some (.ref (G.2.2.2 i)), some (.int x)]) (pc' := 8) (st' := [.int x, .ref (G.2.2.2 i)]) (by decide +kernel) rfl rfl ⟨trivial, trivial, trivial⟩ ?_
    refine zr_sbald hi hx (by decide +kernel) ?_
    refine zr_run [(.sipush 255, 0, 0, 0, .int (255 : Int32)), (.iand, 0, 0, 0, .null)] [] (WW' := []) (lv' := [some (.ref (G.2.2.2 i)), some (.int x)]) (pc' := 13) (st' := [.int ((zj_ch i x) &&& (255 : Int32))]) (by decide +kernel) rfl rfl ⟨trivial, trivial, trivial⟩ ?_
    refine zr_i2c (by decide +kernel) ?_
    have hb := zj_ch_all i hi _ (zj_ch_in hi hx)
    refine zr_eq (st2 := [.int (zj_ch i x)]) rfl rfl (by rw [hb.1]) ?_
    exact zr_nret (b0 := fun _ => 0) hb.2 (by decide +kernel) rfl rfl rfl rfl rfl
  exact zj_entry [some (.ref (G.2.2.2 i)), some (.int x)] (by decide +kernel) rfl (by decide) (Nat.le_of_ble_eq_true rfl) rfl rfl (key _)
def M_J0_charAt_5068e : zj_M := (RJ0, cJ0_charAt_5068e, 2, (some .char), { frames := 3, cells := 0, slots := 0, locals := 120 }, false)
theorem nm_J0_charAt_5068e : zj_nm yJ0_charAt_5068e 1 := ⟨by decide +kernel, by decide +kernel, by decide +kernel⟩
set_option maxRecDepth 100000 in
set_option maxHeartbeats 4000000 in
theorem c_J0_charAt_5068e (l : Launch) (G : zj_G) (i : Nat) (x : Int32) (hi : i < 8) (hx : zb_in x (zj_slen.getD i 0) = true) : zj_C l G M_J0_charAt_5068e yJ0_charAt_5068e [] [.ref (G.2.2.1 i), .int x] (some (.int (zj_ch i x))) (fun _ => []) := by
  have key : ∀ W0 : List va_W, zj_J l G M_J0_charAt_5068e W0 (zj_ret G M_J0_charAt_5068e W0 (some (.int (zj_ch i x))) (fun _ => [])) 0 0 [] [some (.ref (G.2.2.1 i)), some (.int x)] 0 [] := by
    intro W0
    refine zr_run [(.aload_n 0, 0, 0, 0, .null)] [] (WW' := []) (lv' := [some (.ref (G.2.2.1 i)), some (.int x)]) (pc' := 1) (st' := [.ref (G.2.2.1 i)]) (by decide +kernel) rfl rfl ⟨trivial, trivial⟩ ?_
    refine zr_callX (c_J0_isLatin1_aae02 l G i hi) hi rfl (st := []) (st' := [.int 1]) rfl rfl nm_J0_isLatin1_aae02 zw_1_55 zw_1_56 zw_1_57 zw_1_3 zw_1_58 rfl (Nat.le_of_ble_eq_true rfl) ⟨Nat.le_of_ble_eq_true rfl, Nat.le_of_ble_eq_true rfl⟩ (by decide +kernel) ?_
    refine zr_if_eq (off := 12) (tgt := 16) (by decide +kernel) (by decide) (fun hc => absurd hc (by decide)) (fun _ => ?_)
    refine zr_run [(.aload_n 0, 0, 0, 0, .null)] [] (WW' := []) (lv' := [some (.ref (G.2.2.1 i)), some (.int x)]) (pc' := 8) (st' := [.ref (G.2.2.1 i)]) (by decide +kernel) rfl rfl ⟨trivial, trivial⟩ ?_
    refine zr_sval hi zw_9_0 (by decide +kernel) ?_
    refine zr_run [(.iload_n 1, 0, 0, 0, .null)] [] (WW' := []) (lv' := [some (.ref (G.2.2.1 i)), some (.int x)]) (pc' := 12) (st' := [.int x, .ref (G.2.2.2 i)]) (by decide +kernel) rfl rfl ⟨trivial, trivial⟩ ?_
    refine zr_callS (c_J1_charAt_3b067 l G i x hi hx) (WW' := fun _ => []) (st := []) (st' := [.int (zj_ch i x)]) [] rfl rfl (fun _ => Nat.le_of_ble_eq_true rfl) (fun _ => rfl) rfl rfl nm_J1_charAt_3b067 zw_1_59 zw_1_60 zw_1_4 zw_1_61 rfl (Nat.le_of_ble_eq_true rfl) ⟨Nat.le_of_ble_eq_true rfl, Nat.le_of_ble_eq_true rfl⟩ (by decide +kernel) (fun _ => ?_)
    exact zr_nret (b0 := fun _ => 0) (zj_ch_all i hi _ (zj_ch_in hi hx)).2 (by decide +kernel) rfl rfl rfl rfl rfl
  exact zj_entry [some (.ref (G.2.2.1 i)), some (.int x)] (by decide +kernel) rfl (by decide) (Nat.le_of_ble_eq_true rfl) rfl rfl (key _)
