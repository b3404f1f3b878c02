def M_X12_count : zj_M := (RX12, cX12_count, 2, (some .int), { frames := 0, cells := 0, slots := 0, locals := 0 }, false)
theorem nm_X12_count : zj_nm yX12_count 1 := ⟨by decide +kernel, by decide +kernel, by decide +kernel⟩
def f_X12_count  (s0 : MoT) (x1 : Int32) : Option (Int32 × MoT) := (zlet (Mo_s_thrown s0 (0 : Int32)) fun y1 => (if x1 = (0 : Int32) then some (((Mo_now y1) (0 : Int32).toNatClampNeg), y1) else (if x1 = (1 : Int32) then some (((Mo_now y1) (1 : Int32).toNatClampNeg), y1) else (if x1 = (2 : Int32) then some (((Mo_now y1) (2 : Int32).toNatClampNeg), y1) else (if x1 = (3 : Int32) then some (((Mo_now y1) (3 : Int32).toNatClampNeg), y1) else (if x1 = (4 : Int32) then some ((Mo_taped y1), y1) else some ((-1 : Int32), y1)))))))
set_option maxRecDepth 100000 in
set_option maxHeartbeats 4000000 in
theorem c_X12_count (l : Launch) (G : zj_G) (a0 : Nat → Nat) (s0 : MoT) (x1 : Int32) (r : Int32 × MoT) (hf : f_X12_count s0 x1 = some r) : zj_C l G M_X12_count yX12_count [w_Mo G a0 s0] [.ref (a0 0), .int x1] (some (.int r.1)) (fun _ => [w_Mo G a0 r.2]) := by
  have key : ∀ W0 : List va_W, zj_J l G M_X12_count W0 (zj_ret G M_X12_count W0 (some (.int r.1)) (fun _ => [w_Mo G a0 r.2])) 0 0 [w_Mo G a0 s0] [some (.ref (a0 0)), some (.int x1)] 0 [] := by
    intro W0
    unfold f_X12_count at hf
    obtain ⟨y1, e1, hf⟩ := zlet_of hf
    refine zr_run [(.aload_n 0, 0, 0, 0, .null), (.iconst 0, 0, 0, 0, .int (0 : Int32)), (.putfield 91, 0, 0, 0, .null)] [] (WW' := [w_Mo G a0 (Mo_s_thrown s0 (0 : Int32))]) (lv' := [some (.ref (a0 0)), some (.int x1)]) (pc' := 5) (st' := []) (by decide +kernel) rfl rfl ⟨trivial, trivial, ⟨rfl, rfl, rfl, trivial, rfl, rfl, zw_6_29⟩, trivial⟩ ?_
    refine zr_eq (WW2 := [w_Mo G a0 y1]) (lv2 := [some (.ref (a0 0)), some (.int x1)]) (st2 := []) (by rw [e1]) rfl rfl ?_
    refine zr_run [(.iload_n 1, 0, 0, 0, .null)] [] (WW' := [w_Mo G a0 y1]) (lv' := [some (.ref (a0 0)), some (.int x1)]) (pc' := 6) (st' := [.int x1]) (by decide +kernel) rfl rfl ⟨trivial, trivial⟩ ?_
    by_cases hc0 : x1 = (0 : Int32)
    · have hf := zift hf hc0
      refine zr_tabIn (v := (0 : Int32)) (tgt := 40) (dflt := 67) (lo := 0) (hi := 4) (offs := #[34, 41, 48, 55, 62]) (len := 34) (off := 34) hc0 (by decide +kernel) (by decide) (by decide) (by decide) ?_
      refine zr_run [(.aload_n 0, 0, 0, 0, .null), (.getfield 13, 0, 0, 14, .null), (.iconst 0, 0, 0, 0, .int (0 : Int32)), (.iaload, 0, 2, 0, .null)] [] (WW' := [w_Mo G a0 y1]) (lv' := [some (.ref (a0 0)), some (.int x1)]) (pc' := 46) (st' := [.int ((Mo_now y1) (0 : Int32).toNatClampNeg)]) (by decide +kernel) rfl rfl ⟨trivial, ⟨rfl, rfl, zw_6_43⟩, trivial, ⟨rfl, rfl, (by decide)⟩, trivial⟩ ?_
      obtain rfl := Option.some.inj hf
      exact zr_iret (b0 := fun _ => 0) (by decide +kernel) rfl rfl rfl rfl rfl
    · have hf := ziff hf hc0
      by_cases hc1 : x1 = (1 : Int32)
      · have hf := zift hf hc1
        refine zr_tabIn (v := (1 : Int32)) (tgt := 47) (dflt := 67) (lo := 0) (hi := 4) (offs := #[34, 41, 48, 55, 62]) (len := 34) (off := 41) hc1 (by decide +kernel) (by decide) (by decide) (by decide) ?_
        refine zr_run [(.aload_n 0, 0, 0, 0, .null), (.getfield 13, 0, 0, 14, .null), (.iconst 1, 0, 0, 0, .int (1 : Int32)), (.iaload, 0, 2, 0, .null)] [] (WW' := [w_Mo G a0 y1]) (lv' := [some (.ref (a0 0)), some (.int x1)]) (pc' := 53) (st' := [.int ((Mo_now y1) (1 : Int32).toNatClampNeg)]) (by decide +kernel) rfl rfl ⟨trivial, ⟨rfl, rfl, zw_6_43⟩, trivial, ⟨rfl, rfl, (by decide)⟩, trivial⟩ ?_
        obtain rfl := Option.some.inj hf
        exact zr_iret (b0 := fun _ => 0) (by decide +kernel) rfl rfl rfl rfl rfl
      · have hf := ziff hf hc1
        by_cases hc2 : x1 = (2 : Int32)
        · have hf := zift hf hc2
          refine zr_tabIn (v := (2 : Int32)) (tgt := 54) (dflt := 67) (lo := 0) (hi := 4) (offs := #[34, 41, 48, 55, 62]) (len := 34) (off := 48) hc2 (by decide +kernel) (by decide) (by decide) (by decide) ?_
          refine zr_run [(.aload_n 0, 0, 0, 0, .null), (.getfield 13, 0, 0, 14, .null), (.iconst 2, 0, 0, 0, .int (2 : Int32)), (.iaload, 0, 2, 0, .null)] [] (WW' := [w_Mo G a0 y1]) (lv' := [some (.ref (a0 0)), some (.int x1)]) (pc' := 60) (st' := [.int ((Mo_now y1) (2 : Int32).toNatClampNeg)]) (by decide +kernel) rfl rfl ⟨trivial, ⟨rfl, rfl, zw_6_43⟩, trivial, ⟨rfl, rfl, (by decide)⟩, trivial⟩ ?_
          obtain rfl := Option.some.inj hf
          exact zr_iret (b0 := fun _ => 0) (by decide +kernel) rfl rfl rfl rfl rfl
        · have hf := ziff hf hc2
          by_cases hc3 : x1 = (3 : Int32)
          · have hf := zift hf hc3
            refine zr_tabIn (v := (3 : Int32)) (tgt := 61) (dflt := 67) (lo := 0) (hi := 4) (offs := #[34, 41, 48, 55, 62]) (len := 34) (off := 55) hc3 (by decide +kernel) (by decide) (by decide) (by decide) ?_
            refine zr_run [(.aload_n 0, 0, 0, 0, .null), (.getfield 13, 0, 0, 14, .null), (.iconst 3, 0, 0, 0, .int (3 : Int32)), (.iaload, 0, 2, 0, .null)] [] (WW' := [w_Mo G a0 y1]) (lv' := [some (.ref (a0 0)), some (.int x1)]) (pc' := 67) (st' := [.int ((Mo_now y1) (3 : Int32).toNatClampNeg)]) (by decide +kernel) rfl rfl ⟨trivial, ⟨rfl, rfl, zw_6_43⟩, trivial, ⟨rfl, rfl, (by decide)⟩, trivial⟩ ?_
            obtain rfl := Option.some.inj hf
            exact zr_iret (b0 := fun _ => 0) (by decide +kernel) rfl rfl rfl rfl rfl
          · have hf := ziff hf hc3
            by_cases hc4 : x1 = (4 : Int32)
            · have hf := zift hf hc4
              refine zr_tabIn (v := (4 : Int32)) (tgt := 68) (dflt := 67) (lo := 0) (hi := 4) (offs := #[34, 41, 48, 55, 62]) (len := 34) (off := 62) hc4 (by decide +kernel) (by decide) (by decide) (by decide) ?_
              refine zr_run [(.aload_n 0, 0, 0, 0, .null), (.getfield 94, 0, 0, 2, .null)] [] (WW' := [w_Mo G a0 y1]) (lv' := [some (.ref (a0 0)), some (.int x1)]) (pc' := 72) (st' := [.int (Mo_taped y1)]) (by decide +kernel) rfl rfl ⟨trivial, ⟨rfl, rfl, zw_6_31⟩, trivial⟩ ?_
              obtain rfl := Option.some.inj hf
              exact zr_iret (b0 := fun _ => 0) (by decide +kernel) rfl rfl rfl rfl rfl
            · have hf := ziff hf hc4
              refine zr_tabOut (tgt := 73) (dflt := 67) (lo := 0) (hi := 4) (offs := #[34, 41, 48, 55, 62]) (len := 34) (by decide +kernel) (by have q0 := lv_neT hc0 (a := 0) (by decide); have q1 := lv_neT hc1 (a := 1) (by decide); have q2 := lv_neT hc2 (a := 2) (by decide); have q3 := lv_neT hc3 (a := 3) (by decide); have q4 := lv_neT hc4 (a := 4) (by decide); omega) (by decide) ?_
              refine zr_run [(.iconst (-1), 0, 0, 0, .int (-1 : Int32))] [] (WW' := [w_Mo G a0 y1]) (lv' := [some (.ref (a0 0)), some (.int x1)]) (pc' := 74) (st' := [.int (-1 : Int32)]) (by decide +kernel) rfl rfl ⟨trivial, trivial⟩ ?_
              obtain rfl := Option.some.inj hf
              exact zr_iret (b0 := fun _ => 0) (by decide +kernel) rfl rfl rfl rfl rfl
  exact zj_entry [some (.ref (a0 0)), some (.int x1)] (by decide +kernel) rfl (by decide) (Nat.le_of_ble_eq_true rfl) rfl rfl (key _)
