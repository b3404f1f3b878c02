def M_X3_copy : zj_M := (RX3, cX3_copy, 2, none, { frames := 1, cells := 0, slots := 0, locals := 60 }, false)
theorem nm_X3_copy : zj_nm yX3_copy 1 := ⟨by decide +kernel, by decide +kernel, by decide +kernel⟩
def f_X3_copy  (s0 : LdT) (s1 : LdT)  : Option (LdT) := (zlet (Ld_s_places s0 (Ld_places s1)) fun y1 => (zlet (Ld_s_roads y1 (Ld_roads s1)) fun y2 => (zlet (Ld_s_men y2 (Ld_men s1)) fun y3 => (zlet (Ld_s_ports y3 (Ld_ports s1)) fun y4 => (zlet (Ld_s_lines y4 (Ld_lines s1)) fun y5 => (zlet (Ld_s_placeNames y5 ((va_cpy (Ld_placeNames s1) (Ld_placeNames y5) (0 : Int32).toNatClampNeg (0 : Int32).toNatClampNeg (10 : Int32).toNatClampNeg))) fun y6 => (zlet (Ld_s_manNames y6 ((va_cpy (Ld_manNames s1) (Ld_manNames y6) (0 : Int32).toNatClampNeg (0 : Int32).toNatClampNeg (6 : Int32).toNatClampNeg))) fun y7 => (zlet (Ld_s_placeRows y7 ((va_cpy (Ld_placeRows s1) (Ld_placeRows y7) (0 : Int32).toNatClampNeg (0 : Int32).toNatClampNeg (40 : Int32).toNatClampNeg))) fun y8 => (zlet (Ld_s_roadRows y8 ((va_cpy (Ld_roadRows s1) (Ld_roadRows y8) (0 : Int32).toNatClampNeg (0 : Int32).toNatClampNeg (80 : Int32).toNatClampNeg))) fun y9 => (zlet (Ld_s_manRows y9 ((va_cpy (Ld_manRows s1) (Ld_manRows y9) (0 : Int32).toNatClampNeg (0 : Int32).toNatClampNeg (24 : Int32).toNatClampNeg))) fun y10 => (zlet (Ld_s_between y10 ((va_cpy (Ld_between s1) (Ld_between y10) (0 : Int32).toNatClampNeg (0 : Int32).toNatClampNeg (100 : Int32).toNatClampNeg))) fun y11 => (zlet (Ld_s_miles y11 ((va_cpy (Ld_miles s1) (Ld_miles y11) (0 : Int32).toNatClampNeg (0 : Int32).toNatClampNeg (100 : Int32).toNatClampNeg))) fun y12 => (zlet (Ld_s_nexts y12 ((va_cpy (Ld_nexts s1) (Ld_nexts y12) (0 : Int32).toNatClampNeg (0 : Int32).toNatClampNeg (100 : Int32).toNatClampNeg))) fun y13 => (zlet (Ld_s_towards y13 ((va_cpy (Ld_towards s1) (Ld_towards y13) (0 : Int32).toNatClampNeg (0 : Int32).toNatClampNeg (100 : Int32).toNatClampNeg))) fun y14 => some y14))))))))))))))
set_option maxRecDepth 100000 in
set_option maxHeartbeats 4000000 in
theorem c_X3_copy (l : Launch) (G : zj_G) (a0 : Nat → Nat) (a1 : Nat → Nat) (s0 : LdT) (s1 : LdT)  (r : LdT) (hf : f_X3_copy s0 s1 = some r) : zj_C l G M_X3_copy yX3_copy [w_Ld G a0 s0, w_Ld G a1 s1] [.ref (a0 0), .ref (a1 0)] (none) (fun _ => [w_Ld G a0 r, w_Ld G a1 s1]) := by
  have key : ∀ W0 : List va_W, zj_J l G M_X3_copy W0 (zj_ret G M_X3_copy W0 (none) (fun _ => [w_Ld G a0 r, w_Ld G a1 s1])) 0 0 [w_Ld G a0 s0, w_Ld G a1 s1] [some (.ref (a0 0)), some (.ref (a1 0))] 0 [] := by
    intro W0
    unfold f_X3_copy at hf
    obtain ⟨y1, e1, hf⟩ := zlet_of hf
    refine zr_run [(.aload_n 0, 0, 0, 0, .null), (.aload_n 1, 0, 0, 0, .null), (.getfield 9, 1, 0, 0, .null), (.putfield 9, 0, 0, 0, .null)] [] (WW' := [w_Ld G a0 (Ld_s_places s0 (Ld_places s1)), w_Ld G a1 s1]) (lv' := [some (.ref (a0 0)), some (.ref (a1 0))]) (pc' := 8) (st' := []) (by decide +kernel) rfl rfl ⟨trivial, trivial, ⟨rfl, rfl, zw_1_152⟩, ⟨rfl, rfl, rfl, trivial, rfl, rfl, zw_1_152⟩, trivial⟩ ?_
    refine zr_eq (WW2 := [w_Ld G a0 y1, w_Ld G a1 s1]) (lv2 := [some (.ref (a0 0)), some (.ref (a1 0))]) (st2 := []) (by rw [e1]) rfl rfl ?_
    obtain ⟨y2, e2, hf⟩ := zlet_of hf
    refine zr_run [(.aload_n 0, 0, 0, 0, .null), (.aload_n 1, 0, 0, 0, .null), (.getfield 15, 1, 0, 1, .null), (.putfield 15, 0, 0, 1, .null)] [] (WW' := [w_Ld G a0 (Ld_s_roads y1 (Ld_roads s1)), w_Ld G a1 s1]) (lv' := [some (.ref (a0 0)), some (.ref (a1 0))]) (pc' := 16) (st' := []) (by decide +kernel) rfl rfl ⟨trivial, trivial, ⟨rfl, rfl, zw_1_155⟩, ⟨rfl, rfl, rfl, trivial, rfl, rfl, zw_1_155⟩, trivial⟩ ?_
    refine zr_eq (WW2 := [w_Ld G a0 y2, w_Ld G a1 s1]) (lv2 := [some (.ref (a0 0)), some (.ref (a1 0))]) (st2 := []) (by rw [e2]) rfl rfl ?_
    obtain ⟨y3, e3, hf⟩ := zlet_of hf
    refine zr_run [(.aload_n 0, 0, 0, 0, .null), (.aload_n 1, 0, 0, 0, .null), (.getfield 18, 1, 0, 2, .null), (.putfield 18, 0, 0, 2, .null)] [] (WW' := [w_Ld G a0 (Ld_s_men y2 (Ld_men s1)), w_Ld G a1 s1]) (lv' := [some (.ref (a0 0)), some (.ref (a1 0))]) (pc' := 24) (st' := []) (by decide +kernel) rfl rfl ⟨trivial, trivial, ⟨rfl, rfl, zw_1_158⟩, ⟨rfl, rfl, rfl, trivial, rfl, rfl, zw_1_158⟩, trivial⟩ ?_
    refine zr_eq (WW2 := [w_Ld G a0 y3, w_Ld G a1 s1]) (lv2 := [some (.ref (a0 0)), some (.ref (a1 0))]) (st2 := []) (by rw [e3]) rfl rfl ?_
    obtain ⟨y4, e4, hf⟩ := zlet_of hf
    refine zr_run [(.aload_n 0, 0, 0, 0, .null), (.aload_n 1, 0, 0, 0, .null), (.getfield 21, 1, 0, 3, .null), (.putfield 21, 0, 0, 3, .null)] [] (WW' := [w_Ld G a0 (Ld_s_ports y3 (Ld_ports s1)), w_Ld G a1 s1]) (lv' := [some (.ref (a0 0)), some (.ref (a1 0))]) (pc' := 32) (st' := []) (by decide +kernel) rfl rfl ⟨trivial, trivial, ⟨rfl, rfl, zw_1_163⟩, ⟨rfl, rfl, rfl, trivial, rfl, rfl, zw_1_163⟩, trivial⟩ ?_
    refine zr_eq (WW2 := [w_Ld G a0 y4, w_Ld G a1 s1]) (lv2 := [some (.ref (a0 0)), some (.ref (a1 0))]) (st2 := []) (by rw [e4]) rfl rfl ?_
    obtain ⟨y5, e5, hf⟩ := zlet_of hf
    refine zr_run [(.aload_n 0, 0, 0, 0, .null), (.aload_n 1, 0, 0, 0, .null), (.getfield 24, 1, 0, 4, .null), (.putfield 24, 0, 0, 4, .null)] [] (WW' := [w_Ld G a0 (Ld_s_lines y4 (Ld_lines s1)), w_Ld G a1 s1]) (lv' := [some (.ref (a0 0)), some (.ref (a1 0))]) (pc' := 40) (st' := []) (by decide +kernel) rfl rfl ⟨trivial, trivial, ⟨rfl, rfl, zw_1_165⟩, ⟨rfl, rfl, rfl, trivial, rfl, rfl, zw_1_165⟩, trivial⟩ ?_
    refine zr_eq (WW2 := [w_Ld G a0 y5, w_Ld G a1 s1]) (lv2 := [some (.ref (a0 0)), some (.ref (a1 0))]) (st2 := []) (by rw [e5]) rfl rfl ?_
    refine zr_run [(.aload_n 1, 0, 0, 0, .null), (.getfield 27, 1, 0, 5, .null), (.iconst 0, 0, 0, 0, .int (0 : Int32)), (.aload_n 0, 0, 0, 0, .null), (.getfield 27, 0, 0, 5, .null), (.iconst 0, 0, 0, 0, .int (0 : Int32)), (.bipush 10, 0, 0, 0, .int (10 : Int32))] [] (WW' := [w_Ld G a0 y5, w_Ld G a1 s1]) (lv' := [some (.ref (a0 0)), some (.ref (a1 0))]) (pc' := 52) (st' := [.int (10 : Int32), .int (0 : Int32), .ref (a0 1), .int (0 : Int32), .ref (a1 1)]) (by decide +kernel) rfl rfl ⟨trivial, ⟨rfl, rfl, zw_1_167⟩, trivial, trivial, ⟨rfl, rfl, zw_1_167⟩, trivial, trivial, trivial⟩ ?_
    refine zr_copyl (b0 := 1) (c0 := 1) (b1 := 0) (c1 := 1) rfl rfl rfl rfl rfl rfl (by decide) zw_5_129 zw_3_183 zw_3_182 zw_1_23 (Nat.le_of_ble_eq_true rfl) (Nat.le_of_ble_eq_true rfl) (by decide +kernel) ?_
    refine zr_eq (WW2 := [w_Ld G a0 (Ld_s_placeNames y5 ((va_cpy (Ld_placeNames s1) (Ld_placeNames y5) (0 : Int32).toNatClampNeg (0 : Int32).toNatClampNeg (10 : Int32).toNatClampNeg))), w_Ld G a1 s1]) rfl rfl rfl ?_
    obtain ⟨y6, e6, hf⟩ := zlet_of hf
    refine zr_eq (WW2 := [w_Ld G a0 y6, w_Ld G a1 s1]) (lv2 := [some (.ref (a0 0)), some (.ref (a1 0))]) (st2 := []) (by rw [e6]) rfl rfl ?_
    refine zr_run [(.aload_n 1, 0, 0, 0, .null), (.getfield 31, 1, 0, 6, .null), (.iconst 0, 0, 0, 0, .int (0 : Int32)), (.aload_n 0, 0, 0, 0, .null), (.getfield 31, 0, 0, 6, .null), (.iconst 0, 0, 0, 0, .int (0 : Int32)), (.bipush 6, 0, 0, 0, .int (6 : Int32))] [] (WW' := [w_Ld G a0 y6, w_Ld G a1 s1]) (lv' := [some (.ref (a0 0)), some (.ref (a1 0))]) (pc' := 67) (st' := [.int (6 : Int32), .int (0 : Int32), .ref (a0 2), .int (0 : Int32), .ref (a1 2)]) (by decide +kernel) rfl rfl ⟨trivial, ⟨rfl, rfl, zw_1_169⟩, trivial, trivial, ⟨rfl, rfl, zw_1_169⟩, trivial, trivial, trivial⟩ ?_
    refine zr_copyl (b0 := 1) (c0 := 2) (b1 := 0) (c1 := 2) rfl rfl rfl rfl rfl rfl (by decide) zw_5_129 zw_3_183 zw_3_182 zw_1_23 (Nat.le_of_ble_eq_true rfl) (Nat.le_of_ble_eq_true rfl) (by decide +kernel) ?_
    refine zr_eq (WW2 := [w_Ld G a0 (Ld_s_manNames y6 ((va_cpy (Ld_manNames s1) (Ld_manNames y6) (0 : Int32).toNatClampNeg (0 : Int32).toNatClampNeg (6 : Int32).toNatClampNeg))), w_Ld G a1 s1]) rfl rfl rfl ?_
    obtain ⟨y7, e7, hf⟩ := zlet_of hf
    refine zr_eq (WW2 := [w_Ld G a0 y7, w_Ld G a1 s1]) (lv2 := [some (.ref (a0 0)), some (.ref (a1 0))]) (st2 := []) (by rw [e7]) rfl rfl ?_
    refine zr_run [(.aload_n 1, 0, 0, 0, .null), (.getfield 34, 1, 0, 7, .null), (.iconst 0, 0, 0, 0, .int (0 : Int32)), (.aload_n 0, 0, 0, 0, .null), (.getfield 34, 0, 0, 7, .null), (.iconst 0, 0, 0, 0, .int (0 : Int32)), (.bipush 40, 0, 0, 0, .int (40 : Int32))] [] (WW' := [w_Ld G a0 y7, w_Ld G a1 s1]) (lv' := [some (.ref (a0 0)), some (.ref (a1 0))]) (pc' := 82) (st' := [.int (40 : Int32), .int (0 : Int32), .ref (a0 3), .int (0 : Int32), .ref (a1 3)]) (by decide +kernel) rfl rfl ⟨trivial, ⟨rfl, rfl, zw_1_171⟩, trivial, trivial, ⟨rfl, rfl, zw_1_171⟩, trivial, trivial, trivial⟩ ?_
    refine zr_copyi (b0 := 1) (c0 := 3) (b1 := 0) (c1 := 3) rfl rfl rfl rfl rfl rfl (by decide) zw_5_129 zw_3_183 zw_3_182 zw_1_23 (Nat.le_of_ble_eq_true rfl) (Nat.le_of_ble_eq_true rfl) (by decide +kernel) ?_
    refine zr_eq (WW2 := [w_Ld G a0 (Ld_s_placeRows y7 ((va_cpy (Ld_placeRows s1) (Ld_placeRows y7) (0 : Int32).toNatClampNeg (0 : Int32).toNatClampNeg (40 : Int32).toNatClampNeg))), w_Ld G a1 s1]) rfl rfl rfl ?_
    obtain ⟨y8, e8, hf⟩ := zlet_of hf
    refine zr_eq (WW2 := [w_Ld G a0 y8, w_Ld G a1 s1]) (lv2 := [some (.ref (a0 0)), some (.ref (a1 0))]) (st2 := []) (by rw [e8]) rfl rfl ?_
    refine zr_run [(.aload_n 1, 0, 0, 0, .null), (.getfield 38, 1, 0, 8, .null), (.iconst 0, 0, 0, 0, .int (0 : Int32)), (.aload_n 0, 0, 0, 0, .null), (.getfield 38, 0, 0, 8, .null), (.iconst 0, 0, 0, 0, .int (0 : Int32)), (.bipush 80, 0, 0, 0, .int (80 : Int32))] [] (WW' := [w_Ld G a0 y8, w_Ld G a1 s1]) (lv' := [some (.ref (a0 0)), some (.ref (a1 0))]) (pc' := 97) (st' := [.int (80 : Int32), .int (0 : Int32), .ref (a0 4), .int (0 : Int32), .ref (a1 4)]) (by decide +kernel) rfl rfl ⟨trivial, ⟨rfl, rfl, zw_1_172⟩, trivial, trivial, ⟨rfl, rfl, zw_1_172⟩, trivial, trivial, trivial⟩ ?_
    refine zr_copyi (b0 := 1) (c0 := 4) (b1 := 0) (c1 := 4) rfl rfl rfl rfl rfl rfl (by decide) zw_5_129 zw_3_183 zw_3_182 zw_1_23 (Nat.le_of_ble_eq_true rfl) (Nat.le_of_ble_eq_true rfl) (by decide +kernel) ?_
    refine zr_eq (WW2 := [w_Ld G a0 (Ld_s_roadRows y8 ((va_cpy (Ld_roadRows s1) (Ld_roadRows y8) (0 : Int32).toNatClampNeg (0 : Int32).toNatClampNeg (80 : Int32).toNatClampNeg))), w_Ld G a1 s1]) rfl rfl rfl ?_
    obtain ⟨y9, e9, hf⟩ := zlet_of hf
    refine zr_eq (WW2 := [w_Ld G a0 y9, w_Ld G a1 s1]) (lv2 := [some (.ref (a0 0)), some (.ref (a1 0))]) (st2 := []) (by rw [e9]) rfl rfl ?_
    refine zr_run [(.aload_n 1, 0, 0, 0, .null), (.getfield 41, 1, 0, 9, .null), (.iconst 0, 0, 0, 0, .int (0 : Int32)), (.aload_n 0, 0, 0, 0, .null), (.getfield 41, 0, 0, 9, .null), (.iconst 0, 0, 0, 0, .int (0 : Int32)), (.bipush 24, 0, 0, 0, .int (24 : Int32))] [] (WW' := [w_Ld G a0 y9, w_Ld G a1 s1]) (lv' := [some (.ref (a0 0)), some (.ref (a1 0))]) (pc' := 112) (st' := [.int (24 : Int32), .int (0 : Int32), .ref (a0 5), .int (0 : Int32), .ref (a1 5)]) (by decide +kernel) rfl rfl ⟨trivial, ⟨rfl, rfl, zw_1_173⟩, trivial, trivial, ⟨rfl, rfl, zw_1_173⟩, trivial, trivial, trivial⟩ ?_
    refine zr_copyi (b0 := 1) (c0 := 5) (b1 := 0) (c1 := 5) rfl rfl rfl rfl rfl rfl (by decide) zw_5_129 zw_3_183 zw_3_182 zw_1_23 (Nat.le_of_ble_eq_true rfl) (Nat.le_of_ble_eq_true rfl) (by decide +kernel) ?_
    refine zr_eq (WW2 := [w_Ld G a0 (Ld_s_manRows y9 ((va_cpy (Ld_manRows s1) (Ld_manRows y9) (0 : Int32).toNatClampNeg (0 : Int32).toNatClampNeg (24 : Int32).toNatClampNeg))), w_Ld G a1 s1]) rfl rfl rfl ?_
    obtain ⟨y10, e10, hf⟩ := zlet_of hf
    refine zr_eq (WW2 := [w_Ld G a0 y10, w_Ld G a1 s1]) (lv2 := [some (.ref (a0 0)), some (.ref (a1 0))]) (st2 := []) (by rw [e10]) rfl rfl ?_
    refine zr_run [(.aload_n 1, 0, 0, 0, .null), (.getfield 44, 1, 0, 10, .null), (.iconst 0, 0, 0, 0, .int (0 : Int32)), (.aload_n 0, 0, 0, 0, .null), (.getfield 44, 0, 0, 10, .null), (.iconst 0, 0, 0, 0, .int (0 : Int32)), (.bipush 100, 0, 0, 0, .int (100 : Int32))] [] (WW' := [w_Ld G a0 y10, w_Ld G a1 s1]) (lv' := [some (.ref (a0 0)), some (.ref (a1 0))]) (pc' := 127) (st' := [.int (100 : Int32), .int (0 : Int32), .ref (a0 6), .int (0 : Int32), .ref (a1 6)]) (by decide +kernel) rfl rfl ⟨trivial, ⟨rfl, rfl, zw_1_174⟩, trivial, trivial, ⟨rfl, rfl, zw_1_174⟩, trivial, trivial, trivial⟩ ?_
    refine zr_copyi (b0 := 1) (c0 := 6) (b1 := 0) (c1 := 6) rfl rfl rfl rfl rfl rfl (by decide) zw_5_129 zw_3_183 zw_3_182 zw_1_23 (Nat.le_of_ble_eq_true rfl) (Nat.le_of_ble_eq_true rfl) (by decide +kernel) ?_
    refine zr_eq (WW2 := [w_Ld G a0 (Ld_s_between y10 ((va_cpy (Ld_between s1) (Ld_between y10) (0 : Int32).toNatClampNeg (0 : Int32).toNatClampNeg (100 : Int32).toNatClampNeg))), w_Ld G a1 s1]) rfl rfl rfl ?_
    obtain ⟨y11, e11, hf⟩ := zlet_of hf
    refine zr_eq (WW2 := [w_Ld G a0 y11, w_Ld G a1 s1]) (lv2 := [some (.ref (a0 0)), some (.ref (a1 0))]) (st2 := []) (by rw [e11]) rfl rfl ?_
    refine zr_run [(.aload_n 1, 0, 0, 0, .null), (.getfield 47, 1, 0, 11, .null), (.iconst 0, 0, 0, 0, .int (0 : Int32)), (.aload_n 0, 0, 0, 0, .null), (.getfield 47, 0, 0, 11, .null), (.iconst 0, 0, 0, 0, .int (0 : Int32)), (.bipush 100, 0, 0, 0, .int (100 : Int32))] [] (WW' := [w_Ld G a0 y11, w_Ld G a1 s1]) (lv' := [some (.ref (a0 0)), some (.ref (a1 0))]) (pc' := 142) (st' := [.int (100 : Int32), .int (0 : Int32), .ref (a0 7), .int (0 : Int32), .ref (a1 7)]) (by decide +kernel) rfl rfl ⟨trivial, ⟨rfl, rfl, zw_1_175⟩, trivial, trivial, ⟨rfl, rfl, zw_1_175⟩, trivial, trivial, trivial⟩ ?_
    refine zr_copyi (b0 := 1) (c0 := 7) (b1 := 0) (c1 := 7) rfl rfl rfl rfl rfl rfl (by decide) zw_5_129 zw_3_183 zw_3_182 zw_1_23 (Nat.le_of_ble_eq_true rfl) (Nat.le_of_ble_eq_true rfl) (by decide +kernel) ?_
    refine zr_eq (WW2 := [w_Ld G a0 (Ld_s_miles y11 ((va_cpy (Ld_miles s1) (Ld_miles y11) (0 : Int32).toNatClampNeg (0 : Int32).toNatClampNeg (100 : Int32).toNatClampNeg))), w_Ld G a1 s1]) rfl rfl rfl ?_
    obtain ⟨y12, e12, hf⟩ := zlet_of hf
    refine zr_eq (WW2 := [w_Ld G a0 y12, w_Ld G a1 s1]) (lv2 := [some (.ref (a0 0)), some (.ref (a1 0))]) (st2 := []) (by rw [e12]) rfl rfl ?_
    refine zr_run [(.aload_n 1, 0, 0, 0, .null), (.getfield 50, 1, 0, 12, .null), (.iconst 0, 0, 0, 0, .int (0 : Int32)), (.aload_n 0, 0, 0, 0, .null), (.getfield 50, 0, 0, 12, .null), (.iconst 0, 0, 0, 0, .int (0 : Int32)), (.bipush 100, 0, 0, 0, .int (100 : Int32))] [] (WW' := [w_Ld G a0 y12, w_Ld G a1 s1]) (lv' := [some (.ref (a0 0)), some (.ref (a1 0))]) (pc' := 157) (st' := [.int (100 : Int32), .int (0 : Int32), .ref (a0 8), .int (0 : Int32), .ref (a1 8)]) (by decide +kernel) rfl rfl ⟨trivial, ⟨rfl, rfl, zw_1_176⟩, trivial, trivial, ⟨rfl, rfl, zw_1_176⟩, trivial, trivial, trivial⟩ ?_
    refine zr_copyi (b0 := 1) (c0 := 8) (b1 := 0) (c1 := 8) rfl rfl rfl rfl rfl rfl (by decide) zw_5_129 zw_3_183 zw_3_182 zw_1_23 (Nat.le_of_ble_eq_true rfl) (Nat.le_of_ble_eq_true rfl) (by decide +kernel) ?_
    refine zr_eq (WW2 := [w_Ld G a0 (Ld_s_nexts y12 ((va_cpy (Ld_nexts s1) (Ld_nexts y12) (0 : Int32).toNatClampNeg (0 : Int32).toNatClampNeg (100 : Int32).toNatClampNeg))), w_Ld G a1 s1]) rfl rfl rfl ?_
    obtain ⟨y13, e13, hf⟩ := zlet_of hf
    refine zr_eq (WW2 := [w_Ld G a0 y13, w_Ld G a1 s1]) (lv2 := [some (.ref (a0 0)), some (.ref (a1 0))]) (st2 := []) (by rw [e13]) rfl rfl ?_
    refine zr_run [(.aload_n 1, 0, 0, 0, .null), (.getfield 53, 1, 0, 13, .null), (.iconst 0, 0, 0, 0, .int (0 : Int32)), (.aload_n 0, 0, 0, 0, .null), (.getfield 53, 0, 0, 13, .null), (.iconst 0, 0, 0, 0, .int (0 : Int32)), (.bipush 100, 0, 0, 0, .int (100 : Int32))] [] (WW' := [w_Ld G a0 y13, w_Ld G a1 s1]) (lv' := [some (.ref (a0 0)), some (.ref (a1 0))]) (pc' := 172) (st' := [.int (100 : Int32), .int (0 : Int32), .ref (a0 9), .int (0 : Int32), .ref (a1 9)]) (by decide +kernel) rfl rfl ⟨trivial, ⟨rfl, rfl, zw_1_177⟩, trivial, trivial, ⟨rfl, rfl, zw_1_177⟩, trivial, trivial, trivial⟩ ?_
    refine zr_copyi (b0 := 1) (c0 := 9) (b1 := 0) (c1 := 9) rfl rfl rfl rfl rfl rfl (by decide) zw_5_129 zw_3_183 zw_3_182 zw_1_23 (Nat.le_of_ble_eq_true rfl) (Nat.le_of_ble_eq_true rfl) (by decide +kernel) ?_
    refine zr_eq (WW2 := [w_Ld G a0 (Ld_s_towards y13 ((va_cpy (Ld_towards s1) (Ld_towards y13) (0 : Int32).toNatClampNeg (0 : Int32).toNatClampNeg (100 : Int32).toNatClampNeg))), w_Ld G a1 s1]) rfl rfl rfl ?_
    obtain ⟨y14, e14, hf⟩ := zlet_of hf
    refine zr_eq (WW2 := [w_Ld G a0 y14, w_Ld G a1 s1]) (lv2 := [some (.ref (a0 0)), some (.ref (a1 0))]) (st2 := []) (by rw [e14]) rfl rfl ?_
    obtain rfl := Option.some.inj hf
    exact zr_vret (b0 := fun _ => 0) (by decide +kernel) rfl rfl rfl rfl rfl
  exact zj_entry [some (.ref (a0 0)), some (.ref (a1 0))] (by decide +kernel) rfl (by decide) (Nat.le_of_ble_eq_true rfl) rfl rfl (key _)
def M_X3_hasPlace : zj_M := (RX3, cX3_hasPlace, 2, (some .boolean), { frames := 0, cells := 0, slots := 0, locals := 0 }, false)
theorem nm_X3_hasPlace : zj_nm yX3_hasPlace 1 := ⟨by decide +kernel, by decide +kernel, by decide +kernel⟩
def f_X3_hasPlace_b16  (s0 : LdT)   : Option (Int32) := some (0 : Int32)
def f_X3_hasPlace  (s0 : LdT) (x1 : Int32) : Option (Int32) := (if x1 < 0 then f_X3_hasPlace_b16 s0 else (if x1 < (Ld_places s0) then some (1 : Int32) else f_X3_hasPlace_b16 s0))
set_option maxRecDepth 100000 in
set_option maxHeartbeats 4000000 in
theorem t_X3_hasPlace_b16 (l : Launch) (G : zj_G) (a0 : Nat → Nat) (W0 : List va_W) (r : Int32) (s0 : LdT)    (hf : f_X3_hasPlace_b16 s0 = some r) : zj_J l G M_X3_hasPlace W0 (zj_ret G M_X3_hasPlace W0 (some (.int r)) (fun _ => [w_Ld G a0 s0])) 0 0 [w_Ld G a0 s0] [none, none] 16 [] := by
  unfold f_X3_hasPlace_b16 at hf
  refine zr_run [(.iconst 0, 0, 0, 0, .int (0 : Int32))] [] (WW' := [w_Ld G a0 s0]) (lv' := [none, none]) (pc' := 17) (st' := [.int (0 : Int32)]) (by decide +kernel) rfl rfl ⟨trivial, trivial⟩ ?_
  obtain rfl := Option.some.inj hf
  exact zr_zret (by decide) (b0 := fun _ => 0) (by decide +kernel) rfl rfl rfl rfl rfl
set_option maxRecDepth 100000 in
set_option maxHeartbeats 4000000 in
theorem c_X3_hasPlace (l : Launch) (G : zj_G) (a0 : Nat → Nat) (s0 : LdT) (x1 : Int32) (r : Int32) (hf : f_X3_hasPlace s0 x1 = some r) : zj_C l G M_X3_hasPlace yX3_hasPlace [w_Ld G a0 s0] [.ref (a0 0), .int x1] (some (.int r)) (fun _ => [w_Ld G a0 s0]) := by
  have key : ∀ W0 : List va_W, zj_J l G M_X3_hasPlace W0 (zj_ret G M_X3_hasPlace W0 (some (.int r)) (fun _ => [w_Ld G a0 s0])) 0 0 [w_Ld G a0 s0] [some (.ref (a0 0)), some (.int x1)] 0 [] := by
    intro W0
    unfold f_X3_hasPlace at hf
    refine zr_run [(.iload_n 1, 0, 0, 0, .null)] [] (WW' := [w_Ld G a0 s0]) (lv' := [some (.ref (a0 0)), some (.int x1)]) (pc' := 1) (st' := [.int x1]) (by decide +kernel) rfl rfl ⟨trivial, trivial⟩ ?_
    refine zr_if_lt (off := 15) (tgt := 16) (by decide +kernel) (by decide) (fun hc => ?_) (fun hc => ?_)
    · have hf := zift hf hc
      refine zr_run [] [0, 1] (WW' := [w_Ld G a0 s0]) (lv' := [none, none]) (pc' := 16) (st' := []) (by decide +kernel) rfl rfl trivial ?_
      exact t_X3_hasPlace_b16 l G a0 W0 r s0 hf
    · have hf := ziff hf hc
      refine zr_run [(.iload_n 1, 0, 0, 0, .null), (.aload_n 0, 0, 0, 0, .null), (.getfield 9, 0, 0, 0, .null)] [] (WW' := [w_Ld G a0 s0]) (lv' := [some (.ref (a0 0)), some (.int x1)]) (pc' := 9) (st' := [.int (Ld_places s0), .int x1]) (by decide +kernel) rfl rfl ⟨trivial, trivial, ⟨rfl, rfl, zw_1_152⟩, trivial⟩ ?_
      refine zr_icmp_ge (off := 7) (tgt := 16) (by decide +kernel) (by decide) (fun hc => ?_) (fun hc => ?_)
      · have hf := zift hf hc
        refine zr_run [(.iconst 1, 0, 0, 0, .int (1 : Int32))] [] (WW' := [w_Ld G a0 s0]) (lv' := [some (.ref (a0 0)), some (.int x1)]) (pc' := 13) (st' := [.int (1 : Int32)]) (by decide +kernel) rfl rfl ⟨trivial, trivial⟩ ?_
        refine zr_goto (off := 4) (tgt := 17) (by decide +kernel) (by decide) ?_
        obtain rfl := Option.some.inj hf
        exact zr_zret (by decide) (b0 := fun _ => 0) (by decide +kernel) rfl rfl rfl rfl rfl
      · have hf := ziff hf hc
        refine zr_run [] [0, 1] (WW' := [w_Ld G a0 s0]) (lv' := [none, none]) (pc' := 16) (st' := []) (by decide +kernel) rfl rfl trivial ?_
        exact t_X3_hasPlace_b16 l G a0 W0 r s0 hf
  exact zj_entry [some (.ref (a0 0)), some (.int x1)] (by decide +kernel) rfl (by decide) (Nat.le_of_ble_eq_true rfl) rfl rfl (key _)
def M_X3_hasMan : zj_M := (RX3, cX3_hasMan, 2, (some .boolean), { frames := 0, cells := 0, slots := 0, locals := 0 }, false)
theorem nm_X3_hasMan : zj_nm yX3_hasMan 1 := ⟨by decide +kernel, by decide +kernel, by decide +kernel⟩
def f_X3_hasMan_b16  (s0 : LdT)   : Option (Int32) := some (0 : Int32)
def f_X3_hasMan  (s0 : LdT) (x1 : Int32) : Option (Int32) := (if x1 < 0 then f_X3_hasMan_b16 s0 else (if x1 < (Ld_men s0) then some (1 : Int32) else f_X3_hasMan_b16 s0))
set_option maxRecDepth 100000 in
set_option maxHeartbeats 4000000 in
theorem t_X3_hasMan_b16 (l : Launch) (G : zj_G) (a0 : Nat → Nat) (W0 : List va_W) (r : Int32) (s0 : LdT)    (hf : f_X3_hasMan_b16 s0 = some r) : zj_J l G M_X3_hasMan W0 (zj_ret G M_X3_hasMan W0 (some (.int r)) (fun _ => [w_Ld G a0 s0])) 0 0 [w_Ld G a0 s0] [none, none] 16 [] := by
  unfold f_X3_hasMan_b16 at hf
  refine zr_run [(.iconst 0, 0, 0, 0, .int (0 : Int32))] [] (WW' := [w_Ld G a0 s0]) (lv' := [none, none]) (pc' := 17) (st' := [.int (0 : Int32)]) (by decide +kernel) rfl rfl ⟨trivial, trivial⟩ ?_
  obtain rfl := Option.some.inj hf
  exact zr_zret (by decide) (b0 := fun _ => 0) (by decide +kernel) rfl rfl rfl rfl rfl
set_option maxRecDepth 100000 in
set_option maxHeartbeats 4000000 in
theorem c_X3_hasMan (l : Launch) (G : zj_G) (a0 : Nat → Nat) (s0 : LdT) (x1 : Int32) (r : Int32) (hf : f_X3_hasMan s0 x1 = some r) : zj_C l G M_X3_hasMan yX3_hasMan [w_Ld G a0 s0] [.ref (a0 0), .int x1] (some (.int r)) (fun _ => [w_Ld G a0 s0]) := by
  have key : ∀ W0 : List va_W, zj_J l G M_X3_hasMan W0 (zj_ret G M_X3_hasMan W0 (some (.int r)) (fun _ => [w_Ld G a0 s0])) 0 0 [w_Ld G a0 s0] [some (.ref (a0 0)), some (.int x1)] 0 [] := by
    intro W0
    unfold f_X3_hasMan at hf
    refine zr_run [(.iload_n 1, 0, 0, 0, .null)] [] (WW' := [w_Ld G a0 s0]) (lv' := [some (.ref (a0 0)), some (.int x1)]) (pc' := 1) (st' := [.int x1]) (by decide +kernel) rfl rfl ⟨trivial, trivial⟩ ?_
    refine zr_if_lt (off := 15) (tgt := 16) (by decide +kernel) (by decide) (fun hc => ?_) (fun hc => ?_)
    · have hf := zift hf hc
      refine zr_run [] [0, 1] (WW' := [w_Ld G a0 s0]) (lv' := [none, none]) (pc' := 16) (st' := []) (by decide +kernel) rfl rfl trivial ?_
      exact t_X3_hasMan_b16 l G a0 W0 r s0 hf
    · have hf := ziff hf hc
      refine zr_run [(.iload_n 1, 0, 0, 0, .null), (.aload_n 0, 0, 0, 0, .null), (.getfield 18, 0, 0, 2, .null)] [] (WW' := [w_Ld G a0 s0]) (lv' := [some (.ref (a0 0)), some (.int x1)]) (pc' := 9) (st' := [.int (Ld_men s0), .int x1]) (by decide +kernel) rfl rfl ⟨trivial, trivial, ⟨rfl, rfl, zw_1_158⟩, trivial⟩ ?_
      refine zr_icmp_ge (off := 7) (tgt := 16) (by decide +kernel) (by decide) (fun hc => ?_) (fun hc => ?_)
      · have hf := zift hf hc
        refine zr_run [(.iconst 1, 0, 0, 0, .int (1 : Int32))] [] (WW' := [w_Ld G a0 s0]) (lv' := [some (.ref (a0 0)), some (.int x1)]) (pc' := 13) (st' := [.int (1 : Int32)]) (by decide +kernel) rfl rfl ⟨trivial, trivial⟩ ?_
        refine zr_goto (off := 4) (tgt := 17) (by decide +kernel) (by decide) ?_
        obtain rfl := Option.some.inj hf
        exact zr_zret (by decide) (b0 := fun _ => 0) (by decide +kernel) rfl rfl rfl rfl rfl
      · have hf := ziff hf hc
        refine zr_run [] [0, 1] (WW' := [w_Ld G a0 s0]) (lv' := [none, none]) (pc' := 16) (st' := []) (by decide +kernel) rfl rfl trivial ?_
        exact t_X3_hasMan_b16 l G a0 W0 r s0 hf
  exact zj_entry [some (.ref (a0 0)), some (.int x1)] (by decide +kernel) rfl (by decide) (Nat.le_of_ble_eq_true rfl) rfl rfl (key _)
def M_X3_ofPlace : zj_M := (RX3, cX3_ofPlace, 4, (some .int), { frames := 0, cells := 0, slots := 0, locals := 0 }, false)
theorem nm_X3_ofPlace : zj_nm yX3_ofPlace 2 := ⟨by decide +kernel, by decide +kernel, by decide +kernel⟩
def f_X3_ofPlace_b19  (s0 : LdT)   : Option (Int32) := some (-1 : Int32)
def f_X3_ofPlace  (s0 : LdT) (x1 : Int32) (x2 : Int32) : Option (Int32) := (if ((x1 * (4 : Int32)) + x2) < 0 then f_X3_ofPlace_b19 s0 else (if ((x1 * (4 : Int32)) + x2) < (nI 40) then (if zb_in ((x1 * (4 : Int32)) + x2) 40 = true then some ((Ld_placeRows s0) ((x1 * (4 : Int32)) + x2).toNatClampNeg) else none) else f_X3_ofPlace_b19 s0))
set_option maxRecDepth 100000 in
set_option maxHeartbeats 4000000 in
theorem t_X3_ofPlace_b19 (l : Launch) (G : zj_G) (a0 : Nat → Nat) (W0 : List va_W) (r : Int32) (s0 : LdT)    (hf : f_X3_ofPlace_b19 s0 = some r) : zj_J l G M_X3_ofPlace W0 (zj_ret G M_X3_ofPlace W0 (some (.int r)) (fun _ => [w_Ld G a0 s0])) 0 0 [w_Ld G a0 s0] [none, none, none, none] 19 [] := by
  unfold f_X3_ofPlace_b19 at hf
  refine zr_run [(.iconst (-1), 0, 0, 0, .int (-1 : Int32))] [] (WW' := [w_Ld G a0 s0]) (lv' := [none, none, none, none]) (pc' := 20) (st' := [.int (-1 : Int32)]) (by decide +kernel) rfl rfl ⟨trivial, trivial⟩ ?_
  refine zr_goto (off := 9) (tgt := 29) (by decide +kernel) (by decide) ?_
  obtain rfl := Option.some.inj hf
  exact zr_iret (b0 := fun _ => 0) (by decide +kernel) rfl rfl rfl rfl rfl
set_option maxRecDepth 100000 in
set_option maxHeartbeats 4000000 in
theorem c_X3_ofPlace (l : Launch) (G : zj_G) (a0 : Nat → Nat) (s0 : LdT) (x1 : Int32) (x2 : Int32) (r : Int32) (hf : f_X3_ofPlace s0 x1 x2 = some r) : zj_C l G M_X3_ofPlace yX3_ofPlace [w_Ld G a0 s0] [.ref (a0 0), .int x1, .int x2] (some (.int r)) (fun _ => [w_Ld G a0 s0]) := by
  have key : ∀ W0 : List va_W, zj_J l G M_X3_ofPlace W0 (zj_ret G M_X3_ofPlace W0 (some (.int r)) (fun _ => [w_Ld G a0 s0])) 0 0 [w_Ld G a0 s0] [some (.ref (a0 0)), some (.int x1), some (.int x2), none] 0 [] := by
    intro W0
    unfold f_X3_ofPlace at hf
    refine zr_run [(.iload_n 1, 0, 0, 0, .null), (.iconst 4, 0, 0, 0, .int (4 : Int32)), (.imul, 0, 0, 0, .null), (.iload_n 2, 0, 0, 0, .null), (.iadd, 0, 0, 0, .null), (.istore_n 3, 0, 0, 0, .null), (.iload_n 3, 0, 0, 0, .null)] [] (WW' := [w_Ld G a0 s0]) (lv' := [some (.ref (a0 0)), some (.int x1), some (.int x2), some (.int ((x1 * (4 : Int32)) + x2))]) (pc' := 7) (st' := [.int ((x1 * (4 : Int32)) + x2)]) (by decide +kernel) rfl rfl ⟨trivial, trivial, trivial, trivial, trivial, trivial, trivial, trivial⟩ ?_
    refine zr_if_lt (off := 12) (tgt := 19) (by decide +kernel) (by decide) (fun hc => ?_) (fun hc => ?_)
    · have hf := zift hf hc
      refine zr_run [] [0, 1, 2, 3] (WW' := [w_Ld G a0 s0]) (lv' := [none, none, none, none]) (pc' := 19) (st' := []) (by decide +kernel) rfl rfl trivial ?_
      exact t_X3_ofPlace_b19 l G a0 W0 r s0 hf
    · have hf := ziff hf hc
      refine zr_run [(.iload_n 3, 0, 0, 0, .null), (.aload_n 0, 0, 0, 0, .null), (.getfield 34, 0, 0, 7, .null)] [] (WW' := [w_Ld G a0 s0]) (lv' := [some (.ref (a0 0)), some (.int x1), some (.int x2), some (.int ((x1 * (4 : Int32)) + x2))]) (pc' := 15) (st' := [.ref (a0 3), .int ((x1 * (4 : Int32)) + x2)]) (by decide +kernel) rfl rfl ⟨trivial, trivial, ⟨rfl, rfl, zw_1_171⟩, trivial⟩ ?_
      refine zr_alenI (b := 0) (c' := 3) rfl rfl rfl (by decide +kernel) ?_
      refine zr_icmp_lt (off := 7) (tgt := 23) (by decide +kernel) (by decide) (fun hc => ?_) (fun hc => ?_)
      · have hf := zift hf hc
        obtain ⟨h1, hf⟩ := zck_of hf
        refine zr_run [(.aload_n 0, 0, 0, 0, .null), (.getfield 34, 0, 0, 7, .null), (.iload_n 3, 0, 0, 0, .null), (.iaload, 0, 3, 0, .null)] [] (WW' := [w_Ld G a0 s0]) (lv' := [some (.ref (a0 0)), some (.int x1), some (.int x2), some (.int ((x1 * (4 : Int32)) + x2))]) (pc' := 29) (st' := [.int ((Ld_placeRows s0) ((x1 * (4 : Int32)) + x2).toNatClampNeg)]) (by decide +kernel) rfl rfl ⟨trivial, ⟨rfl, rfl, zw_1_171⟩, trivial, ⟨rfl, rfl, h1⟩, trivial⟩ ?_
        obtain rfl := Option.some.inj hf
        exact zr_iret (b0 := fun _ => 0) (by decide +kernel) rfl rfl rfl rfl rfl
      · have hf := ziff hf hc
        refine zr_run [] [0, 1, 2, 3] (WW' := [w_Ld G a0 s0]) (lv' := [none, none, none, none]) (pc' := 19) (st' := []) (by decide +kernel) rfl rfl trivial ?_
        exact t_X3_ofPlace_b19 l G a0 W0 r s0 hf
  exact zj_entry [some (.ref (a0 0)), some (.int x1), some (.int x2), none] (by decide +kernel) rfl (by decide) (Nat.le_of_ble_eq_true rfl) rfl rfl (key _)
def M_X3_isPort : zj_M := (RX3, cX3_isPort, 2, (some .boolean), { frames := 1, cells := 0, slots := 0, locals := 23 }, false)
theorem nm_X3_isPort : zj_nm yX3_isPort 1 := ⟨by decide +kernel, by decide +kernel, by decide +kernel⟩
def f_X3_isPort_b22  (s0 : LdT)   : Option (Int32) := some (0 : Int32)
def f_X3_isPort  (s0 : LdT) (x1 : Int32) : Option (Int32) := ((f_X3_hasPlace s0 x1).bind fun q1 => (if q1 = 0 then f_X3_isPort_b22 s0 else ((f_X3_ofPlace s0 x1 (0 : Int32)).bind fun q2 => (if q2 = (2 : Int32) then some (1 : Int32) else f_X3_isPort_b22 s0))))
set_option maxRecDepth 100000 in
set_option maxHeartbeats 4000000 in
theorem t_X3_isPort_b22 (l : Launch) (G : zj_G) (a0 : Nat → Nat) (W0 : List va_W) (r : Int32) (s0 : LdT)    (hf : f_X3_isPort_b22 s0 = some r) : zj_J l G M_X3_isPort W0 (zj_ret G M_X3_isPort W0 (some (.int r)) (fun _ => [w_Ld G a0 s0])) 0 0 [w_Ld G a0 s0] [none, none] 22 [] := by
  unfold f_X3_isPort_b22 at hf
  refine zr_run [(.iconst 0, 0, 0, 0, .int (0 : Int32))] [] (WW' := [w_Ld G a0 s0]) (lv' := [none, none]) (pc' := 23) (st' := [.int (0 : Int32)]) (by decide +kernel) rfl rfl ⟨trivial, trivial⟩ ?_
  obtain rfl := Option.some.inj hf
  exact zr_zret (by decide) (b0 := fun _ => 0) (by decide +kernel) rfl rfl rfl rfl rfl
set_option maxRecDepth 100000 in
set_option maxHeartbeats 4000000 in
theorem c_X3_isPort (l : Launch) (G : zj_G) (a0 : Nat → Nat) (s0 : LdT) (x1 : Int32) (r : Int32) (hf : f_X3_isPort s0 x1 = some r) : zj_C l G M_X3_isPort yX3_isPort [w_Ld G a0 s0] [.ref (a0 0), .int x1] (some (.int r)) (fun _ => [w_Ld G a0 s0]) := by
  have key : ∀ W0 : List va_W, zj_J l G M_X3_isPort W0 (zj_ret G M_X3_isPort W0 (some (.int r)) (fun _ => [w_Ld G a0 s0])) 0 0 [w_Ld G a0 s0] [some (.ref (a0 0)), some (.int x1)] 0 [] := by
    intro W0
    unfold f_X3_isPort at hf
    obtain ⟨q1, e1, hf⟩ := zbi_of hf
    refine zr_run [(.aload_n 0, 0, 0, 0, .null), (.iload_n 1, 0, 0, 0, .null)] [] (WW' := [w_Ld G a0 s0]) (lv' := [some (.ref (a0 0)), some (.int x1)]) (pc' := 2) (st' := [.int x1, .ref (a0 0)]) (by decide +kernel) rfl rfl ⟨trivial, trivial, trivial⟩ ?_
    refine zr_callV (c_X3_hasPlace l G a0 s0 x1 q1 e1) (WW' := fun _ => [w_Ld G a0 s0]) (st := []) (st' := [.int q1]) [0] rfl rfl (fun _ => Nat.le_of_ble_eq_true rfl) (fun _ => rfl) rfl rfl nm_X3_hasPlace zw_3_176 zw_3_130 zw_3_131 zw_1_7 zw_3_132 rfl rfl rfl (Nat.le_of_ble_eq_true rfl) ⟨Nat.le_of_ble_eq_true rfl, Nat.le_of_ble_eq_true rfl⟩ (by decide +kernel) (fun _ => ?_)
    refine zr_if_eq (off := 17) (tgt := 22) (by decide +kernel) (by decide) (fun hc => ?_) (fun hc => ?_)
    · have hf := zift hf hc
      refine zr_run [] [0, 1] (WW' := [w_Ld G a0 s0]) (lv' := [none, none]) (pc' := 22) (st' := []) (by decide +kernel) rfl rfl trivial ?_
      exact t_X3_isPort_b22 l G a0 W0 r s0 hf
    · have hf := ziff hf hc
      obtain ⟨q2, e2, hf⟩ := zbi_of hf
      refine zr_run [(.aload_n 0, 0, 0, 0, .null), (.iload_n 1, 0, 0, 0, .null), (.iconst 0, 0, 0, 0, .int (0 : Int32))] [] (WW' := [w_Ld G a0 s0]) (lv' := [some (.ref (a0 0)), some (.int x1)]) (pc' := 11) (st' := [.int (0 : Int32), .int x1, .ref (a0 0)]) (by decide +kernel) rfl rfl ⟨trivial, trivial, trivial, trivial⟩ ?_
      refine zr_callV (c_X3_ofPlace l G a0 s0 x1 (0 : Int32) q2 e2) (WW' := fun _ => [w_Ld G a0 s0]) (st := []) (st' := [.int q2]) [0] rfl rfl (fun _ => Nat.le_of_ble_eq_true rfl) (fun _ => rfl) rfl rfl nm_X3_ofPlace zw_3_54 zw_3_55 zw_3_56 zw_1_7 zw_3_55n rfl rfl rfl (Nat.le_of_ble_eq_true rfl) ⟨Nat.le_of_ble_eq_true rfl, Nat.le_of_ble_eq_true rfl⟩ (by decide +kernel) (fun _ => ?_)
      refine zr_run [(.iconst 2, 0, 0, 0, .int (2 : Int32))] [] (WW' := [w_Ld G a0 s0]) (lv' := [some (.ref (a0 0)), some (.int x1)]) (pc' := 15) (st' := [.int (2 : Int32), .int q2]) (by decide +kernel) rfl rfl ⟨trivial, trivial⟩ ?_
      refine zr_icmp_ne (off := 7) (tgt := 22) (by decide +kernel) (by decide) (fun hc => ?_) (fun hc => ?_)
      · have hf := zift hf hc
        refine zr_run [(.iconst 1, 0, 0, 0, .int (1 : Int32))] [] (WW' := [w_Ld G a0 s0]) (lv' := [some (.ref (a0 0)), some (.int x1)]) (pc' := 19) (st' := [.int (1 : Int32)]) (by decide +kernel) rfl rfl ⟨trivial, trivial⟩ ?_
        refine zr_goto (off := 4) (tgt := 23) (by decide +kernel) (by decide) ?_
        obtain rfl := Option.some.inj hf
        exact zr_zret (by decide) (b0 := fun _ => 0) (by decide +kernel) rfl rfl rfl rfl rfl
      · have hf := ziff hf hc
        refine zr_run [] [0, 1] (WW' := [w_Ld G a0 s0]) (lv' := [none, none]) (pc' := 22) (st' := []) (by decide +kernel) rfl rfl trivial ?_
        exact t_X3_isPort_b22 l G a0 W0 r s0 hf
  exact zj_entry [some (.ref (a0 0)), some (.int x1)] (by decide +kernel) rfl (by decide) (Nat.le_of_ble_eq_true rfl) rfl rfl (key _)
def M_X3_ofRoad : zj_M := (RX3, cX3_ofRoad, 4, (some .int), { frames := 0, cells := 0, slots := 0, locals := 0 }, false)
theorem nm_X3_ofRoad : zj_nm yX3_ofRoad 2 := ⟨by decide +kernel, by decide +kernel, by decide +kernel⟩
def f_X3_ofRoad_b19  (s0 : LdT)   : Option (Int32) := some (-1 : Int32)
def f_X3_ofRoad  (s0 : LdT) (x1 : Int32) (x2 : Int32) : Option (Int32) := (if ((x1 * (5 : Int32)) + x2) < 0 then f_X3_ofRoad_b19 s0 else (if ((x1 * (5 : Int32)) + x2) < (nI 80) then (if zb_in ((x1 * (5 : Int32)) + x2) 80 = true then some ((Ld_roadRows s0) ((x1 * (5 : Int32)) + x2).toNatClampNeg) else none) else f_X3_ofRoad_b19 s0))
set_option maxRecDepth 100000 in
set_option maxHeartbeats 4000000 in
theorem t_X3_ofRoad_b19 (l : Launch) (G : zj_G) (a0 : Nat → Nat) (W0 : List va_W) (r : Int32) (s0 : LdT)    (hf : f_X3_ofRoad_b19 s0 = some r) : zj_J l G M_X3_ofRoad W0 (zj_ret G M_X3_ofRoad W0 (some (.int r)) (fun _ => [w_Ld G a0 s0])) 0 0 [w_Ld G a0 s0] [none, none, none, none] 19 [] := by
  unfold f_X3_ofRoad_b19 at hf
  refine zr_run [(.iconst (-1), 0, 0, 0, .int (-1 : Int32))] [] (WW' := [w_Ld G a0 s0]) (lv' := [none, none, none, none]) (pc' := 20) (st' := [.int (-1 : Int32)]) (by decide +kernel) rfl rfl ⟨trivial, trivial⟩ ?_
  refine zr_goto (off := 9) (tgt := 29) (by decide +kernel) (by decide) ?_
  obtain rfl := Option.some.inj hf
  exact zr_iret (b0 := fun _ => 0) (by decide +kernel) rfl rfl rfl rfl rfl
set_option maxRecDepth 100000 in
set_option maxHeartbeats 4000000 in
theorem c_X3_ofRoad (l : Launch) (G : zj_G) (a0 : Nat → Nat) (s0 : LdT) (x1 : Int32) (x2 : Int32) (r : Int32) (hf : f_X3_ofRoad s0 x1 x2 = some r) : zj_C l G M_X3_ofRoad yX3_ofRoad [w_Ld G a0 s0] [.ref (a0 0), .int x1, .int x2] (some (.int r)) (fun _ => [w_Ld G a0 s0]) := by
  have key : ∀ W0 : List va_W, zj_J l G M_X3_ofRoad W0 (zj_ret G M_X3_ofRoad W0 (some (.int r)) (fun _ => [w_Ld G a0 s0])) 0 0 [w_Ld G a0 s0] [some (.ref (a0 0)), some (.int x1), some (.int x2), none] 0 [] := by
    intro W0
    unfold f_X3_ofRoad at hf
    refine zr_run [(.iload_n 1, 0, 0, 0, .null), (.iconst 5, 0, 0, 0, .int (5 : Int32)), (.imul, 0, 0, 0, .null), (.iload_n 2, 0, 0, 0, .null), (.iadd, 0, 0, 0, .null), (.istore_n 3, 0, 0, 0, .null), (.iload_n 3, 0, 0, 0, .null)] [] (WW' := [w_Ld G a0 s0]) (lv' := [some (.ref (a0 0)), some (.int x1), some (.int x2), some (.int ((x1 * (5 : Int32)) + x2))]) (pc' := 7) (st' := [.int ((x1 * (5 : Int32)) + x2)]) (by decide +kernel) rfl rfl ⟨trivial, trivial, trivial, trivial, trivial, trivial, trivial, trivial⟩ ?_
    refine zr_if_lt (off := 12) (tgt := 19) (by decide +kernel) (by decide) (fun hc => ?_) (fun hc => ?_)
    · have hf := zift hf hc
      refine zr_run [] [0, 1, 2, 3] (WW' := [w_Ld G a0 s0]) (lv' := [none, none, none, none]) (pc' := 19) (st' := []) (by decide +kernel) rfl rfl trivial ?_
      exact t_X3_ofRoad_b19 l G a0 W0 r s0 hf
    · have hf := ziff hf hc
      refine zr_run [(.iload_n 3, 0, 0, 0, .null), (.aload_n 0, 0, 0, 0, .null), (.getfield 38, 0, 0, 8, .null)] [] (WW' := [w_Ld G a0 s0]) (lv' := [some (.ref (a0 0)), some (.int x1), some (.int x2), some (.int ((x1 * (5 : Int32)) + x2))]) (pc' := 15) (st' := [.ref (a0 4), .int ((x1 * (5 : Int32)) + x2)]) (by decide +kernel) rfl rfl ⟨trivial, trivial, ⟨rfl, rfl, zw_1_172⟩, trivial⟩ ?_
      refine zr_alenI (b := 0) (c' := 4) rfl rfl rfl (by decide +kernel) ?_
      refine zr_icmp_lt (off := 7) (tgt := 23) (by decide +kernel) (by decide) (fun hc => ?_) (fun hc => ?_)
      · have hf := zift hf hc
        obtain ⟨h1, hf⟩ := zck_of hf
        refine zr_run [(.aload_n 0, 0, 0, 0, .null), (.getfield 38, 0, 0, 8, .null), (.iload_n 3, 0, 0, 0, .null), (.iaload, 0, 4, 0, .null)] [] (WW' := [w_Ld G a0 s0]) (lv' := [some (.ref (a0 0)), some (.int x1), some (.int x2), some (.int ((x1 * (5 : Int32)) + x2))]) (pc' := 29) (st' := [.int ((Ld_roadRows s0) ((x1 * (5 : Int32)) + x2).toNatClampNeg)]) (by decide +kernel) rfl rfl ⟨trivial, ⟨rfl, rfl, zw_1_172⟩, trivial, ⟨rfl, rfl, h1⟩, trivial⟩ ?_
        obtain rfl := Option.some.inj hf
        exact zr_iret (b0 := fun _ => 0) (by decide +kernel) rfl rfl rfl rfl rfl
      · have hf := ziff hf hc
        refine zr_run [] [0, 1, 2, 3] (WW' := [w_Ld G a0 s0]) (lv' := [none, none, none, none]) (pc' := 19) (st' := []) (by decide +kernel) rfl rfl trivial ?_
        exact t_X3_ofRoad_b19 l G a0 W0 r s0 hf
  exact zj_entry [some (.ref (a0 0)), some (.int x1), some (.int x2), none] (by decide +kernel) rfl (by decide) (Nat.le_of_ble_eq_true rfl) rfl rfl (key _)
def M_X3_ofMan : zj_M := (RX3, cX3_ofMan, 4, (some .int), { frames := 0, cells := 0, slots := 0, locals := 0 }, false)
theorem nm_X3_ofMan : zj_nm yX3_ofMan 2 := ⟨by decide +kernel, by decide +kernel, by decide +kernel⟩
def f_X3_ofMan_b19  (s0 : LdT)   : Option (Int32) := some (-1 : Int32)
def f_X3_ofMan  (s0 : LdT) (x1 : Int32) (x2 : Int32) : Option (Int32) := (if ((x1 * (4 : Int32)) + x2) < 0 then f_X3_ofMan_b19 s0 else (if ((x1 * (4 : Int32)) + x2) < (nI 24) then (if zb_in ((x1 * (4 : Int32)) + x2) 24 = true then some ((Ld_manRows s0) ((x1 * (4 : Int32)) + x2).toNatClampNeg) else none) else f_X3_ofMan_b19 s0))
set_option maxRecDepth 100000 in
set_option maxHeartbeats 4000000 in
theorem t_X3_ofMan_b19 (l : Launch) (G : zj_G) (a0 : Nat → Nat) (W0 : List va_W) (r : Int32) (s0 : LdT)    (hf : f_X3_ofMan_b19 s0 = some r) : zj_J l G M_X3_ofMan W0 (zj_ret G M_X3_ofMan W0 (some (.int r)) (fun _ => [w_Ld G a0 s0])) 0 0 [w_Ld G a0 s0] [none, none, none, none] 19 [] := by
  unfold f_X3_ofMan_b19 at hf
  refine zr_run [(.iconst (-1), 0, 0, 0, .int (-1 : Int32))] [] (WW' := [w_Ld G a0 s0]) (lv' := [none, none, none, none]) (pc' := 20) (st' := [.int (-1 : Int32)]) (by decide +kernel) rfl rfl ⟨trivial, trivial⟩ ?_
  refine zr_goto (off := 9) (tgt := 29) (by decide +kernel) (by decide) ?_
  obtain rfl := Option.some.inj hf
  exact zr_iret (b0 := fun _ => 0) (by decide +kernel) rfl rfl rfl rfl rfl
set_option maxRecDepth 100000 in
set_option maxHeartbeats 4000000 in
theorem c_X3_ofMan (l : Launch) (G : zj_G) (a0 : Nat → Nat) (s0 : LdT) (x1 : Int32) (x2 : Int32) (r : Int32) (hf : f_X3_ofMan s0 x1 x2 = some r) : zj_C l G M_X3_ofMan yX3_ofMan [w_Ld G a0 s0] [.ref (a0 0), .int x1, .int x2] (some (.int r)) (fun _ => [w_Ld G a0 s0]) := by
  have key : ∀ W0 : List va_W, zj_J l G M_X3_ofMan W0 (zj_ret G M_X3_ofMan W0 (some (.int r)) (fun _ => [w_Ld G a0 s0])) 0 0 [w_Ld G a0 s0] [some (.ref (a0 0)), some (.int x1), some (.int x2), none] 0 [] := by
    intro W0
    unfold f_X3_ofMan at hf
    refine zr_run [(.iload_n 1, 0, 0, 0, .null), (.iconst 4, 0, 0, 0, .int (4 : Int32)), (.imul, 0, 0, 0, .null), (.iload_n 2, 0, 0, 0, .null), (.iadd, 0, 0, 0, .null), (.istore_n 3, 0, 0, 0, .null), (.iload_n 3, 0, 0, 0, .null)] [] (WW' := [w_Ld G a0 s0]) (lv' := [some (.ref (a0 0)), some (.int x1), some (.int x2), some (.int ((x1 * (4 : Int32)) + x2))]) (pc' := 7) (st' := [.int ((x1 * (4 : Int32)) + x2)]) (by decide +kernel) rfl rfl ⟨trivial, trivial, trivial, trivial, trivial, trivial, trivial, trivial⟩ ?_
    refine zr_if_lt (off := 12) (tgt := 19) (by decide +kernel) (by decide) (fun hc => ?_) (fun hc => ?_)
    · have hf := zift hf hc
      refine zr_run [] [0, 1, 2, 3] (WW' := [w_Ld G a0 s0]) (lv' := [none, none, none, none]) (pc' := 19) (st' := []) (by decide +kernel) rfl rfl trivial ?_
      exact t_X3_ofMan_b19 l G a0 W0 r s0 hf
    · have hf := ziff hf hc
      refine zr_run [(.iload_n 3, 0, 0, 0, .null), (.aload_n 0, 0, 0, 0, .null), (.getfield 41, 0, 0, 9, .null)] [] (WW' := [w_Ld G a0 s0]) (lv' := [some (.ref (a0 0)), some (.int x1), some (.int x2), some (.int ((x1 * (4 : Int32)) + x2))]) (pc' := 15) (st' := [.ref (a0 5), .int ((x1 * (4 : Int32)) + x2)]) (by decide +kernel) rfl rfl ⟨trivial, trivial, ⟨rfl, rfl, zw_1_173⟩, trivial⟩ ?_
      refine zr_alenI (b := 0) (c' := 5) rfl rfl rfl (by decide +kernel) ?_
      refine zr_icmp_lt (off := 7) (tgt := 23) (by decide +kernel) (by decide) (fun hc => ?_) (fun hc => ?_)
      · have hf := zift hf hc
        obtain ⟨h1, hf⟩ := zck_of hf
        refine zr_run [(.aload_n 0, 0, 0, 0, .null), (.getfield 41, 0, 0, 9, .null), (.iload_n 3, 0, 0, 0, .null), (.iaload, 0, 5, 0, .null)] [] (WW' := [w_Ld G a0 s0]) (lv' := [some (.ref (a0 0)), some (.int x1), some (.int x2), some (.int ((x1 * (4 : Int32)) + x2))]) (pc' := 29) (st' := [.int ((Ld_manRows s0) ((x1 * (4 : Int32)) + x2).toNatClampNeg)]) (by decide +kernel) rfl rfl ⟨trivial, ⟨rfl, rfl, zw_1_173⟩, trivial, ⟨rfl, rfl, h1⟩, trivial⟩ ?_
        obtain rfl := Option.some.inj hf
        exact zr_iret (b0 := fun _ => 0) (by decide +kernel) rfl rfl rfl rfl rfl
      · have hf := ziff hf hc
        refine zr_run [] [0, 1, 2, 3] (WW' := [w_Ld G a0 s0]) (lv' := [none, none, none, none]) (pc' := 19) (st' := []) (by decide +kernel) rfl rfl trivial ?_
        exact t_X3_ofMan_b19 l G a0 W0 r s0 hf
  exact zj_entry [some (.ref (a0 0)), some (.int x1), some (.int x2), none] (by decide +kernel) rfl (by decide) (Nat.le_of_ble_eq_true rfl) rfl rfl (key _)
def M_X3_roadBetween : zj_M := (RX3, cX3_roadBetween, 4, (some .int), { frames := 0, cells := 0, slots := 0, locals := 0 }, false)
theorem nm_X3_roadBetween : zj_nm yX3_roadBetween 2 := ⟨by decide +kernel, by decide +kernel, by decide +kernel⟩
def f_X3_roadBetween_b20  (s0 : LdT)   : Option (Int32) := some (-1 : Int32)
def f_X3_roadBetween  (s0 : LdT) (x1 : Int32) (x2 : Int32) : Option (Int32) := (if ((x1 * (10 : Int32)) + x2) < 0 then f_X3_roadBetween_b20 s0 else (if ((x1 * (10 : Int32)) + x2) < (nI 100) then (if zb_in ((x1 * (10 : Int32)) + x2) 100 = true then some ((Ld_between s0) ((x1 * (10 : Int32)) + x2).toNatClampNeg) else none) else f_X3_roadBetween_b20 s0))
set_option maxRecDepth 100000 in
set_option maxHeartbeats 4000000 in
theorem t_X3_roadBetween_b20 (l : Launch) (G : zj_G) (a0 : Nat → Nat) (W0 : List va_W) (r : Int32) (s0 : LdT)    (hf : f_X3_roadBetween_b20 s0 = some r) : zj_J l G M_X3_roadBetween W0 (zj_ret G M_X3_roadBetween W0 (some (.int r)) (fun _ => [w_Ld G a0 s0])) 0 0 [w_Ld G a0 s0] [none, none, none, none] 20 [] := by
  unfold f_X3_roadBetween_b20 at hf
  refine zr_run [(.iconst (-1), 0, 0, 0, .int (-1 : Int32))] [] (WW' := [w_Ld G a0 s0]) (lv' := [none, none, none, none]) (pc' := 21) (st' := [.int (-1 : Int32)]) (by decide +kernel) rfl rfl ⟨trivial, trivial⟩ ?_
  refine zr_goto (off := 9) (tgt := 30) (by decide +kernel) (by decide) ?_
  obtain rfl := Option.some.inj hf
  exact zr_iret (b0 := fun _ => 0) (by decide +kernel) rfl rfl rfl rfl rfl
set_option maxRecDepth 100000 in
set_option maxHeartbeats 4000000 in
theorem c_X3_roadBetween (l : Launch) (G : zj_G) (a0 : Nat → Nat) (s0 : LdT) (x1 : Int32) (x2 : Int32) (r : Int32) (hf : f_X3_roadBetween s0 x1 x2 = some r) : zj_C l G M_X3_roadBetween yX3_roadBetween [w_Ld G a0 s0] [.ref (a0 0), .int x1, .int x2] (some (.int r)) (fun _ => [w_Ld G a0 s0]) := by
  have key : ∀ W0 : List va_W, zj_J l G M_X3_roadBetween W0 (zj_ret G M_X3_roadBetween W0 (some (.int r)) (fun _ => [w_Ld G a0 s0])) 0 0 [w_Ld G a0 s0] [some (.ref (a0 0)), some (.int x1), some (.int x2), none] 0 [] := by
    intro W0
    unfold f_X3_roadBetween at hf
    refine zr_run [(.iload_n 1, 0, 0, 0, .null), (.bipush 10, 0, 0, 0, .int (10 : Int32)), (.imul, 0, 0, 0, .null), (.iload_n 2, 0, 0, 0, .null), (.iadd, 0, 0, 0, .null), (.istore_n 3, 0, 0, 0, .null), (.iload_n 3, 0, 0, 0, .null)] [] (WW' := [w_Ld G a0 s0]) (lv' := [some (.ref (a0 0)), some (.int x1), some (.int x2), some (.int ((x1 * (10 : Int32)) + x2))]) (pc' := 8) (st' := [.int ((x1 * (10 : Int32)) + x2)]) (by decide +kernel) rfl rfl ⟨trivial, trivial, trivial, trivial, trivial, trivial, trivial, trivial⟩ ?_
    refine zr_if_lt (off := 12) (tgt := 20) (by decide +kernel) (by decide) (fun hc => ?_) (fun hc => ?_)
    · have hf := zift hf hc
      refine zr_run [] [0, 1, 2, 3] (WW' := [w_Ld G a0 s0]) (lv' := [none, none, none, none]) (pc' := 20) (st' := []) (by decide +kernel) rfl rfl trivial ?_
      exact t_X3_roadBetween_b20 l G a0 W0 r s0 hf
    · have hf := ziff hf hc
      refine zr_run [(.iload_n 3, 0, 0, 0, .null), (.aload_n 0, 0, 0, 0, .null), (.getfield 44, 0, 0, 10, .null)] [] (WW' := [w_Ld G a0 s0]) (lv' := [some (.ref (a0 0)), some (.int x1), some (.int x2), some (.int ((x1 * (10 : Int32)) + x2))]) (pc' := 16) (st' := [.ref (a0 6), .int ((x1 * (10 : Int32)) + x2)]) (by decide +kernel) rfl rfl ⟨trivial, trivial, ⟨rfl, rfl, zw_1_174⟩, trivial⟩ ?_
      refine zr_alenI (b := 0) (c' := 6) rfl rfl rfl (by decide +kernel) ?_
      refine zr_icmp_lt (off := 7) (tgt := 24) (by decide +kernel) (by decide) (fun hc => ?_) (fun hc => ?_)
      · have hf := zift hf hc
        obtain ⟨h1, hf⟩ := zck_of hf
        refine zr_run [(.aload_n 0, 0, 0, 0, .null), (.getfield 44, 0, 0, 10, .null), (.iload_n 3, 0, 0, 0, .null), (.iaload, 0, 6, 0, .null)] [] (WW' := [w_Ld G a0 s0]) (lv' := [some (.ref (a0 0)), some (.int x1), some (.int x2), some (.int ((x1 * (10 : Int32)) + x2))]) (pc' := 30) (st' := [.int ((Ld_between s0) ((x1 * (10 : Int32)) + x2).toNatClampNeg)]) (by decide +kernel) rfl rfl ⟨trivial, ⟨rfl, rfl, zw_1_174⟩, trivial, ⟨rfl, rfl, h1⟩, trivial⟩ ?_
        obtain rfl := Option.some.inj hf
        exact zr_iret (b0 := fun _ => 0) (by decide +kernel) rfl rfl rfl rfl rfl
      · have hf := ziff hf hc
        refine zr_run [] [0, 1, 2, 3] (WW' := [w_Ld G a0 s0]) (lv' := [none, none, none, none]) (pc' := 20) (st' := []) (by decide +kernel) rfl rfl trivial ?_
        exact t_X3_roadBetween_b20 l G a0 W0 r s0 hf
  exact zj_entry [some (.ref (a0 0)), some (.int x1), some (.int x2), none] (by decide +kernel) rfl (by decide) (Nat.le_of_ble_eq_true rfl) rfl rfl (key _)
def M_X3_milesBetween : zj_M := (RX3, cX3_milesBetween, 4, (some .int), { frames := 0, cells := 0, slots := 0, locals := 0 }, false)
theorem nm_X3_milesBetween : zj_nm yX3_milesBetween 2 := ⟨by decide +kernel, by decide +kernel, by decide +kernel⟩
def f_X3_milesBetween_b20  (s0 : LdT)   : Option (Int32) := some (100000 : Int32)
def f_X3_milesBetween  (s0 : LdT) (x1 : Int32) (x2 : Int32) : Option (Int32) := (if ((x1 * (10 : Int32)) + x2) < 0 then f_X3_milesBetween_b20 s0 else (if ((x1 * (10 : Int32)) + x2) < (nI 100) then (if zb_in ((x1 * (10 : Int32)) + x2) 100 = true then some ((Ld_miles s0) ((x1 * (10 : Int32)) + x2).toNatClampNeg) else none) else f_X3_milesBetween_b20 s0))
set_option maxRecDepth 100000 in
set_option maxHeartbeats 4000000 in
theorem t_X3_milesBetween_b20 (l : Launch) (G : zj_G) (a0 : Nat → Nat) (W0 : List va_W) (r : Int32) (s0 : LdT)    (hf : f_X3_milesBetween_b20 s0 = some r) : zj_J l G M_X3_milesBetween W0 (zj_ret G M_X3_milesBetween W0 (some (.int r)) (fun _ => [w_Ld G a0 s0])) 0 0 [w_Ld G a0 s0] [none, none, none, none] 20 [] := by
  unfold f_X3_milesBetween_b20 at hf
  refine zr_run [(.ldc 73, 0, 0, 0, .int (100000 : Int32))] [] (WW' := [w_Ld G a0 s0]) (lv' := [none, none, none, none]) (pc' := 22) (st' := [.int (100000 : Int32)]) (by decide +kernel) rfl rfl ⟨zw_3_76n, trivial⟩ ?_
  refine zr_goto (off := 9) (tgt := 31) (by decide +kernel) (by decide) ?_
  obtain rfl := Option.some.inj hf
  exact zr_iret (b0 := fun _ => 0) (by decide +kernel) rfl rfl rfl rfl rfl
set_option maxRecDepth 100000 in
set_option maxHeartbeats 4000000 in
theorem c_X3_milesBetween (l : Launch) (G : zj_G) (a0 : Nat → Nat) (s0 : LdT) (x1 : Int32) (x2 : Int32) (r : Int32) (hf : f_X3_milesBetween s0 x1 x2 = some r) : zj_C l G M_X3_milesBetween yX3_milesBetween [w_Ld G a0 s0] [.ref (a0 0), .int x1, .int x2] (some (.int r)) (fun _ => [w_Ld G a0 s0]) := by
  have key : ∀ W0 : List va_W, zj_J l G M_X3_milesBetween W0 (zj_ret G M_X3_milesBetween W0 (some (.int r)) (fun _ => [w_Ld G a0 s0])) 0 0 [w_Ld G a0 s0] [some (.ref (a0 0)), some (.int x1), some (.int x2), none] 0 [] := by
    intro W0
    unfold f_X3_milesBetween at hf
    refine zr_run [(.iload_n 1, 0, 0, 0, .null), (.bipush 10, 0, 0, 0, .int (10 : Int32)), (.imul, 0, 0, 0, .null), (.iload_n 2, 0, 0, 0, .null), (.iadd, 0, 0, 0, .null), (.istore_n 3, 0, 0, 0, .null), (.iload_n 3, 0, 0, 0, .null)] [] (WW' := [w_Ld G a0 s0]) (lv' := [some (.ref (a0 0)), some (.int x1), some (.int x2), some (.int ((x1 * (10 : Int32)) + x2))]) (pc' := 8) (st' := [.int ((x1 * (10 : Int32)) + x2)]) (by decide +kernel) rfl rfl ⟨trivial, trivial, trivial, trivial, trivial, trivial, trivial, trivial⟩ ?_
    refine zr_if_lt (off := 12) (tgt := 20) (by decide +kernel) (by decide) (fun hc => ?_) (fun hc => ?_)
    · have hf := zift hf hc
      refine zr_run [] [0, 1, 2, 3] (WW' := [w_Ld G a0 s0]) (lv' := [none, none, none, none]) (pc' := 20) (st' := []) (by decide +kernel) rfl rfl trivial ?_
      exact t_X3_milesBetween_b20 l G a0 W0 r s0 hf
    · have hf := ziff hf hc
      refine zr_run [(.iload_n 3, 0, 0, 0, .null), (.aload_n 0, 0, 0, 0, .null), (.getfield 47, 0, 0, 11, .null)] [] (WW' := [w_Ld G a0 s0]) (lv' := [some (.ref (a0 0)), some (.int x1), some (.int x2), some (.int ((x1 * (10 : Int32)) + x2))]) (pc' := 16) (st' := [.ref (a0 7), .int ((x1 * (10 : Int32)) + x2)]) (by decide +kernel) rfl rfl ⟨trivial, trivial, ⟨rfl, rfl, zw_1_175⟩, trivial⟩ ?_
      refine zr_alenI (b := 0) (c' := 7) rfl rfl rfl (by decide +kernel) ?_
      refine zr_icmp_lt (off := 8) (tgt := 25) (by decide +kernel) (by decide) (fun hc => ?_) (fun hc => ?_)
      · have hf := zift hf hc
        obtain ⟨h1, hf⟩ := zck_of hf
        refine zr_run [(.aload_n 0, 0, 0, 0, .null), (.getfield 47, 0, 0, 11, .null), (.iload_n 3, 0, 0, 0, .null), (.iaload, 0, 7, 0, .null)] [] (WW' := [w_Ld G a0 s0]) (lv' := [some (.ref (a0 0)), some (.int x1), some (.int x2), some (.int ((x1 * (10 : Int32)) + x2))]) (pc' := 31) (st' := [.int ((Ld_miles s0) ((x1 * (10 : Int32)) + x2).toNatClampNeg)]) (by decide +kernel) rfl rfl ⟨trivial, ⟨rfl, rfl, zw_1_175⟩, trivial, ⟨rfl, rfl, h1⟩, trivial⟩ ?_
        obtain rfl := Option.some.inj hf
        exact zr_iret (b0 := fun _ => 0) (by decide +kernel) rfl rfl rfl rfl rfl
      · have hf := ziff hf hc
        refine zr_run [] [0, 1, 2, 3] (WW' := [w_Ld G a0 s0]) (lv' := [none, none, none, none]) (pc' := 20) (st' := []) (by decide +kernel) rfl rfl trivial ?_
        exact t_X3_milesBetween_b20 l G a0 W0 r s0 hf
  exact zj_entry [some (.ref (a0 0)), some (.int x1), some (.int x2), none] (by decide +kernel) rfl (by decide) (Nat.le_of_ble_eq_true rfl) rfl rfl (key _)
def M_X3_joined : zj_M := (RX3, cX3_joined, 3, (some .boolean), { frames := 1, cells := 0, slots := 0, locals := 23 }, false)
theorem nm_X3_joined : zj_nm yX3_joined 2 := ⟨by decide +kernel, by decide +kernel, by decide +kernel⟩
def f_X3_joined  (s0 : LdT) (x1 : Int32) (x2 : Int32) : Option (Int32) := ((f_X3_milesBetween s0 x1 x2).bind fun q1 => (if q1 < (100000 : Int32) then some (1 : Int32) else some (0 : Int32)))
set_option maxRecDepth 100000 in
set_option maxHeartbeats 4000000 in
theorem c_X3_joined (l : Launch) (G : zj_G) (a0 : Nat → Nat) (s0 : LdT) (x1 : Int32) (x2 : Int32) (r : Int32) (hf : f_X3_joined s0 x1 x2 = some r) : zj_C l G M_X3_joined yX3_joined [w_Ld G a0 s0] [.ref (a0 0), .int x1, .int x2] (some (.int r)) (fun _ => [w_Ld G a0 s0]) := by
  have key : ∀ W0 : List va_W, zj_J l G M_X3_joined W0 (zj_ret G M_X3_joined W0 (some (.int r)) (fun _ => [w_Ld G a0 s0])) 0 0 [w_Ld G a0 s0] [some (.ref (a0 0)), some (.int x1), some (.int x2)] 0 [] := by
    intro W0
    unfold f_X3_joined at hf
    obtain ⟨q1, e1, hf⟩ := zbi_of hf
    refine zr_run [(.aload_n 0, 0, 0, 0, .null), (.iload_n 1, 0, 0, 0, .null), (.iload_n 2, 0, 0, 0, .null)] [] (WW' := [w_Ld G a0 s0]) (lv' := [some (.ref (a0 0)), some (.int x1), some (.int x2)]) (pc' := 3) (st' := [.int x2, .int x1, .ref (a0 0)]) (by decide +kernel) rfl rfl ⟨trivial, trivial, trivial, trivial⟩ ?_
    refine zr_callV (c_X3_milesBetween l G a0 s0 x1 x2 q1 e1) (WW' := fun _ => [w_Ld G a0 s0]) (st := []) (st' := [.int q1]) [0] rfl rfl (fun _ => Nat.le_of_ble_eq_true rfl) (fun _ => rfl) rfl rfl nm_X3_milesBetween zw_3_87 zw_3_88 zw_3_89 zw_1_7 zw_3_88n rfl rfl rfl (Nat.le_of_ble_eq_true rfl) ⟨Nat.le_of_ble_eq_true rfl, Nat.le_of_ble_eq_true rfl⟩ (by decide +kernel) (fun _ => ?_)
    refine zr_run [(.ldc 73, 0, 0, 0, .int (100000 : Int32))] [] (WW' := [w_Ld G a0 s0]) (lv' := [some (.ref (a0 0)), some (.int x1), some (.int x2)]) (pc' := 8) (st' := [.int (100000 : Int32), .int q1]) (by decide +kernel) rfl rfl ⟨zw_3_76n, trivial⟩ ?_
    refine zr_icmp_ge (off := 7) (tgt := 15) (by decide +kernel) (by decide) (fun hc => ?_) (fun hc => ?_)
    · have hf := zift hf hc
      refine zr_run [(.iconst 1, 0, 0, 0, .int (1 : Int32))] [] (WW' := [w_Ld G a0 s0]) (lv' := [some (.ref (a0 0)), some (.int x1), some (.int x2)]) (pc' := 12) (st' := [.int (1 : Int32)]) (by decide +kernel) rfl rfl ⟨trivial, trivial⟩ ?_
      refine zr_goto (off := 4) (tgt := 16) (by decide +kernel) (by decide) ?_
      obtain rfl := Option.some.inj hf
      exact zr_zret (by decide) (b0 := fun _ => 0) (by decide +kernel) rfl rfl rfl rfl rfl
    · have hf := ziff hf hc
      refine zr_run [(.iconst 0, 0, 0, 0, .int (0 : Int32))] [] (WW' := [w_Ld G a0 s0]) (lv' := [some (.ref (a0 0)), some (.int x1), some (.int x2)]) (pc' := 16) (st' := [.int (0 : Int32)]) (by decide +kernel) rfl rfl ⟨trivial, trivial⟩ ?_
      obtain rfl := Option.some.inj hf
      exact zr_zret (by decide) (b0 := fun _ => 0) (by decide +kernel) rfl rfl rfl rfl rfl
  exact zj_entry [some (.ref (a0 0)), some (.int x1), some (.int x2)] (by decide +kernel) rfl (by decide) (Nat.le_of_ble_eq_true rfl) rfl rfl (key _)
def M_X3_nextTo : zj_M := (RX3, cX3_nextTo, 4, (some .int), { frames := 0, cells := 0, slots := 0, locals := 0 }, false)
theorem nm_X3_nextTo : zj_nm yX3_nextTo 2 := ⟨by decide +kernel, by decide +kernel, by decide +kernel⟩
def f_X3_nextTo_b20  (s0 : LdT)   : Option (Int32) := some (-1 : Int32)
def f_X3_nextTo  (s0 : LdT) (x1 : Int32) (x2 : Int32) : Option (Int32) := (if ((x1 * (10 : Int32)) + x2) < 0 then f_X3_nextTo_b20 s0 else (if ((x1 * (10 : Int32)) + x2) < (nI 100) then (if zb_in ((x1 * (10 : Int32)) + x2) 100 = true then some ((Ld_nexts s0) ((x1 * (10 : Int32)) + x2).toNatClampNeg) else none) else f_X3_nextTo_b20 s0))
set_option maxRecDepth 100000 in
set_option maxHeartbeats 4000000 in
theorem t_X3_nextTo_b20 (l : Launch) (G : zj_G) (a0 : Nat → Nat) (W0 : List va_W) (r : Int32) (s0 : LdT)    (hf : f_X3_nextTo_b20 s0 = some r) : zj_J l G M_X3_nextTo W0 (zj_ret G M_X3_nextTo W0 (some (.int r)) (fun _ => [w_Ld G a0 s0])) 0 0 [w_Ld G a0 s0] [none, none, none, none] 20 [] := by
  unfold f_X3_nextTo_b20 at hf
  refine zr_run [(.iconst (-1), 0, 0, 0, .int (-1 : Int32))] [] (WW' := [w_Ld G a0 s0]) (lv' := [none, none, none, none]) (pc' := 21) (st' := [.int (-1 : Int32)]) (by decide +kernel) rfl rfl ⟨trivial, trivial⟩ ?_
  refine zr_goto (off := 9) (tgt := 30) (by decide +kernel) (by decide) ?_
  obtain rfl := Option.some.inj hf
  exact zr_iret (b0 := fun _ => 0) (by decide +kernel) rfl rfl rfl rfl rfl
set_option maxRecDepth 100000 in
set_option maxHeartbeats 4000000 in
theorem c_X3_nextTo (l : Launch) (G : zj_G) (a0 : Nat → Nat) (s0 : LdT) (x1 : Int32) (x2 : Int32) (r : Int32) (hf : f_X3_nextTo s0 x1 x2 = some r) : zj_C l G M_X3_nextTo yX3_nextTo [w_Ld G a0 s0] [.ref (a0 0), .int x1, .int x2] (some (.int r)) (fun _ => [w_Ld G a0 s0]) := by
  have key : ∀ W0 : List va_W, zj_J l G M_X3_nextTo W0 (zj_ret G M_X3_nextTo W0 (some (.int r)) (fun _ => [w_Ld G a0 s0])) 0 0 [w_Ld G a0 s0] [some (.ref (a0 0)), some (.int x1), some (.int x2), none] 0 [] := by
    intro W0
    unfold f_X3_nextTo at hf
    refine zr_run [(.iload_n 1, 0, 0, 0, .null), (.bipush 10, 0, 0, 0, .int (10 : Int32)), (.imul, 0, 0, 0, .null), (.iload_n 2, 0, 0, 0, .null), (.iadd, 0, 0, 0, .null), (.istore_n 3, 0, 0, 0, .null), (.iload_n 3, 0, 0, 0, .null)] [] (WW' := [w_Ld G a0 s0]) (lv' := [some (.ref (a0 0)), some (.int x1), some (.int x2), some (.int ((x1 * (10 : Int32)) + x2))]) (pc' := 8) (st' := [.int ((x1 * (10 : Int32)) + x2)]) (by decide +kernel) rfl rfl ⟨trivial, trivial, trivial, trivial, trivial, trivial, trivial, trivial⟩ ?_
    refine zr_if_lt (off := 12) (tgt := 20) (by decide +kernel) (by decide) (fun hc => ?_) (fun hc => ?_)
    · have hf := zift hf hc
      refine zr_run [] [0, 1, 2, 3] (WW' := [w_Ld G a0 s0]) (lv' := [none, none, none, none]) (pc' := 20) (st' := []) (by decide +kernel) rfl rfl trivial ?_
      exact t_X3_nextTo_b20 l G a0 W0 r s0 hf
    · have hf := ziff hf hc
      refine zr_run [(.iload_n 3, 0, 0, 0, .null), (.aload_n 0, 0, 0, 0, .null), (.getfield 50, 0, 0, 12, .null)] [] (WW' := [w_Ld G a0 s0]) (lv' := [some (.ref (a0 0)), some (.int x1), some (.int x2), some (.int ((x1 * (10 : Int32)) + x2))]) (pc' := 16) (st' := [.ref (a0 8), .int ((x1 * (10 : Int32)) + x2)]) (by decide +kernel) rfl rfl ⟨trivial, trivial, ⟨rfl, rfl, zw_1_176⟩, trivial⟩ ?_
      refine zr_alenI (b := 0) (c' := 8) rfl rfl rfl (by decide +kernel) ?_
      refine zr_icmp_lt (off := 7) (tgt := 24) (by decide +kernel) (by decide) (fun hc => ?_) (fun hc => ?_)
      · have hf := zift hf hc
        obtain ⟨h1, hf⟩ := zck_of hf
        refine zr_run [(.aload_n 0, 0, 0, 0, .null), (.getfield 50, 0, 0, 12, .null), (.iload_n 3, 0, 0, 0, .null), (.iaload, 0, 8, 0, .null)] [] (WW' := [w_Ld G a0 s0]) (lv' := [some (.ref (a0 0)), some (.int x1), some (.int x2), some (.int ((x1 * (10 : Int32)) + x2))]) (pc' := 30) (st' := [.int ((Ld_nexts s0) ((x1 * (10 : Int32)) + x2).toNatClampNeg)]) (by decide +kernel) rfl rfl ⟨trivial, ⟨rfl, rfl, zw_1_176⟩, trivial, ⟨rfl, rfl, h1⟩, trivial⟩ ?_
        obtain rfl := Option.some.inj hf
        exact zr_iret (b0 := fun _ => 0) (by decide +kernel) rfl rfl rfl rfl rfl
      · have hf := ziff hf hc
        refine zr_run [] [0, 1, 2, 3] (WW' := [w_Ld G a0 s0]) (lv' := [none, none, none, none]) (pc' := 20) (st' := []) (by decide +kernel) rfl rfl trivial ?_
        exact t_X3_nextTo_b20 l G a0 W0 r s0 hf
  exact zj_entry [some (.ref (a0 0)), some (.int x1), some (.int x2), none] (by decide +kernel) rfl (by decide) (Nat.le_of_ble_eq_true rfl) rfl rfl (key _)
def M_X3_roadToward : zj_M := (RX3, cX3_roadToward, 4, (some .int), { frames := 0, cells := 0, slots := 0, locals := 0 }, false)
theorem nm_X3_roadToward : zj_nm yX3_roadToward 2 := ⟨by decide +kernel, by decide +kernel, by decide +kernel⟩
def f_X3_roadToward_b20  (s0 : LdT)   : Option (Int32) := some (-1 : Int32)
def f_X3_roadToward  (s0 : LdT) (x1 : Int32) (x2 : Int32) : Option (Int32) := (if ((x1 * (10 : Int32)) + x2) < 0 then f_X3_roadToward_b20 s0 else (if ((x1 * (10 : Int32)) + x2) < (nI 100) then (if zb_in ((x1 * (10 : Int32)) + x2) 100 = true then some ((Ld_towards s0) ((x1 * (10 : Int32)) + x2).toNatClampNeg) else none) else f_X3_roadToward_b20 s0))
set_option maxRecDepth 100000 in
set_option maxHeartbeats 4000000 in
theorem t_X3_roadToward_b20 (l : Launch) (G : zj_G) (a0 : Nat → Nat) (W0 : List va_W) (r : Int32) (s0 : LdT)    (hf : f_X3_roadToward_b20 s0 = some r) : zj_J l G M_X3_roadToward W0 (zj_ret G M_X3_roadToward W0 (some (.int r)) (fun _ => [w_Ld G a0 s0])) 0 0 [w_Ld G a0 s0] [none, none, none, none] 20 [] := by
  unfold f_X3_roadToward_b20 at hf
  refine zr_run [(.iconst (-1), 0, 0, 0, .int (-1 : Int32))] [] (WW' := [w_Ld G a0 s0]) (lv' := [none, none, none, none]) (pc' := 21) (st' := [.int (-1 : Int32)]) (by decide +kernel) rfl rfl ⟨trivial, trivial⟩ ?_
  refine zr_goto (off := 9) (tgt := 30) (by decide +kernel) (by decide) ?_
  obtain rfl := Option.some.inj hf
  exact zr_iret (b0 := fun _ => 0) (by decide +kernel) rfl rfl rfl rfl rfl
set_option maxRecDepth 100000 in
set_option maxHeartbeats 4000000 in
theorem c_X3_roadToward (l : Launch) (G : zj_G) (a0 : Nat → Nat) (s0 : LdT) (x1 : Int32) (x2 : Int32) (r : Int32) (hf : f_X3_roadToward s0 x1 x2 = some r) : zj_C l G M_X3_roadToward yX3_roadToward [w_Ld G a0 s0] [.ref (a0 0), .int x1, .int x2] (some (.int r)) (fun _ => [w_Ld G a0 s0]) := by
  have key : ∀ W0 : List va_W, zj_J l G M_X3_roadToward W0 (zj_ret G M_X3_roadToward W0 (some (.int r)) (fun _ => [w_Ld G a0 s0])) 0 0 [w_Ld G a0 s0] [some (.ref (a0 0)), some (.int x1), some (.int x2), none] 0 [] := by
    intro W0
    unfold f_X3_roadToward at hf
    refine zr_run [(.iload_n 1, 0, 0, 0, .null), (.bipush 10, 0, 0, 0, .int (10 : Int32)), (.imul, 0, 0, 0, .null), (.iload_n 2, 0, 0, 0, .null), (.iadd, 0, 0, 0, .null), (.istore_n 3, 0, 0, 0, .null), (.iload_n 3, 0, 0, 0, .null)] [] (WW' := [w_Ld G a0 s0]) (lv' := [some (.ref (a0 0)), some (.int x1), some (.int x2), some (.int ((x1 * (10 : Int32)) + x2))]) (pc' := 8) (st' := [.int ((x1 * (10 : Int32)) + x2)]) (by decide +kernel) rfl rfl ⟨trivial, trivial, trivial, trivial, trivial, trivial, trivial, trivial⟩ ?_
    refine zr_if_lt (off := 12) (tgt := 20) (by decide +kernel) (by decide) (fun hc => ?_) (fun hc => ?_)
    · have hf := zift hf hc
      refine zr_run [] [0, 1, 2, 3] (WW' := [w_Ld G a0 s0]) (lv' := [none, none, none, none]) (pc' := 20) (st' := []) (by decide +kernel) rfl rfl trivial ?_
      exact t_X3_roadToward_b20 l G a0 W0 r s0 hf
    · have hf := ziff hf hc
      refine zr_run [(.iload_n 3, 0, 0, 0, .null), (.aload_n 0, 0, 0, 0, .null), (.getfield 53, 0, 0, 13, .null)] [] (WW' := [w_Ld G a0 s0]) (lv' := [some (.ref (a0 0)), some (.int x1), some (.int x2), some (.int ((x1 * (10 : Int32)) + x2))]) (pc' := 16) (st' := [.ref (a0 9), .int ((x1 * (10 : Int32)) + x2)]) (by decide +kernel) rfl rfl ⟨trivial, trivial, ⟨rfl, rfl, zw_1_177⟩, trivial⟩ ?_
      refine zr_alenI (b := 0) (c' := 9) rfl rfl rfl (by decide +kernel) ?_
      refine zr_icmp_lt (off := 7) (tgt := 24) (by decide +kernel) (by decide) (fun hc => ?_) (fun hc => ?_)
      · have hf := zift hf hc
        obtain ⟨h1, hf⟩ := zck_of hf
        refine zr_run [(.aload_n 0, 0, 0, 0, .null), (.getfield 53, 0, 0, 13, .null), (.iload_n 3, 0, 0, 0, .null), (.iaload, 0, 9, 0, .null)] [] (WW' := [w_Ld G a0 s0]) (lv' := [some (.ref (a0 0)), some (.int x1), some (.int x2), some (.int ((x1 * (10 : Int32)) + x2))]) (pc' := 30) (st' := [.int ((Ld_towards s0) ((x1 * (10 : Int32)) + x2).toNatClampNeg)]) (by decide +kernel) rfl rfl ⟨trivial, ⟨rfl, rfl, zw_1_177⟩, trivial, ⟨rfl, rfl, h1⟩, trivial⟩ ?_
        obtain rfl := Option.some.inj hf
        exact zr_iret (b0 := fun _ => 0) (by decide +kernel) rfl rfl rfl rfl rfl
      · have hf := ziff hf hc
        refine zr_run [] [0, 1, 2, 3] (WW' := [w_Ld G a0 s0]) (lv' := [none, none, none, none]) (pc' := 20) (st' := []) (by decide +kernel) rfl rfl trivial ?_
        exact t_X3_roadToward_b20 l G a0 W0 r s0 hf
  exact zj_entry [some (.ref (a0 0)), some (.int x1), some (.int x2), none] (by decide +kernel) rfl (by decide) (Nat.le_of_ble_eq_true rfl) rfl rfl (key _)
def M_X3_nameOfPlace : zj_M := (RX3, cX3_nameOfPlace, 2, (some .long), { frames := 0, cells := 0, slots := 0, locals := 0 }, false)
theorem nm_X3_nameOfPlace : zj_nm yX3_nameOfPlace 1 := ⟨by decide +kernel, by decide +kernel, by decide +kernel⟩
def f_X3_nameOfPlace_b13  (s0 : LdT)   : Option (Int64) := some (0 : Int64)
def f_X3_nameOfPlace  (s0 : LdT) (x1 : Int32) : Option (Int64) := (if x1 < 0 then f_X3_nameOfPlace_b13 s0 else (if x1 < (nI 10) then (if zb_in x1 10 = true then some ((Ld_placeNames s0) x1.toNatClampNeg) else none) else f_X3_nameOfPlace_b13 s0))
set_option maxRecDepth 100000 in
set_option maxHeartbeats 4000000 in
theorem t_X3_nameOfPlace_b13 (l : Launch) (G : zj_G) (a0 : Nat → Nat) (W0 : List va_W) (r : Int64) (s0 : LdT)    (hf : f_X3_nameOfPlace_b13 s0 = some r) : zj_J l G M_X3_nameOfPlace W0 (zj_ret G M_X3_nameOfPlace W0 (some (.long r)) (fun _ => [w_Ld G a0 s0])) 0 0 [w_Ld G a0 s0] [none, none] 13 [] := by
  unfold f_X3_nameOfPlace_b13 at hf
  refine zr_run [(.lconst 0, 0, 0, 0, .long (0 : Int64))] [] (WW' := [w_Ld G a0 s0]) (lv' := [none, none]) (pc' := 14) (st' := [.long (0 : Int64)]) (by decide +kernel) rfl rfl ⟨trivial, trivial⟩ ?_
  refine zr_goto (off := 9) (tgt := 23) (by decide +kernel) (by decide) ?_
  obtain rfl := Option.some.inj hf
  exact zr_lret (b0 := fun _ => 0) (by decide +kernel) rfl rfl rfl rfl rfl
set_option maxRecDepth 100000 in
set_option maxHeartbeats 4000000 in
theorem c_X3_nameOfPlace (l : Launch) (G : zj_G) (a0 : Nat → Nat) (s0 : LdT) (x1 : Int32) (r : Int64) (hf : f_X3_nameOfPlace s0 x1 = some r) : zj_C l G M_X3_nameOfPlace yX3_nameOfPlace [w_Ld G a0 s0] [.ref (a0 0), .int x1] (some (.long r)) (fun _ => [w_Ld G a0 s0]) := by
  have key : ∀ W0 : List va_W, zj_J l G M_X3_nameOfPlace W0 (zj_ret G M_X3_nameOfPlace W0 (some (.long r)) (fun _ => [w_Ld G a0 s0])) 0 0 [w_Ld G a0 s0] [some (.ref (a0 0)), some (.int x1)] 0 [] := by
    intro W0
    unfold f_X3_nameOfPlace at hf
    refine zr_run [(.iload_n 1, 0, 0, 0, .null)] [] (WW' := [w_Ld G a0 s0]) (lv' := [some (.ref (a0 0)), some (.int x1)]) (pc' := 1) (st' := [.int x1]) (by decide +kernel) rfl rfl ⟨trivial, trivial⟩ ?_
    refine zr_if_lt (off := 12) (tgt := 13) (by decide +kernel) (by decide) (fun hc => ?_) (fun hc => ?_)
    · have hf := zift hf hc
      refine zr_run [] [0, 1] (WW' := [w_Ld G a0 s0]) (lv' := [none, none]) (pc' := 13) (st' := []) (by decide +kernel) rfl rfl trivial ?_
      exact t_X3_nameOfPlace_b13 l G a0 W0 r s0 hf
    · have hf := ziff hf hc
      refine zr_run [(.iload_n 1, 0, 0, 0, .null), (.aload_n 0, 0, 0, 0, .null), (.getfield 27, 0, 0, 5, .null)] [] (WW' := [w_Ld G a0 s0]) (lv' := [some (.ref (a0 0)), some (.int x1)]) (pc' := 9) (st' := [.ref (a0 1), .int x1]) (by decide +kernel) rfl rfl ⟨trivial, trivial, ⟨rfl, rfl, zw_1_167⟩, trivial⟩ ?_
      refine zr_alenJ (b := 0) (c' := 1) rfl rfl rfl (by decide +kernel) ?_
      refine zr_icmp_lt (off := 7) (tgt := 17) (by decide +kernel) (by decide) (fun hc => ?_) (fun hc => ?_)
      · have hf := zift hf hc
        obtain ⟨h1, hf⟩ := zck_of hf
        refine zr_run [(.aload_n 0, 0, 0, 0, .null), (.getfield 27, 0, 0, 5, .null), (.iload_n 1, 0, 0, 0, .null), (.laload, 0, 1, 0, .null)] [] (WW' := [w_Ld G a0 s0]) (lv' := [some (.ref (a0 0)), some (.int x1)]) (pc' := 23) (st' := [.long ((Ld_placeNames s0) x1.toNatClampNeg)]) (by decide +kernel) rfl rfl ⟨trivial, ⟨rfl, rfl, zw_1_167⟩, trivial, ⟨rfl, rfl, h1⟩, trivial⟩ ?_
        obtain rfl := Option.some.inj hf
        exact zr_lret (b0 := fun _ => 0) (by decide +kernel) rfl rfl rfl rfl rfl
      · have hf := ziff hf hc
        refine zr_run [] [0, 1] (WW' := [w_Ld G a0 s0]) (lv' := [none, none]) (pc' := 13) (st' := []) (by decide +kernel) rfl rfl trivial ?_
        exact t_X3_nameOfPlace_b13 l G a0 W0 r s0 hf
  exact zj_entry [some (.ref (a0 0)), some (.int x1)] (by decide +kernel) rfl (by decide) (Nat.le_of_ble_eq_true rfl) rfl rfl (key _)
def M_X3_nameOfMan : zj_M := (RX3, cX3_nameOfMan, 2, (some .long), { frames := 0, cells := 0, slots := 0, locals := 0 }, false)
theorem nm_X3_nameOfMan : zj_nm yX3_nameOfMan 1 := ⟨by decide +kernel, by decide +kernel, by decide +kernel⟩
def f_X3_nameOfMan_b13  (s0 : LdT)   : Option (Int64) := some (0 : Int64)
def f_X3_nameOfMan  (s0 : LdT) (x1 : Int32) : Option (Int64) := (if x1 < 0 then f_X3_nameOfMan_b13 s0 else (if x1 < (nI 6) then (if zb_in x1 6 = true then some ((Ld_manNames s0) x1.toNatClampNeg) else none) else f_X3_nameOfMan_b13 s0))
set_option maxRecDepth 100000 in
set_option maxHeartbeats 4000000 in
theorem t_X3_nameOfMan_b13 (l : Launch) (G : zj_G) (a0 : Nat → Nat) (W0 : List va_W) (r : Int64) (s0 : LdT)    (hf : f_X3_nameOfMan_b13 s0 = some r) : zj_J l G M_X3_nameOfMan W0 (zj_ret G M_X3_nameOfMan W0 (some (.long r)) (fun _ => [w_Ld G a0 s0])) 0 0 [w_Ld G a0 s0] [none, none] 13 [] := by
  unfold f_X3_nameOfMan_b13 at hf
  refine zr_run [(.lconst 0, 0, 0, 0, .long (0 : Int64))] [] (WW' := [w_Ld G a0 s0]) (lv' := [none, none]) (pc' := 14) (st' := [.long (0 : Int64)]) (by decide +kernel) rfl rfl ⟨trivial, trivial⟩ ?_
  refine zr_goto (off := 9) (tgt := 23) (by decide +kernel) (by decide) ?_
  obtain rfl := Option.some.inj hf
  exact zr_lret (b0 := fun _ => 0) (by decide +kernel) rfl rfl rfl rfl rfl
set_option maxRecDepth 100000 in
set_option maxHeartbeats 4000000 in
theorem c_X3_nameOfMan (l : Launch) (G : zj_G) (a0 : Nat → Nat) (s0 : LdT) (x1 : Int32) (r : Int64) (hf : f_X3_nameOfMan s0 x1 = some r) : zj_C l G M_X3_nameOfMan yX3_nameOfMan [w_Ld G a0 s0] [.ref (a0 0), .int x1] (some (.long r)) (fun _ => [w_Ld G a0 s0]) := by
  have key : ∀ W0 : List va_W, zj_J l G M_X3_nameOfMan W0 (zj_ret G M_X3_nameOfMan W0 (some (.long r)) (fun _ => [w_Ld G a0 s0])) 0 0 [w_Ld G a0 s0] [some (.ref (a0 0)), some (.int x1)] 0 [] := by
    intro W0
    unfold f_X3_nameOfMan at hf
    refine zr_run [(.iload_n 1, 0, 0, 0, .null)] [] (WW' := [w_Ld G a0 s0]) (lv' := [some (.ref (a0 0)), some (.int x1)]) (pc' := 1) (st' := [.int x1]) (by decide +kernel) rfl rfl ⟨trivial, trivial⟩ ?_
    refine zr_if_lt (off := 12) (tgt := 13) (by decide +kernel) (by decide) (fun hc => ?_) (fun hc => ?_)
    · have hf := zift hf hc
      refine zr_run [] [0, 1] (WW' := [w_Ld G a0 s0]) (lv' := [none, none]) (pc' := 13) (st' := []) (by decide +kernel) rfl rfl trivial ?_
      exact t_X3_nameOfMan_b13 l G a0 W0 r s0 hf
    · have hf := ziff hf hc
      refine zr_run [(.iload_n 1, 0, 0, 0, .null), (.aload_n 0, 0, 0, 0, .null), (.getfield 31, 0, 0, 6, .null)] [] (WW' := [w_Ld G a0 s0]) (lv' := [some (.ref (a0 0)), some (.int x1)]) (pc' := 9) (st' := [.ref (a0 2), .int x1]) (by decide +kernel) rfl rfl ⟨trivial, trivial, ⟨rfl, rfl, zw_1_169⟩, trivial⟩ ?_
      refine zr_alenJ (b := 0) (c' := 2) rfl rfl rfl (by decide +kernel) ?_
      refine zr_icmp_lt (off := 7) (tgt := 17) (by decide +kernel) (by decide) (fun hc => ?_) (fun hc => ?_)
      · have hf := zift hf hc
        obtain ⟨h1, hf⟩ := zck_of hf
        refine zr_run [(.aload_n 0, 0, 0, 0, .null), (.getfield 31, 0, 0, 6, .null), (.iload_n 1, 0, 0, 0, .null), (.laload, 0, 2, 0, .null)] [] (WW' := [w_Ld G a0 s0]) (lv' := [some (.ref (a0 0)), some (.int x1)]) (pc' := 23) (st' := [.long ((Ld_manNames s0) x1.toNatClampNeg)]) (by decide +kernel) rfl rfl ⟨trivial, ⟨rfl, rfl, zw_1_169⟩, trivial, ⟨rfl, rfl, h1⟩, trivial⟩ ?_
        obtain rfl := Option.some.inj hf
        exact zr_lret (b0 := fun _ => 0) (by decide +kernel) rfl rfl rfl rfl rfl
      · have hf := ziff hf hc
        refine zr_run [] [0, 1] (WW' := [w_Ld G a0 s0]) (lv' := [none, none]) (pc' := 13) (st' := []) (by decide +kernel) rfl rfl trivial ?_
        exact t_X3_nameOfMan_b13 l G a0 W0 r s0 hf
  exact zj_entry [some (.ref (a0 0)), some (.int x1)] (by decide +kernel) rfl (by decide) (Nat.le_of_ble_eq_true rfl) rfl rfl (key _)
def M_X3_placeNamed : zj_M := (RX3, cX3_placeNamed, 4, (some .int), { frames := 0, cells := 0, slots := 0, locals := 0 }, false)
theorem nm_X3_placeNamed : zj_nm yX3_placeNamed 1 := ⟨by decide +kernel, by decide +kernel, by decide +kernel⟩
def f_X3_placeNamed_H2  (s0 : LdT) (k2 : Int64 → Int32 → Option (Int32)) (x1 : Int64) (x3 : Int32) : Option (Int32) := (if x3 < (Ld_places s0) then (if zb_in x3 10 = true then (if (lg_cmp ((Ld_placeNames s0) x3.toNatClampNeg) x1) = 0 then some x3 else k2 x1 (x3 + (1 : Int32))) else none) else some (-1 : Int32))
def f_X3_placeNamed_L2  (s0 : LdT)  : Nat → Int64 → Int32 → Option (Int32)
  | 0 => fun _ _ => none
  | n + 1 => fun x1 x3 => f_X3_placeNamed_H2 s0 (f_X3_placeNamed_L2 s0 n) x1 x3
def f_X3_placeNamed  (s0 : LdT) (x1 : Int64) : Option (Int32) := f_X3_placeNamed_L2 s0 zFU x1 (0 : Int32)
set_option maxRecDepth 100000 in
set_option maxHeartbeats 4000000 in
theorem t_X3_placeNamed_H2 (l : Launch) (G : zj_G) (a0 : Nat → Nat) (W0 : List va_W) (r : Int32) (s0 : LdT) (k2 : Int64 → Int32 → Option (Int32)) (hk2 : ∀ (x1 : Int64) (x3 : Int32), k2 x1 x3 = some r → zj_J l G M_X3_placeNamed W0 (zj_ret G M_X3_placeNamed W0 (some (.int r)) (fun _ => [w_Ld G a0 s0])) 0 0 [w_Ld G a0 s0] [some (.ref (a0 0)), some (.long x1), none, some (.int x3)] 2 []) (x1 : Int64) (x3 : Int32) (hf : f_X3_placeNamed_H2 s0 k2 x1 x3 = some r) : zj_J l G M_X3_placeNamed W0 (zj_ret G M_X3_placeNamed W0 (some (.int r)) (fun _ => [w_Ld G a0 s0])) 0 0 [w_Ld G a0 s0] [some (.ref (a0 0)), some (.long x1), none, some (.int x3)] 2 [] := by
  unfold f_X3_placeNamed_H2 at hf
  refine zr_run [(.iload_n 3, 0, 0, 0, .null), (.aload_n 0, 0, 0, 0, .null), (.getfield 9, 0, 0, 0, .null)] [] (WW' := [w_Ld G a0 s0]) (lv' := [some (.ref (a0 0)), some (.long x1), none, some (.int x3)]) (pc' := 7) (st' := [.int (Ld_places s0), .int x3]) (by decide +kernel) rfl rfl ⟨trivial, trivial, ⟨rfl, rfl, zw_1_152⟩, trivial⟩ ?_
  refine zr_icmp_ge (off := 22) (tgt := 29) (by decide +kernel) (by decide) (fun hc => ?_) (fun hc => ?_)
  · have hf := zift hf hc
    obtain ⟨h1, hf⟩ := zck_of hf
    refine zr_run [(.aload_n 0, 0, 0, 0, .null), (.getfield 27, 0, 0, 5, .null), (.iload_n 3, 0, 0, 0, .null), (.laload, 0, 1, 0, .null), (.lload_n 1, 0, 0, 0, .null), (.lcmp, 0, 0, 0, .null)] [] (WW' := [w_Ld G a0 s0]) (lv' := [some (.ref (a0 0)), some (.long x1), none, some (.int x3)]) (pc' := 18) (st' := [.int (lg_cmp ((Ld_placeNames s0) x3.toNatClampNeg) x1)]) (by decide +kernel) rfl rfl ⟨trivial, ⟨rfl, rfl, zw_1_167⟩, trivial, ⟨rfl, rfl, h1⟩, trivial, trivial, trivial⟩ ?_
    refine zr_if_ne (off := 5) (tgt := 23) (by decide +kernel) (by decide) (fun hc => ?_) (fun hc => ?_)
    · have hf := zift hf hc
      refine zr_run [(.iload_n 3, 0, 0, 0, .null)] [] (WW' := [w_Ld G a0 s0]) (lv' := [some (.ref (a0 0)), some (.long x1), none, some (.int x3)]) (pc' := 22) (st' := [.int x3]) (by decide +kernel) rfl rfl ⟨trivial, trivial⟩ ?_
      obtain rfl := Option.some.inj hf
      exact zr_iret (b0 := fun _ => 0) (by decide +kernel) rfl rfl rfl rfl rfl
    · have hf := ziff hf hc
      refine zr_run [(.iinc 3 1, 0, 0, 0, .int (1 : Int32))] [] (WW' := [w_Ld G a0 s0]) (lv' := [some (.ref (a0 0)), some (.long x1), none, some (.int (x3 + (1 : Int32)))]) (pc' := 26) (st' := []) (by decide +kernel) rfl rfl ⟨trivial, trivial⟩ ?_
      refine zr_goto (off := -24) (tgt := 2) (by decide +kernel) (by decide) ?_
      exact hk2 x1 (x3 + (1 : Int32)) hf
  · have hf := ziff hf hc
    refine zr_run [(.iconst (-1), 0, 0, 0, .int (-1 : Int32))] [] (WW' := [w_Ld G a0 s0]) (lv' := [some (.ref (a0 0)), some (.long x1), none, some (.int x3)]) (pc' := 30) (st' := [.int (-1 : Int32)]) (by decide +kernel) rfl rfl ⟨trivial, trivial⟩ ?_
    obtain rfl := Option.some.inj hf
    exact zr_iret (b0 := fun _ => 0) (by decide +kernel) rfl rfl rfl rfl rfl
theorem t_X3_placeNamed_L2 (l : Launch) (G : zj_G) (a0 : Nat → Nat) (W0 : List va_W) (r : Int32) (s0 : LdT)   : ∀ (n : Nat) (x1 : Int64) (x3 : Int32), f_X3_placeNamed_L2 s0 n x1 x3 = some r → zj_J l G M_X3_placeNamed W0 (zj_ret G M_X3_placeNamed W0 (some (.int r)) (fun _ => [w_Ld G a0 s0])) 0 0 [w_Ld G a0 s0] [some (.ref (a0 0)), some (.long x1), none, some (.int x3)] 2 [] := by
  intro n
  induction n with
  | zero => intro x1 x3 hf; exact nomatch (show none = some r from hf)
  | succ n ih => intro x1 x3 hf; exact t_X3_placeNamed_H2 l G a0 W0 r s0  (f_X3_placeNamed_L2 s0 n)  ih x1 x3  hf
set_option maxRecDepth 100000 in
set_option maxHeartbeats 4000000 in
theorem c_X3_placeNamed (l : Launch) (G : zj_G) (a0 : Nat → Nat) (s0 : LdT) (x1 : Int64) (r : Int32) (hf : f_X3_placeNamed s0 x1 = some r) : zj_C l G M_X3_placeNamed yX3_placeNamed [w_Ld G a0 s0] [.ref (a0 0), .long x1] (some (.int r)) (fun _ => [w_Ld G a0 s0]) := by
  have key : ∀ W0 : List va_W, zj_J l G M_X3_placeNamed W0 (zj_ret G M_X3_placeNamed W0 (some (.int r)) (fun _ => [w_Ld G a0 s0])) 0 0 [w_Ld G a0 s0] [some (.ref (a0 0)), some (.long x1), none, none] 0 [] := by
    intro W0
    unfold f_X3_placeNamed at hf
    refine zr_run [(.iconst 0, 0, 0, 0, .int (0 : Int32)), (.istore_n 3, 0, 0, 0, .null)] [] (WW' := [w_Ld G a0 s0]) (lv' := [some (.ref (a0 0)), some (.long x1), none, some (.int (0 : Int32))]) (pc' := 2) (st' := []) (by decide +kernel) rfl rfl ⟨trivial, trivial, trivial⟩ ?_
    exact t_X3_placeNamed_L2 l G a0 W0 r s0 zFU x1 (0 : Int32) hf
  exact zj_entry [some (.ref (a0 0)), some (.long x1), none, none] (by decide +kernel) rfl (by decide) (Nat.le_of_ble_eq_true rfl) rfl rfl (key _)
def M_X3_manNamed : zj_M := (RX3, cX3_manNamed, 4, (some .int), { frames := 0, cells := 0, slots := 0, locals := 0 }, false)
theorem nm_X3_manNamed : zj_nm yX3_manNamed 1 := ⟨by decide +kernel, by decide +kernel, by decide +kernel⟩
def f_X3_manNamed_H2  (s0 : LdT) (k2 : Int64 → Int32 → Option (Int32)) (x1 : Int64) (x3 : Int32) : Option (Int32) := (if x3 < (Ld_men s0) then (if zb_in x3 6 = true then (if (lg_cmp ((Ld_manNames s0) x3.toNatClampNeg) x1) = 0 then some x3 else k2 x1 (x3 + (1 : Int32))) else none) else some (-1 : Int32))
def f_X3_manNamed_L2  (s0 : LdT)  : Nat → Int64 → Int32 → Option (Int32)
  | 0 => fun _ _ => none
  | n + 1 => fun x1 x3 => f_X3_manNamed_H2 s0 (f_X3_manNamed_L2 s0 n) x1 x3
def f_X3_manNamed  (s0 : LdT) (x1 : Int64) : Option (Int32) := f_X3_manNamed_L2 s0 zFU x1 (0 : Int32)
set_option maxRecDepth 100000 in
set_option maxHeartbeats 4000000 in
theorem t_X3_manNamed_H2 (l : Launch) (G : zj_G) (a0 : Nat → Nat) (W0 : List va_W) (r : Int32) (s0 : LdT) (k2 : Int64 → Int32 → Option (Int32)) (hk2 : ∀ (x1 : Int64) (x3 : Int32), k2 x1 x3 = some r → zj_J l G M_X3_manNamed W0 (zj_ret G M_X3_manNamed W0 (some (.int r)) (fun _ => [w_Ld G a0 s0])) 0 0 [w_Ld G a0 s0] [some (.ref (a0 0)), some (.long x1), none, some (.int x3)] 2 []) (x1 : Int64) (x3 : Int32) (hf : f_X3_manNamed_H2 s0 k2 x1 x3 = some r) : zj_J l G M_X3_manNamed W0 (zj_ret G M_X3_manNamed W0 (some (.int r)) (fun _ => [w_Ld G a0 s0])) 0 0 [w_Ld G a0 s0] [some (.ref (a0 0)), some (.long x1), none, some (.int x3)] 2 [] := by
  unfold f_X3_manNamed_H2 at hf
  refine zr_run [(.iload_n 3, 0, 0, 0, .null), (.aload_n 0, 0, 0, 0, .null), (.getfield 18, 0, 0, 2, .null)] [] (WW' := [w_Ld G a0 s0]) (lv' := [some (.ref (a0 0)), some (.long x1), none, some (.int x3)]) (pc' := 7) (st' := [.int (Ld_men s0), .int x3]) (by decide +kernel) rfl rfl ⟨trivial, trivial, ⟨rfl, rfl, zw_1_158⟩, trivial⟩ ?_
  refine zr_icmp_ge (off := 22) (tgt := 29) (by decide +kernel) (by decide) (fun hc => ?_) (fun hc => ?_)
  · have hf := zift hf hc
    obtain ⟨h1, hf⟩ := zck_of hf
    refine zr_run [(.aload_n 0, 0, 0, 0, .null), (.getfield 31, 0, 0, 6, .null), (.iload_n 3, 0, 0, 0, .null), (.laload, 0, 2, 0, .null), (.lload_n 1, 0, 0, 0, .null), (.lcmp, 0, 0, 0, .null)] [] (WW' := [w_Ld G a0 s0]) (lv' := [some (.ref (a0 0)), some (.long x1), none, some (.int x3)]) (pc' := 18) (st' := [.int (lg_cmp ((Ld_manNames s0) x3.toNatClampNeg) x1)]) (by decide +kernel) rfl rfl ⟨trivial, ⟨rfl, rfl, zw_1_169⟩, trivial, ⟨rfl, rfl, h1⟩, trivial, trivial, trivial⟩ ?_
    refine zr_if_ne (off := 5) (tgt := 23) (by decide +kernel) (by decide) (fun hc => ?_) (fun hc => ?_)
    · have hf := zift hf hc
      refine zr_run [(.iload_n 3, 0, 0, 0, .null)] [] (WW' := [w_Ld G a0 s0]) (lv' := [some (.ref (a0 0)), some (.long x1), none, some (.int x3)]) (pc' := 22) (st' := [.int x3]) (by decide +kernel) rfl rfl ⟨trivial, trivial⟩ ?_
      obtain rfl := Option.some.inj hf
      exact zr_iret (b0 := fun _ => 0) (by decide +kernel) rfl rfl rfl rfl rfl
    · have hf := ziff hf hc
      refine zr_run [(.iinc 3 1, 0, 0, 0, .int (1 : Int32))] [] (WW' := [w_Ld G a0 s0]) (lv' := [some (.ref (a0 0)), some (.long x1), none, some (.int (x3 + (1 : Int32)))]) (pc' := 26) (st' := []) (by decide +kernel) rfl rfl ⟨trivial, trivial⟩ ?_
      refine zr_goto (off := -24) (tgt := 2) (by decide +kernel) (by decide) ?_
      exact hk2 x1 (x3 + (1 : Int32)) hf
  · have hf := ziff hf hc
    refine zr_run [(.iconst (-1), 0, 0, 0, .int (-1 : Int32))] [] (WW' := [w_Ld G a0 s0]) (lv' := [some (.ref (a0 0)), some (.long x1), none, some (.int x3)]) (pc' := 30) (st' := [.int (-1 : Int32)]) (by decide +kernel) rfl rfl ⟨trivial, trivial⟩ ?_
    obtain rfl := Option.some.inj hf
    exact zr_iret (b0 := fun _ => 0) (by decide +kernel) rfl rfl rfl rfl rfl
theorem t_X3_manNamed_L2 (l : Launch) (G : zj_G) (a0 : Nat → Nat) (W0 : List va_W) (r : Int32) (s0 : LdT)   : ∀ (n : Nat) (x1 : Int64) (x3 : Int32), f_X3_manNamed_L2 s0 n x1 x3 = some r → zj_J l G M_X3_manNamed W0 (zj_ret G M_X3_manNamed W0 (some (.int r)) (fun _ => [w_Ld G a0 s0])) 0 0 [w_Ld G a0 s0] [some (.ref (a0 0)), some (.long x1), none, some (.int x3)] 2 [] := by
  intro n
  induction n with
  | zero => intro x1 x3 hf; exact nomatch (show none = some r from hf)
  | succ n ih => intro x1 x3 hf; exact t_X3_manNamed_H2 l G a0 W0 r s0  (f_X3_manNamed_L2 s0 n)  ih x1 x3  hf
set_option maxRecDepth 100000 in
set_option maxHeartbeats 4000000 in
theorem c_X3_manNamed (l : Launch) (G : zj_G) (a0 : Nat → Nat) (s0 : LdT) (x1 : Int64) (r : Int32) (hf : f_X3_manNamed s0 x1 = some r) : zj_C l G M_X3_manNamed yX3_manNamed [w_Ld G a0 s0] [.ref (a0 0), .long x1] (some (.int r)) (fun _ => [w_Ld G a0 s0]) := by
  have key : ∀ W0 : List va_W, zj_J l G M_X3_manNamed W0 (zj_ret G M_X3_manNamed W0 (some (.int r)) (fun _ => [w_Ld G a0 s0])) 0 0 [w_Ld G a0 s0] [some (.ref (a0 0)), some (.long x1), none, none] 0 [] := by
    intro W0
    unfold f_X3_manNamed at hf
    refine zr_run [(.iconst 0, 0, 0, 0, .int (0 : Int32)), (.istore_n 3, 0, 0, 0, .null)] [] (WW' := [w_Ld G a0 s0]) (lv' := [some (.ref (a0 0)), some (.long x1), none, some (.int (0 : Int32))]) (pc' := 2) (st' := []) (by decide +kernel) rfl rfl ⟨trivial, trivial, trivial⟩ ?_
    exact t_X3_manNamed_L2 l G a0 W0 r s0 zFU x1 (0 : Int32) hf
  exact zj_entry [some (.ref (a0 0)), some (.long x1), none, none] (by decide +kernel) rfl (by decide) (Nat.le_of_ble_eq_true rfl) rfl rfl (key _)
