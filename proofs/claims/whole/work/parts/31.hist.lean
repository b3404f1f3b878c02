abbrev H8T : Type := Nat → FkT
def w_H8 (G : zj_G) (B : Nat → Nat → Nat) (h : H8T) : va_W := w_Fk G (B 0) (h 0) ++ (w_Fk G (B 1) (h 1) ++ (w_Fk G (B 2) (h 2) ++ (w_Fk G (B 3) (h 3) ++ (w_Fk G (B 4) (h 4) ++ (w_Fk G (B 5) (h 5) ++ (w_Fk G (B 6) (h 6) ++ (w_Fk G (B 7) (h 7))))))))
section
variable {l : Launch} {G : zj_G} {M : zj_M} {W0 : List va_W} {Φ : zj_F} {k n : Nat} {WW : List va_W} {lv : List (Option Value)} {pc : Nat} {st : List Value}
theorem zr_aaldF {b c' a a' N : Nat} {v : Value} {i : Int32} {cA : ClassId} {f : Nat → Option Nat} (hc : zj_c WW b c' = some (a', .inl (cA, N, .inr (.inr (.inr (.inr f)))))) (ha : a = a') (hA : cA = G.2.1 4) (hi : zb_in i N = true) (hv : va_rf (f i.toNatClampNeg) = v) (hd : decode M.2.1 pc = .ok (.aaload, 1)) (kk : zj_J l G M W0 Φ k n WW lv (pc + 1) (v :: st)) : zj_J l G M W0 Φ k n WW lv pc (.int i :: .ref a :: st) := by
  intro p e s m args below meth c H locs ls C hP hD hS hl
  subst ha; subst hv
  exact va_aldq (C := "RoadToPort$Folk") C.1 C.2.1 C.2.2.2.2.2.2.1.K hP (zj_off WW b + c') 4 (zj_flat_at WW b c' hc) (by rw [hA]; rfl) (zb_in_of hi) hd (kk p e s m args below meth c H locs ls C hP hD hS hl)
theorem zr_aaldL {b c' a a' N : Nat} {v : Value} {i : Int32} {cA : ClassId} {f : Nat → Option Nat} (hc : zj_c WW b c' = some (a', .inl (cA, N, .inr (.inr (.inr (.inr f)))))) (ha : a = a') (hA : cA = G.2.1 5) (hi : zb_in i N = true) (hv : va_rf (f i.toNatClampNeg) = v) (hd : decode M.2.1 pc = .ok (.aaload, 1)) (kk : zj_J l G M W0 Φ k n WW lv (pc + 1) (v :: st)) : zj_J l G M W0 Φ k n WW lv pc (.int i :: .ref a :: st) := by
  intro p e s m args below meth c H locs ls C hP hD hS hl
  subst ha; subst hv
  exact va_aldq (C := "RoadToPort$Land") C.1 C.2.1 C.2.2.2.2.2.2.1.K hP (zj_off WW b + c') 5 (zj_flat_at WW b c' hc) (by rw [hA]; rfl) (zb_in_of hi) hd (kk p e s m args below meth c H locs ls C hP hD hS hl)
theorem zr_aaldP {b c' a a' N : Nat} {v : Value} {i : Int32} {cA : ClassId} {f : Nat → Option Nat} (hc : zj_c WW b c' = some (a', .inl (cA, N, .inr (.inr (.inr (.inr f)))))) (ha : a = a') (hA : cA = G.2.1 6) (hi : zb_in i N = true) (hv : va_rf (f i.toNatClampNeg) = v) (hd : decode M.2.1 pc = .ok (.aaload, 1)) (kk : zj_J l G M W0 Φ k n WW lv (pc + 1) (v :: st)) : zj_J l G M W0 Φ k n WW lv pc (.int i :: .ref a :: st) := by
  intro p e s m args below meth c H locs ls C hP hD hS hl
  subst ha; subst hv
  exact va_aldq (C := "RoadToPort$Phrase") C.1 C.2.1 C.2.2.2.2.2.2.1.K hP (zj_off WW b + c') 6 (zj_flat_at WW b c' hc) (by rw [hA]; rfl) (zb_in_of hi) hd (kk p e s m args below meth c H locs ls C hP hD hS hl)
theorem zr_aastF {b c' b1 c1 a a' v v' N : Nat} {i : Int32} {cA : ClassId} {f : Nat → Option Nat} {vs : List Value} (hc : zj_c WW b c' = some (a', .inl (cA, N, .inr (.inr (.inr (.inr f)))))) (hv : zj_c WW b1 c1 = some (v', .inr (1, vs))) (ha : a = a') (hv2 : v = v') (hA : cA = G.2.1 4) (hi : zb_in i N = true) (hd : decode M.2.1 pc = .ok (.aastore, 1)) (kk : zj_J l G M W0 Φ k n (zj_set WW b c' (a', .inl (cA, N, .inr (.inr (.inr (.inr (va_up f i.toNatClampNeg (some v)))))))) lv (pc + 1) st) : zj_J l G M W0 Φ k n WW lv pc (.ref v :: .int i :: .ref a :: st) := by
  intro p e s m args below meth c H locs ls C hP hD hS hl
  subst ha; subst hv2
  refine va_astq C.1 C.2.1 C.2.2.2.2.2.2.1.K hP hD hS (zj_off WW b + c') 4 (zj_off WW b1 + c1) 1 (r := (RX1, TX1, 3)) (zj_flat_at WW b c' hc) (by rw [hA]; rfl) (zj_flat_at WW b1 c1 hv) rfl (zb_in_of hi) hd (fun H1 locs1 hP1 hD1 hS1 => ?_)
  rw [zj_flat_set WW b c' _ hc] at hP1 hD1
  exact kk p e s m args below meth c H1 locs1 ls C hP1 hD1 hS1 hl
theorem zr_aastL {b c' b1 c1 a a' v v' N : Nat} {i : Int32} {cA : ClassId} {f : Nat → Option Nat} {vs : List Value} (hc : zj_c WW b c' = some (a', .inl (cA, N, .inr (.inr (.inr (.inr f)))))) (hv : zj_c WW b1 c1 = some (v', .inr (3, vs))) (ha : a = a') (hv2 : v = v') (hA : cA = G.2.1 5) (hi : zb_in i N = true) (hd : decode M.2.1 pc = .ok (.aastore, 1)) (kk : zj_J l G M W0 Φ k n (zj_set WW b c' (a', .inl (cA, N, .inr (.inr (.inr (.inr (va_up f i.toNatClampNeg (some v)))))))) lv (pc + 1) st) : zj_J l G M W0 Φ k n WW lv pc (.ref v :: .int i :: .ref a :: st) := by
  intro p e s m args below meth c H locs ls C hP hD hS hl
  subst ha; subst hv2
  refine va_astq C.1 C.2.1 C.2.2.2.2.2.2.1.K hP hD hS (zj_off WW b + c') 5 (zj_off WW b1 + c1) 3 (r := (RX3, TX3, 14)) (zj_flat_at WW b c' hc) (by rw [hA]; rfl) (zj_flat_at WW b1 c1 hv) rfl (zb_in_of hi) hd (fun H1 locs1 hP1 hD1 hS1 => ?_)
  rw [zj_flat_set WW b c' _ hc] at hP1 hD1
  exact kk p e s m args below meth c H1 locs1 ls C hP1 hD1 hS1 hl
theorem zr_aastP {b c' b1 c1 a a' v v' N : Nat} {i : Int32} {cA : ClassId} {f : Nat → Option Nat} {vs : List Value} (hc : zj_c WW b c' = some (a', .inl (cA, N, .inr (.inr (.inr (.inr f)))))) (hv : zj_c WW b1 c1 = some (v', .inr (5, vs))) (ha : a = a') (hv2 : v = v') (hA : cA = G.2.1 6) (hi : zb_in i N = true) (hd : decode M.2.1 pc = .ok (.aastore, 1)) (kk : zj_J l G M W0 Φ k n (zj_set WW b c' (a', .inl (cA, N, .inr (.inr (.inr (.inr (va_up f i.toNatClampNeg (some v)))))))) lv (pc + 1) st) : zj_J l G M W0 Φ k n WW lv pc (.ref v :: .int i :: .ref a :: st) := by
  intro p e s m args below meth c H locs ls C hP hD hS hl
  subst ha; subst hv2
  refine va_astq C.1 C.2.1 C.2.2.2.2.2.2.1.K hP hD hS (zj_off WW b + c') 6 (zj_off WW b1 + c1) 5 (r := (RX5, TX5, 5)) (zj_flat_at WW b c' hc) (by rw [hA]; rfl) (zj_flat_at WW b1 c1 hv) rfl (zb_in_of hi) hd (fun H1 locs1 hP1 hD1 hS1 => ?_)
  rw [zj_flat_set WW b c' _ hc] at hP1 hD1
  exact kk p e s m args below meth c H1 locs1 ls C hP1 hD1 hS1 hl
end
theorem zb_in8 {i : Int32} (h : zb_in i 8 = true) : i.toNatClampNeg = 0 ∨ i.toNatClampNeg = 1 ∨ i.toNatClampNeg = 2 ∨ i.toNatClampNeg = 3 ∨ i.toNatClampNeg = 4 ∨ i.toNatClampNeg = 5 ∨ i.toNatClampNeg = 6 ∨ i.toNatClampNeg = 7 := by
  simp only [zb_in, Bool.and_eq_true, decide_eq_true_eq] at h
  omega
def M_X2_keep : zj_M := (RX2, cX2_keep, 2, none, { frames := 2, cells := 0, slots := 0, locals := 81 }, false)
theorem nm_X2_keep : zj_nm yX2_keep 1 := ⟨by decide +kernel, by decide +kernel, by decide +kernel⟩
def f_X2_keep (s0 : HiT) (h : H8T) (s1 : FkT) : Option (HiT × H8T) := (if zb_in (zr_rem ((Hi_first s0) + (Hi_size s0)) (8 : Int32)) 8 = true then ((f_X1_copy (h (zr_rem ((Hi_first s0) + (Hi_size s0)) (8 : Int32)).toNatClampNeg) s1).bind fun q => (if (Hi_size s0) < (8 : Int32) then (zlet (Hi_s_size s0 ((Hi_size s0) + (1 : Int32))) fun y => some (y, va_up h (zr_rem ((Hi_first s0) + (Hi_size s0)) (8 : Int32)).toNatClampNeg q)) else (zlet (zr_rem ((Hi_first s0) + (1 : Int32)) (8 : Int32)) fun v => (zlet (Hi_s_first s0 v) fun y => some (y, va_up h (zr_rem ((Hi_first s0) + (Hi_size s0)) (8 : Int32)).toNatClampNeg q))))) else none)
set_option maxRecDepth 100000 in
set_option maxHeartbeats 4000000 in
theorem c_X2_keep (l : Launch) (G : zj_G) (a0 : Nat → Nat) (B0 : Nat → Nat → Nat) (a1 : Nat → Nat) (s0 : HiT) (h : H8T) (s1 : FkT) (r : HiT × H8T) (hf : f_X2_keep s0 h s1 = some r) : zj_C l G M_X2_keep yX2_keep [w_Hi G a0 B0 s0, w_H8 G B0 h, w_Fk G a1 s1] [.ref (a0 0), .ref (a1 0)] none (fun _ => [w_Hi G a0 B0 r.1, w_H8 G B0 r.2, w_Fk G a1 s1]) := by
  have key : ∀ W0 : List va_W, zj_J l G M_X2_keep W0 (zj_ret G M_X2_keep W0 none (fun _ => [w_Hi G a0 B0 r.1, w_H8 G B0 r.2, w_Fk G a1 s1])) 0 0 [w_Hi G a0 B0 s0, w_H8 G B0 h, w_Fk G a1 s1] [some (.ref (a0 0)), some (.ref (a1 0))] 0 [] := by
    intro W0
    have tail : ∀ (h : H8T), (if (Hi_size s0) < (8 : Int32) then (zlet (Hi_s_size s0 ((Hi_size s0) + (1 : Int32))) fun y => some (y, h)) else (zlet (zr_rem ((Hi_first s0) + (1 : Int32)) (8 : Int32)) fun v => (zlet (Hi_s_first s0 v) fun y => some (y, h)))) = some r → zj_J l G M_X2_keep W0 (zj_ret G M_X2_keep W0 none (fun _ => [w_Hi G a0 B0 r.1, w_H8 G B0 r.2, w_Fk G a1 s1])) 0 0 [w_Hi G a0 B0 s0, w_Fk G (B0 0) (h 0), w_Fk G (B0 1) (h 1), w_Fk G (B0 2) (h 2), w_Fk G (B0 3) (h 3), w_Fk G (B0 4) (h 4), w_Fk G (B0 5) (h 5), w_Fk G (B0 6) (h 6), w_Fk G (B0 7) (h 7), w_Fk G a1 s1] [some (.ref (a0 0)), some (.ref (a1 0))] 21 [] := by
      intro h hf
      refine zr_run [(.aload_n 0, 0, 0, 0, .null), (.getfield 21, 0, 0, 2, .null), (.bipush 8, 0, 0, 0, .int (8 : Int32))] [] (WW' := [w_Hi G a0 B0 s0, w_Fk G (B0 0) (h 0), w_Fk G (B0 1) (h 1), w_Fk G (B0 2) (h 2), w_Fk G (B0 3) (h 3), w_Fk G (B0 4) (h 4), w_Fk G (B0 5) (h 5), w_Fk G (B0 6) (h 6), w_Fk G (B0 7) (h 7), w_Fk G a1 s1]) (lv' := [some (.ref (a0 0)), some (.ref (a1 0))]) (pc' := 27) (st' := [.int (8 : Int32), .int (Hi_size s0)]) (by decide +kernel) rfl rfl ⟨trivial, ⟨rfl, rfl, zw_2_18⟩, trivial, trivial⟩ ?_
      refine zr_icmp_ge (off := 16) (tgt := 43) (by decide +kernel) (by decide) (fun hc => ?_) (fun hc => ?_)
      · have hf := zift hf hc
        obtain ⟨y, ey, hf⟩ := zlet_of hf
        refine zr_run [(.aload_n 0, 0, 0, 0, .null), (.dup, 0, 0, 0, .null), (.getfield 21, 0, 0, 2, .null), (.iconst 1, 0, 0, 0, .int (1 : Int32)), (.iadd, 0, 0, 0, .null), (.putfield 21, 0, 0, 2, .null)] [] (WW' := [w_Hi G a0 B0 (Hi_s_size s0 ((Hi_size s0) + (1 : Int32))), w_Fk G (B0 0) (h 0), w_Fk G (B0 1) (h 1), w_Fk G (B0 2) (h 2), w_Fk G (B0 3) (h 3), w_Fk G (B0 4) (h 4), w_Fk G (B0 5) (h 5), w_Fk G (B0 6) (h 6), w_Fk G (B0 7) (h 7), w_Fk G a1 s1]) (lv' := [some (.ref (a0 0)), some (.ref (a1 0))]) (pc' := 40) (st' := []) (by decide +kernel) rfl rfl ⟨trivial, trivial, ⟨rfl, rfl, zw_2_18⟩, trivial, trivial, ⟨rfl, rfl, rfl, trivial, rfl, rfl, zw_2_18⟩, trivial⟩ ?_
        refine zr_eq (WW2 := [w_Hi G a0 B0 y, w_Fk G (B0 0) (h 0), w_Fk G (B0 1) (h 1), w_Fk G (B0 2) (h 2), w_Fk G (B0 3) (h 3), w_Fk G (B0 4) (h 4), w_Fk G (B0 5) (h 5), w_Fk G (B0 6) (h 6), w_Fk G (B0 7) (h 7), w_Fk G a1 s1]) (by rw [ey]) rfl rfl ?_
        refine zr_goto (off := 16) (tgt := 56) (by decide +kernel) (by decide) ?_
        obtain rfl := Option.some.inj hf
        refine zr_group (WW2 := [w_Hi G a0 B0 y, w_H8 G B0 h, w_Fk G a1 s1]) rfl ?_
        exact zr_vret (b0 := fun _ => 0) (by decide +kernel) rfl rfl rfl rfl rfl
      · have hf := ziff hf hc
        obtain ⟨v, ev, hf⟩ := zlet_of hf
        obtain ⟨y, ey, hf⟩ := zlet_of hf
        refine zr_run [(.aload_n 0, 0, 0, 0, .null), (.aload_n 0, 0, 0, 0, .null), (.getfield 17, 0, 0, 1, .null), (.iconst 1, 0, 0, 0, .int (1 : Int32)), (.iadd, 0, 0, 0, .null), (.bipush 8, 0, 0, 0, .int (8 : Int32)), (.irem, 0, 0, 0, .null)] [] (WW' := [w_Hi G a0 B0 s0, w_Fk G (B0 0) (h 0), w_Fk G (B0 1) (h 1), w_Fk G (B0 2) (h 2), w_Fk G (B0 3) (h 3), w_Fk G (B0 4) (h 4), w_Fk G (B0 5) (h 5), w_Fk G (B0 6) (h 6), w_Fk G (B0 7) (h 7), w_Fk G a1 s1]) (lv' := [some (.ref (a0 0)), some (.ref (a1 0))]) (pc' := 53) (st' := [.int (zr_rem ((Hi_first s0) + (1 : Int32)) (8 : Int32)), .ref (a0 0)]) (by decide +kernel) rfl rfl ⟨trivial, trivial, ⟨rfl, rfl, zw_2_17⟩, trivial, trivial, trivial, (by decide), trivial⟩ ?_
        refine zr_eq (st2 := [.int v, .ref (a0 0)]) rfl rfl (by rw [ev]) ?_
        refine zr_run [(.putfield 17, 0, 0, 1, .null)] [] (WW' := [w_Hi G a0 B0 (Hi_s_first s0 v), w_Fk G (B0 0) (h 0), w_Fk G (B0 1) (h 1), w_Fk G (B0 2) (h 2), w_Fk G (B0 3) (h 3), w_Fk G (B0 4) (h 4), w_Fk G (B0 5) (h 5), w_Fk G (B0 6) (h 6), w_Fk G (B0 7) (h 7), w_Fk G a1 s1]) (lv' := [some (.ref (a0 0)), some (.ref (a1 0))]) (pc' := 56) (st' := []) (by decide +kernel) rfl rfl ⟨⟨rfl, rfl, rfl, trivial, rfl, rfl, zw_2_17⟩, trivial⟩ ?_
        refine zr_eq (WW2 := [w_Hi G a0 B0 y, w_Fk G (B0 0) (h 0), w_Fk G (B0 1) (h 1), w_Fk G (B0 2) (h 2), w_Fk G (B0 3) (h 3), w_Fk G (B0 4) (h 4), w_Fk G (B0 5) (h 5), w_Fk G (B0 6) (h 6), w_Fk G (B0 7) (h 7), w_Fk G a1 s1]) (by rw [ey]) rfl rfl ?_
        obtain rfl := Option.some.inj hf
        refine zr_group (WW2 := [w_Hi G a0 B0 y, w_H8 G B0 h, w_Fk G a1 s1]) rfl ?_
        exact zr_vret (b0 := fun _ => 0) (by decide +kernel) rfl rfl rfl rfl rfl
    unfold f_X2_keep at hf
    obtain ⟨h1, hf⟩ := zck_of hf
    refine zr_group (WW2 := [w_Hi G a0 B0 s0, w_Fk G (B0 0) (h 0), w_Fk G (B0 1) (h 1), w_Fk G (B0 2) (h 2), w_Fk G (B0 3) (h 3), w_Fk G (B0 4) (h 4), w_Fk G (B0 5) (h 5), w_Fk G (B0 6) (h 6), w_Fk G (B0 7) (h 7), w_Fk G a1 s1]) rfl ?_
    refine zr_run [(.aload_n 0, 0, 0, 0, .null), (.getfield 13, 0, 0, 0, .null), (.aload_n 0, 0, 0, 0, .null), (.getfield 17, 0, 0, 1, .null), (.aload_n 0, 0, 0, 0, .null), (.getfield 21, 0, 0, 2, .null), (.iadd, 0, 0, 0, .null), (.bipush 8, 0, 0, 0, .int (8 : Int32)), (.irem, 0, 0, 0, .null)] [] (WW' := [w_Hi G a0 B0 s0, w_Fk G (B0 0) (h 0), w_Fk G (B0 1) (h 1), w_Fk G (B0 2) (h 2), w_Fk G (B0 3) (h 3), w_Fk G (B0 4) (h 4), w_Fk G (B0 5) (h 5), w_Fk G (B0 6) (h 6), w_Fk G (B0 7) (h 7), w_Fk G a1 s1]) (lv' := [some (.ref (a0 0)), some (.ref (a1 0))]) (pc' := 16) (st' := [.int (zr_rem ((Hi_first s0) + (Hi_size s0)) (8 : Int32)), .ref (a0 1)]) (by decide +kernel) rfl rfl ⟨trivial, ⟨rfl, rfl, zw_2_16⟩, trivial, ⟨rfl, rfl, zw_2_17⟩, trivial, ⟨rfl, rfl, zw_2_18⟩, trivial, trivial, (by decide), trivial⟩ ?_
    rcases zb_in8 h1 with hj | hj | hj | hj | hj | hj | hj | hj
    · rw [hj] at hf
      obtain ⟨q, eq, hf⟩ := zbi_of hf
      refine zr_aaldF (b := 0) (c' := 1) (v := .ref (B0 0 0)) rfl rfl rfl h1 (by rw [hj]; rfl) (by decide +kernel) ?_
      refine zr_run [(.aload_n 1, 0, 0, 0, .null)] [] (WW' := [w_Hi G a0 B0 s0, w_Fk G (B0 0) (h 0), w_Fk G (B0 1) (h 1), w_Fk G (B0 2) (h 2), w_Fk G (B0 3) (h 3), w_Fk G (B0 4) (h 4), w_Fk G (B0 5) (h 5), w_Fk G (B0 6) (h 6), w_Fk G (B0 7) (h 7), w_Fk G a1 s1]) (lv' := [some (.ref (a0 0)), some (.ref (a1 0))]) (pc' := 18) (st' := [.ref (a1 0), .ref (B0 0 0)]) (by decide +kernel) rfl rfl ⟨trivial, trivial⟩ ?_
      refine zr_callV (c_X1_copy l G (B0 0) a1 (h 0) s1 q eq) (WW' := fun _ => [w_Hi G a0 B0 s0, w_Fk G (B0 0) (va_up h 0 q 0), w_Fk G (B0 1) (va_up h 0 q 1), w_Fk G (B0 2) (va_up h 0 q 2), w_Fk G (B0 3) (va_up h 0 q 3), w_Fk G (B0 4) (va_up h 0 q 4), w_Fk G (B0 5) (va_up h 0 q 5), w_Fk G (B0 6) (va_up h 0 q 6), w_Fk G (B0 7) (va_up h 0 q 7), w_Fk G a1 s1]) (st := []) (st' := []) [1, 9] rfl rfl (fun _ => Nat.le_of_ble_eq_true rfl) (fun _ => rfl) rfl rfl nm_X1_copy zw_3_201 zw_3_178 zw_3_179 zw_1_8 zw_3_180 rfl rfl rfl (Nat.le_of_ble_eq_true rfl) ⟨Nat.le_of_ble_eq_true rfl, Nat.le_of_ble_eq_true rfl⟩ (by decide +kernel) (fun _ => ?_)
      exact tail (va_up h 0 q) hf
    · rw [hj] at hf
      obtain ⟨q, eq, hf⟩ := zbi_of hf
      refine zr_aaldF (b := 0) (c' := 1) (v := .ref (B0 1 0)) rfl rfl rfl h1 (by rw [hj]; rfl) (by decide +kernel) ?_
      refine zr_run [(.aload_n 1, 0, 0, 0, .null)] [] (WW' := [w_Hi G a0 B0 s0, w_Fk G (B0 0) (h 0), w_Fk G (B0 1) (h 1), w_Fk G (B0 2) (h 2), w_Fk G (B0 3) (h 3), w_Fk G (B0 4) (h 4), w_Fk G (B0 5) (h 5), w_Fk G (B0 6) (h 6), w_Fk G (B0 7) (h 7), w_Fk G a1 s1]) (lv' := [some (.ref (a0 0)), some (.ref (a1 0))]) (pc' := 18) (st' := [.ref (a1 0), .ref (B0 1 0)]) (by decide +kernel) rfl rfl ⟨trivial, trivial⟩ ?_
      refine zr_callV (c_X1_copy l G (B0 1) a1 (h 1) s1 q eq) (WW' := fun _ => [w_Hi G a0 B0 s0, w_Fk G (B0 0) (va_up h 1 q 0), w_Fk G (B0 1) (va_up h 1 q 1), w_Fk G (B0 2) (va_up h 1 q 2), w_Fk G (B0 3) (va_up h 1 q 3), w_Fk G (B0 4) (va_up h 1 q 4), w_Fk G (B0 5) (va_up h 1 q 5), w_Fk G (B0 6) (va_up h 1 q 6), w_Fk G (B0 7) (va_up h 1 q 7), w_Fk G a1 s1]) (st := []) (st' := []) [2, 9] rfl rfl (fun _ => Nat.le_of_ble_eq_true rfl) (fun _ => rfl) rfl rfl nm_X1_copy zw_3_201 zw_3_178 zw_3_179 zw_1_8 zw_3_180 rfl rfl rfl (Nat.le_of_ble_eq_true rfl) ⟨Nat.le_of_ble_eq_true rfl, Nat.le_of_ble_eq_true rfl⟩ (by decide +kernel) (fun _ => ?_)
      exact tail (va_up h 1 q) hf
    · rw [hj] at hf
      obtain ⟨q, eq, hf⟩ := zbi_of hf
      refine zr_aaldF (b := 0) (c' := 1) (v := .ref (B0 2 0)) rfl rfl rfl h1 (by rw [hj]; rfl) (by decide +kernel) ?_
      refine zr_run [(.aload_n 1, 0, 0, 0, .null)] [] (WW' := [w_Hi G a0 B0 s0, w_Fk G (B0 0) (h 0), w_Fk G (B0 1) (h 1), w_Fk G (B0 2) (h 2), w_Fk G (B0 3) (h 3), w_Fk G (B0 4) (h 4), w_Fk G (B0 5) (h 5), w_Fk G (B0 6) (h 6), w_Fk G (B0 7) (h 7), w_Fk G a1 s1]) (lv' := [some (.ref (a0 0)), some (.ref (a1 0))]) (pc' := 18) (st' := [.ref (a1 0), .ref (B0 2 0)]) (by decide +kernel) rfl rfl ⟨trivial, trivial⟩ ?_
      refine zr_callV (c_X1_copy l G (B0 2) a1 (h 2) s1 q eq) (WW' := fun _ => [w_Hi G a0 B0 s0, w_Fk G (B0 0) (va_up h 2 q 0), w_Fk G (B0 1) (va_up h 2 q 1), w_Fk G (B0 2) (va_up h 2 q 2), w_Fk G (B0 3) (va_up h 2 q 3), w_Fk G (B0 4) (va_up h 2 q 4), w_Fk G (B0 5) (va_up h 2 q 5), w_Fk G (B0 6) (va_up h 2 q 6), w_Fk G (B0 7) (va_up h 2 q 7), w_Fk G a1 s1]) (st := []) (st' := []) [3, 9] rfl rfl (fun _ => Nat.le_of_ble_eq_true rfl) (fun _ => rfl) rfl rfl nm_X1_copy zw_3_201 zw_3_178 zw_3_179 zw_1_8 zw_3_180 rfl rfl rfl (Nat.le_of_ble_eq_true rfl) ⟨Nat.le_of_ble_eq_true rfl, Nat.le_of_ble_eq_true rfl⟩ (by decide +kernel) (fun _ => ?_)
      exact tail (va_up h 2 q) hf
    · rw [hj] at hf
      obtain ⟨q, eq, hf⟩ := zbi_of hf
      refine zr_aaldF (b := 0) (c' := 1) (v := .ref (B0 3 0)) rfl rfl rfl h1 (by rw [hj]; rfl) (by decide +kernel) ?_
      refine zr_run [(.aload_n 1, 0, 0, 0, .null)] [] (WW' := [w_Hi G a0 B0 s0, w_Fk G (B0 0) (h 0), w_Fk G (B0 1) (h 1), w_Fk G (B0 2) (h 2), w_Fk G (B0 3) (h 3), w_Fk G (B0 4) (h 4), w_Fk G (B0 5) (h 5), w_Fk G (B0 6) (h 6), w_Fk G (B0 7) (h 7), w_Fk G a1 s1]) (lv' := [some (.ref (a0 0)), some (.ref (a1 0))]) (pc' := 18) (st' := [.ref (a1 0), .ref (B0 3 0)]) (by decide +kernel) rfl rfl ⟨trivial, trivial⟩ ?_
      refine zr_callV (c_X1_copy l G (B0 3) a1 (h 3) s1 q eq) (WW' := fun _ => [w_Hi G a0 B0 s0, w_Fk G (B0 0) (va_up h 3 q 0), w_Fk G (B0 1) (va_up h 3 q 1), w_Fk G (B0 2) (va_up h 3 q 2), w_Fk G (B0 3) (va_up h 3 q 3), w_Fk G (B0 4) (va_up h 3 q 4), w_Fk G (B0 5) (va_up h 3 q 5), w_Fk G (B0 6) (va_up h 3 q 6), w_Fk G (B0 7) (va_up h 3 q 7), w_Fk G a1 s1]) (st := []) (st' := []) [4, 9] rfl rfl (fun _ => Nat.le_of_ble_eq_true rfl) (fun _ => rfl) rfl rfl nm_X1_copy zw_3_201 zw_3_178 zw_3_179 zw_1_8 zw_3_180 rfl rfl rfl (Nat.le_of_ble_eq_true rfl) ⟨Nat.le_of_ble_eq_true rfl, Nat.le_of_ble_eq_true rfl⟩ (by decide +kernel) (fun _ => ?_)
      exact tail (va_up h 3 q) hf
    · rw [hj] at hf
      obtain ⟨q, eq, hf⟩ := zbi_of hf
      refine zr_aaldF (b := 0) (c' := 1) (v := .ref (B0 4 0)) rfl rfl rfl h1 (by rw [hj]; rfl) (by decide +kernel) ?_
      refine zr_run [(.aload_n 1, 0, 0, 0, .null)] [] (WW' := [w_Hi G a0 B0 s0, w_Fk G (B0 0) (h 0), w_Fk G (B0 1) (h 1), w_Fk G (B0 2) (h 2), w_Fk G (B0 3) (h 3), w_Fk G (B0 4) (h 4), w_Fk G (B0 5) (h 5), w_Fk G (B0 6) (h 6), w_Fk G (B0 7) (h 7), w_Fk G a1 s1]) (lv' := [some (.ref (a0 0)), some (.ref (a1 0))]) (pc' := 18) (st' := [.ref (a1 0), .ref (B0 4 0)]) (by decide +kernel) rfl rfl ⟨trivial, trivial⟩ ?_
      refine zr_callV (c_X1_copy l G (B0 4) a1 (h 4) s1 q eq) (WW' := fun _ => [w_Hi G a0 B0 s0, w_Fk G (B0 0) (va_up h 4 q 0), w_Fk G (B0 1) (va_up h 4 q 1), w_Fk G (B0 2) (va_up h 4 q 2), w_Fk G (B0 3) (va_up h 4 q 3), w_Fk G (B0 4) (va_up h 4 q 4), w_Fk G (B0 5) (va_up h 4 q 5), w_Fk G (B0 6) (va_up h 4 q 6), w_Fk G (B0 7) (va_up h 4 q 7), w_Fk G a1 s1]) (st := []) (st' := []) [5, 9] rfl rfl (fun _ => Nat.le_of_ble_eq_true rfl) (fun _ => rfl) rfl rfl nm_X1_copy zw_3_201 zw_3_178 zw_3_179 zw_1_8 zw_3_180 rfl rfl rfl (Nat.le_of_ble_eq_true rfl) ⟨Nat.le_of_ble_eq_true rfl, Nat.le_of_ble_eq_true rfl⟩ (by decide +kernel) (fun _ => ?_)
      exact tail (va_up h 4 q) hf
    · rw [hj] at hf
      obtain ⟨q, eq, hf⟩ := zbi_of hf
      refine zr_aaldF (b := 0) (c' := 1) (v := .ref (B0 5 0)) rfl rfl rfl h1 (by rw [hj]; rfl) (by decide +kernel) ?_
      refine zr_run [(.aload_n 1, 0, 0, 0, .null)] [] (WW' := [w_Hi G a0 B0 s0, w_Fk G (B0 0) (h 0), w_Fk G (B0 1) (h 1), w_Fk G (B0 2) (h 2), w_Fk G (B0 3) (h 3), w_Fk G (B0 4) (h 4), w_Fk G (B0 5) (h 5), w_Fk G (B0 6) (h 6), w_Fk G (B0 7) (h 7), w_Fk G a1 s1]) (lv' := [some (.ref (a0 0)), some (.ref (a1 0))]) (pc' := 18) (st' := [.ref (a1 0), .ref (B0 5 0)]) (by decide +kernel) rfl rfl ⟨trivial, trivial⟩ ?_
      refine zr_callV (c_X1_copy l G (B0 5) a1 (h 5) s1 q eq) (WW' := fun _ => [w_Hi G a0 B0 s0, w_Fk G (B0 0) (va_up h 5 q 0), w_Fk G (B0 1) (va_up h 5 q 1), w_Fk G (B0 2) (va_up h 5 q 2), w_Fk G (B0 3) (va_up h 5 q 3), w_Fk G (B0 4) (va_up h 5 q 4), w_Fk G (B0 5) (va_up h 5 q 5), w_Fk G (B0 6) (va_up h 5 q 6), w_Fk G (B0 7) (va_up h 5 q 7), w_Fk G a1 s1]) (st := []) (st' := []) [6, 9] rfl rfl (fun _ => Nat.le_of_ble_eq_true rfl) (fun _ => rfl) rfl rfl nm_X1_copy zw_3_201 zw_3_178 zw_3_179 zw_1_8 zw_3_180 rfl rfl rfl (Nat.le_of_ble_eq_true rfl) ⟨Nat.le_of_ble_eq_true rfl, Nat.le_of_ble_eq_true rfl⟩ (by decide +kernel) (fun _ => ?_)
      exact tail (va_up h 5 q) hf
    · rw [hj] at hf
      obtain ⟨q, eq, hf⟩ := zbi_of hf
      refine zr_aaldF (b := 0) (c' := 1) (v := .ref (B0 6 0)) rfl rfl rfl h1 (by rw [hj]; rfl) (by decide +kernel) ?_
      refine zr_run [(.aload_n 1, 0, 0, 0, .null)] [] (WW' := [w_Hi G a0 B0 s0, w_Fk G (B0 0) (h 0), w_Fk G (B0 1) (h 1), w_Fk G (B0 2) (h 2), w_Fk G (B0 3) (h 3), w_Fk G (B0 4) (h 4), w_Fk G (B0 5) (h 5), w_Fk G (B0 6) (h 6), w_Fk G (B0 7) (h 7), w_Fk G a1 s1]) (lv' := [some (.ref (a0 0)), some (.ref (a1 0))]) (pc' := 18) (st' := [.ref (a1 0), .ref (B0 6 0)]) (by decide +kernel) rfl rfl ⟨trivial, trivial⟩ ?_
      refine zr_callV (c_X1_copy l G (B0 6) a1 (h 6) s1 q eq) (WW' := fun _ => [w_Hi G a0 B0 s0, w_Fk G (B0 0) (va_up h 6 q 0), w_Fk G (B0 1) (va_up h 6 q 1), w_Fk G (B0 2) (va_up h 6 q 2), w_Fk G (B0 3) (va_up h 6 q 3), w_Fk G (B0 4) (va_up h 6 q 4), w_Fk G (B0 5) (va_up h 6 q 5), w_Fk G (B0 6) (va_up h 6 q 6), w_Fk G (B0 7) (va_up h 6 q 7), w_Fk G a1 s1]) (st := []) (st' := []) [7, 9] rfl rfl (fun _ => Nat.le_of_ble_eq_true rfl) (fun _ => rfl) rfl rfl nm_X1_copy zw_3_201 zw_3_178 zw_3_179 zw_1_8 zw_3_180 rfl rfl rfl (Nat.le_of_ble_eq_true rfl) ⟨Nat.le_of_ble_eq_true rfl, Nat.le_of_ble_eq_true rfl⟩ (by decide +kernel) (fun _ => ?_)
      exact tail (va_up h 6 q) hf
    · rw [hj] at hf
      obtain ⟨q, eq, hf⟩ := zbi_of hf
      refine zr_aaldF (b := 0) (c' := 1) (v := .ref (B0 7 0)) rfl rfl rfl h1 (by rw [hj]; rfl) (by decide +kernel) ?_
      refine zr_run [(.aload_n 1, 0, 0, 0, .null)] [] (WW' := [w_Hi G a0 B0 s0, w_Fk G (B0 0) (h 0), w_Fk G (B0 1) (h 1), w_Fk G (B0 2) (h 2), w_Fk G (B0 3) (h 3), w_Fk G (B0 4) (h 4), w_Fk G (B0 5) (h 5), w_Fk G (B0 6) (h 6), w_Fk G (B0 7) (h 7), w_Fk G a1 s1]) (lv' := [some (.ref (a0 0)), some (.ref (a1 0))]) (pc' := 18) (st' := [.ref (a1 0), .ref (B0 7 0)]) (by decide +kernel) rfl rfl ⟨trivial, trivial⟩ ?_
      refine zr_callV (c_X1_copy l G (B0 7) a1 (h 7) s1 q eq) (WW' := fun _ => [w_Hi G a0 B0 s0, w_Fk G (B0 0) (va_up h 7 q 0), w_Fk G (B0 1) (va_up h 7 q 1), w_Fk G (B0 2) (va_up h 7 q 2), w_Fk G (B0 3) (va_up h 7 q 3), w_Fk G (B0 4) (va_up h 7 q 4), w_Fk G (B0 5) (va_up h 7 q 5), w_Fk G (B0 6) (va_up h 7 q 6), w_Fk G (B0 7) (va_up h 7 q 7), w_Fk G a1 s1]) (st := []) (st' := []) [8, 9] rfl rfl (fun _ => Nat.le_of_ble_eq_true rfl) (fun _ => rfl) rfl rfl nm_X1_copy zw_3_201 zw_3_178 zw_3_179 zw_1_8 zw_3_180 rfl rfl rfl (Nat.le_of_ble_eq_true rfl) ⟨Nat.le_of_ble_eq_true rfl, Nat.le_of_ble_eq_true rfl⟩ (by decide +kernel) (fun _ => ?_)
      exact tail (va_up h 7 q) hf
  exact zj_entry [some (.ref (a0 0)), some (.ref (a1 0))] (by decide +kernel) rfl (by decide) (Nat.le_of_ble_eq_true rfl) rfl rfl (key _)
def M_X2_takeBack : zj_M := (RX2, cX2_takeBack, 2, (some .int), { frames := 2, cells := 0, slots := 0, locals := 81 }, false)
theorem nm_X2_takeBack : zj_nm yX2_takeBack 1 := ⟨by decide +kernel, by decide +kernel, by decide +kernel⟩
def f_X2_takeBack (s0 : HiT) (h : H8T) (s1 : FkT) : Option (Int32 × HiT × FkT) := (if (Hi_size s0) = 0 then some ((-1 : Int32), s0, s1) else (zlet (Hi_s_size s0 ((Hi_size s0) - (1 : Int32))) fun y => (if zb_in (zr_rem ((Hi_first y) + (Hi_size y)) (8 : Int32)) 8 = true then ((f_X1_copy s1 (h (zr_rem ((Hi_first y) + (Hi_size y)) (8 : Int32)).toNatClampNeg)).bind fun q => some ((Hi_size y), y, q)) else none)))
set_option maxRecDepth 100000 in
set_option maxHeartbeats 4000000 in
theorem c_X2_takeBack (l : Launch) (G : zj_G) (a0 : Nat → Nat) (B0 : Nat → Nat → Nat) (a1 : Nat → Nat) (s0 : HiT) (h : H8T) (s1 : FkT) (r : Int32 × HiT × FkT) (hf : f_X2_takeBack s0 h s1 = some r) : zj_C l G M_X2_takeBack yX2_takeBack [w_Hi G a0 B0 s0, w_H8 G B0 h, w_Fk G a1 s1] [.ref (a0 0), .ref (a1 0)] (some (.int r.1)) (fun _ => [w_Hi G a0 B0 r.2.1, w_H8 G B0 h, w_Fk G a1 r.2.2]) := by
  have key : ∀ W0 : List va_W, zj_J l G M_X2_takeBack W0 (zj_ret G M_X2_takeBack W0 (some (.int r.1)) (fun _ => [w_Hi G a0 B0 r.2.1, w_H8 G B0 h, w_Fk G a1 r.2.2])) 0 0 [w_Hi G a0 B0 s0, w_H8 G B0 h, w_Fk G a1 s1] [some (.ref (a0 0)), some (.ref (a1 0))] 0 [] := by
    intro W0
    unfold f_X2_takeBack at hf
    refine zr_group (WW2 := [w_Hi G a0 B0 s0, w_Fk G (B0 0) (h 0), w_Fk G (B0 1) (h 1), w_Fk G (B0 2) (h 2), w_Fk G (B0 3) (h 3), w_Fk G (B0 4) (h 4), w_Fk G (B0 5) (h 5), w_Fk G (B0 6) (h 6), w_Fk G (B0 7) (h 7), w_Fk G a1 s1]) rfl ?_
    refine zr_run [(.aload_n 0, 0, 0, 0, .null), (.getfield 21, 0, 0, 2, .null)] [] (WW' := [w_Hi G a0 B0 s0, w_Fk G (B0 0) (h 0), w_Fk G (B0 1) (h 1), w_Fk G (B0 2) (h 2), w_Fk G (B0 3) (h 3), w_Fk G (B0 4) (h 4), w_Fk G (B0 5) (h 5), w_Fk G (B0 6) (h 6), w_Fk G (B0 7) (h 7), w_Fk G a1 s1]) (lv' := [some (.ref (a0 0)), some (.ref (a1 0))]) (pc' := 4) (st' := [.int (Hi_size s0)]) (by decide +kernel) rfl rfl ⟨trivial, ⟨rfl, rfl, zw_2_18⟩, trivial⟩ ?_
    refine zr_if_ne (off := 5) (tgt := 9) (by decide +kernel) (by decide) (fun hc => ?_) (fun hc => ?_)
    · have hf := zift hf hc
      refine zr_run [(.iconst (-1), 0, 0, 0, .int (-1 : Int32))] [] (WW' := [w_Hi G a0 B0 s0, w_Fk G (B0 0) (h 0), w_Fk G (B0 1) (h 1), w_Fk G (B0 2) (h 2), w_Fk G (B0 3) (h 3), w_Fk G (B0 4) (h 4), w_Fk G (B0 5) (h 5), w_Fk G (B0 6) (h 6), w_Fk G (B0 7) (h 7), w_Fk G a1 s1]) (lv' := [some (.ref (a0 0)), some (.ref (a1 0))]) (pc' := 8) (st' := [.int (-1 : Int32)]) (by decide +kernel) rfl rfl ⟨trivial, trivial⟩ ?_
      obtain rfl := Option.some.inj hf
      refine zr_group (WW2 := [w_Hi G a0 B0 s0, w_H8 G B0 h, w_Fk G a1 s1]) rfl ?_
      exact zr_iret (b0 := fun _ => 0) (by decide +kernel) rfl rfl rfl rfl rfl
    · have hf := ziff hf hc
      obtain ⟨y, ey, hf⟩ := zlet_of hf
      obtain ⟨h1, hf⟩ := zck_of hf
      refine zr_run [(.aload_n 0, 0, 0, 0, .null), (.dup, 0, 0, 0, .null), (.getfield 21, 0, 0, 2, .null), (.iconst 1, 0, 0, 0, .int (1 : Int32)), (.isub, 0, 0, 0, .null), (.putfield 21, 0, 0, 2, .null)] [] (WW' := [w_Hi G a0 B0 (Hi_s_size s0 ((Hi_size s0) - (1 : Int32))), w_Fk G (B0 0) (h 0), w_Fk G (B0 1) (h 1), w_Fk G (B0 2) (h 2), w_Fk G (B0 3) (h 3), w_Fk G (B0 4) (h 4), w_Fk G (B0 5) (h 5), w_Fk G (B0 6) (h 6), w_Fk G (B0 7) (h 7), w_Fk G a1 s1]) (lv' := [some (.ref (a0 0)), some (.ref (a1 0))]) (pc' := 19) (st' := []) (by decide +kernel) rfl rfl ⟨trivial, trivial, ⟨rfl, rfl, zw_2_18⟩, trivial, trivial, ⟨rfl, rfl, rfl, trivial, rfl, rfl, zw_2_18⟩, trivial⟩ ?_
      refine zr_eq (WW2 := [w_Hi G a0 B0 y, w_Fk G (B0 0) (h 0), w_Fk G (B0 1) (h 1), w_Fk G (B0 2) (h 2), w_Fk G (B0 3) (h 3), w_Fk G (B0 4) (h 4), w_Fk G (B0 5) (h 5), w_Fk G (B0 6) (h 6), w_Fk G (B0 7) (h 7), w_Fk G a1 s1]) (by rw [ey]) rfl rfl ?_
      refine zr_run [(.aload_n 1, 0, 0, 0, .null), (.aload_n 0, 0, 0, 0, .null), (.getfield 13, 0, 0, 0, .null), (.aload_n 0, 0, 0, 0, .null), (.getfield 17, 0, 0, 1, .null), (.aload_n 0, 0, 0, 0, .null), (.getfield 21, 0, 0, 2, .null), (.iadd, 0, 0, 0, .null), (.bipush 8, 0, 0, 0, .int (8 : Int32)), (.irem, 0, 0, 0, .null)] [] (WW' := [w_Hi G a0 B0 y, w_Fk G (B0 0) (h 0), w_Fk G (B0 1) (h 1), w_Fk G (B0 2) (h 2), w_Fk G (B0 3) (h 3), w_Fk G (B0 4) (h 4), w_Fk G (B0 5) (h 5), w_Fk G (B0 6) (h 6), w_Fk G (B0 7) (h 7), w_Fk G a1 s1]) (lv' := [some (.ref (a0 0)), some (.ref (a1 0))]) (pc' := 36) (st' := [.int (zr_rem ((Hi_first y) + (Hi_size y)) (8 : Int32)), .ref (a0 1), .ref (a1 0)]) (by decide +kernel) rfl rfl ⟨trivial, trivial, ⟨rfl, rfl, zw_2_16⟩, trivial, ⟨rfl, rfl, zw_2_17⟩, trivial, ⟨rfl, rfl, zw_2_18⟩, trivial, trivial, (by decide), trivial⟩ ?_
      rcases zb_in8 h1 with hj | hj | hj | hj | hj | hj | hj | hj
      · rw [hj] at hf
        obtain ⟨q, eq, hf⟩ := zbi_of hf
        refine zr_aaldF (b := 0) (c' := 1) (v := .ref (B0 0 0)) rfl rfl rfl h1 (by rw [hj]; rfl) (by decide +kernel) ?_
        refine zr_callV (c_X1_copy l G a1 (B0 0) s1 (h 0) q eq) (WW' := fun _ => [w_Hi G a0 B0 y, w_Fk G (B0 0) (h 0), w_Fk G (B0 1) (h 1), w_Fk G (B0 2) (h 2), w_Fk G (B0 3) (h 3), w_Fk G (B0 4) (h 4), w_Fk G (B0 5) (h 5), w_Fk G (B0 6) (h 6), w_Fk G (B0 7) (h 7), w_Fk G a1 q]) (st := []) (st' := []) [9, 1] rfl rfl (fun _ => Nat.le_of_ble_eq_true rfl) (fun _ => rfl) rfl rfl nm_X1_copy zw_3_201 zw_3_178 zw_3_179 zw_1_8 zw_3_180 rfl rfl rfl (Nat.le_of_ble_eq_true rfl) ⟨Nat.le_of_ble_eq_true rfl, Nat.le_of_ble_eq_true rfl⟩ (by decide +kernel) (fun _ => ?_)
        refine zr_run [(.aload_n 0, 0, 0, 0, .null), (.getfield 21, 0, 0, 2, .null)] [] (WW' := [w_Hi G a0 B0 y, w_Fk G (B0 0) (h 0), w_Fk G (B0 1) (h 1), w_Fk G (B0 2) (h 2), w_Fk G (B0 3) (h 3), w_Fk G (B0 4) (h 4), w_Fk G (B0 5) (h 5), w_Fk G (B0 6) (h 6), w_Fk G (B0 7) (h 7), w_Fk G a1 q]) (lv' := [some (.ref (a0 0)), some (.ref (a1 0))]) (pc' := 44) (st' := [.int (Hi_size y)]) (by decide +kernel) rfl rfl ⟨trivial, ⟨rfl, rfl, zw_2_18⟩, trivial⟩ ?_
        obtain rfl := Option.some.inj hf
        refine zr_group (WW2 := [w_Hi G a0 B0 y, w_H8 G B0 h, w_Fk G a1 q]) rfl ?_
        exact zr_iret (b0 := fun _ => 0) (by decide +kernel) rfl rfl rfl rfl rfl
      · rw [hj] at hf
        obtain ⟨q, eq, hf⟩ := zbi_of hf
        refine zr_aaldF (b := 0) (c' := 1) (v := .ref (B0 1 0)) rfl rfl rfl h1 (by rw [hj]; rfl) (by decide +kernel) ?_
        refine zr_callV (c_X1_copy l G a1 (B0 1) s1 (h 1) q eq) (WW' := fun _ => [w_Hi G a0 B0 y, w_Fk G (B0 0) (h 0), w_Fk G (B0 1) (h 1), w_Fk G (B0 2) (h 2), w_Fk G (B0 3) (h 3), w_Fk G (B0 4) (h 4), w_Fk G (B0 5) (h 5), w_Fk G (B0 6) (h 6), w_Fk G (B0 7) (h 7), w_Fk G a1 q]) (st := []) (st' := []) [9, 2] rfl rfl (fun _ => Nat.le_of_ble_eq_true rfl) (fun _ => rfl) rfl rfl nm_X1_copy zw_3_201 zw_3_178 zw_3_179 zw_1_8 zw_3_180 rfl rfl rfl (Nat.le_of_ble_eq_true rfl) ⟨Nat.le_of_ble_eq_true rfl, Nat.le_of_ble_eq_true rfl⟩ (by decide +kernel) (fun _ => ?_)
        refine zr_run [(.aload_n 0, 0, 0, 0, .null), (.getfield 21, 0, 0, 2, .null)] [] (WW' := [w_Hi G a0 B0 y, w_Fk G (B0 0) (h 0), w_Fk G (B0 1) (h 1), w_Fk G (B0 2) (h 2), w_Fk G (B0 3) (h 3), w_Fk G (B0 4) (h 4), w_Fk G (B0 5) (h 5), w_Fk G (B0 6) (h 6), w_Fk G (B0 7) (h 7), w_Fk G a1 q]) (lv' := [some (.ref (a0 0)), some (.ref (a1 0))]) (pc' := 44) (st' := [.int (Hi_size y)]) (by decide +kernel) rfl rfl ⟨trivial, ⟨rfl, rfl, zw_2_18⟩, trivial⟩ ?_
        obtain rfl := Option.some.inj hf
        refine zr_group (WW2 := [w_Hi G a0 B0 y, w_H8 G B0 h, w_Fk G a1 q]) rfl ?_
        exact zr_iret (b0 := fun _ => 0) (by decide +kernel) rfl rfl rfl rfl rfl
      · rw [hj] at hf
        obtain ⟨q, eq, hf⟩ := zbi_of hf
        refine zr_aaldF (b := 0) (c' := 1) (v := .ref (B0 2 0)) rfl rfl rfl h1 (by rw [hj]; rfl) (by decide +kernel) ?_
        refine zr_callV (c_X1_copy l G a1 (B0 2) s1 (h 2) q eq) (WW' := fun _ => [w_Hi G a0 B0 y, w_Fk G (B0 0) (h 0), w_Fk G (B0 1) (h 1), w_Fk G (B0 2) (h 2), w_Fk G (B0 3) (h 3), w_Fk G (B0 4) (h 4), w_Fk G (B0 5) (h 5), w_Fk G (B0 6) (h 6), w_Fk G (B0 7) (h 7), w_Fk G a1 q]) (st := []) (st' := []) [9, 3] rfl rfl (fun _ => Nat.le_of_ble_eq_true rfl) (fun _ => rfl) rfl rfl nm_X1_copy zw_3_201 zw_3_178 zw_3_179 zw_1_8 zw_3_180 rfl rfl rfl (Nat.le_of_ble_eq_true rfl) ⟨Nat.le_of_ble_eq_true rfl, Nat.le_of_ble_eq_true rfl⟩ (by decide +kernel) (fun _ => ?_)
        refine zr_run [(.aload_n 0, 0, 0, 0, .null), (.getfield 21, 0, 0, 2, .null)] [] (WW' := [w_Hi G a0 B0 y, w_Fk G (B0 0) (h 0), w_Fk G (B0 1) (h 1), w_Fk G (B0 2) (h 2), w_Fk G (B0 3) (h 3), w_Fk G (B0 4) (h 4), w_Fk G (B0 5) (h 5), w_Fk G (B0 6) (h 6), w_Fk G (B0 7) (h 7), w_Fk G a1 q]) (lv' := [some (.ref (a0 0)), some (.ref (a1 0))]) (pc' := 44) (st' := [.int (Hi_size y)]) (by decide +kernel) rfl rfl ⟨trivial, ⟨rfl, rfl, zw_2_18⟩, trivial⟩ ?_
        obtain rfl := Option.some.inj hf
        refine zr_group (WW2 := [w_Hi G a0 B0 y, w_H8 G B0 h, w_Fk G a1 q]) rfl ?_
        exact zr_iret (b0 := fun _ => 0) (by decide +kernel) rfl rfl rfl rfl rfl
      · rw [hj] at hf
        obtain ⟨q, eq, hf⟩ := zbi_of hf
        refine zr_aaldF (b := 0) (c' := 1) (v := .ref (B0 3 0)) rfl rfl rfl h1 (by rw [hj]; rfl) (by decide +kernel) ?_
        refine zr_callV (c_X1_copy l G a1 (B0 3) s1 (h 3) q eq) (WW' := fun _ => [w_Hi G a0 B0 y, w_Fk G (B0 0) (h 0), w_Fk G (B0 1) (h 1), w_Fk G (B0 2) (h 2), w_Fk G (B0 3) (h 3), w_Fk G (B0 4) (h 4), w_Fk G (B0 5) (h 5), w_Fk G (B0 6) (h 6), w_Fk G (B0 7) (h 7), w_Fk G a1 q]) (st := []) (st' := []) [9, 4] rfl rfl (fun _ => Nat.le_of_ble_eq_true rfl) (fun _ => rfl) rfl rfl nm_X1_copy zw_3_201 zw_3_178 zw_3_179 zw_1_8 zw_3_180 rfl rfl rfl (Nat.le_of_ble_eq_true rfl) ⟨Nat.le_of_ble_eq_true rfl, Nat.le_of_ble_eq_true rfl⟩ (by decide +kernel) (fun _ => ?_)
        refine zr_run [(.aload_n 0, 0, 0, 0, .null), (.getfield 21, 0, 0, 2, .null)] [] (WW' := [w_Hi G a0 B0 y, w_Fk G (B0 0) (h 0), w_Fk G (B0 1) (h 1), w_Fk G (B0 2) (h 2), w_Fk G (B0 3) (h 3), w_Fk G (B0 4) (h 4), w_Fk G (B0 5) (h 5), w_Fk G (B0 6) (h 6), w_Fk G (B0 7) (h 7), w_Fk G a1 q]) (lv' := [some (.ref (a0 0)), some (.ref (a1 0))]) (pc' := 44) (st' := [.int (Hi_size y)]) (by decide +kernel) rfl rfl ⟨trivial, ⟨rfl, rfl, zw_2_18⟩, trivial⟩ ?_
        obtain rfl := Option.some.inj hf
        refine zr_group (WW2 := [w_Hi G a0 B0 y, w_H8 G B0 h, w_Fk G a1 q]) rfl ?_
        exact zr_iret (b0 := fun _ => 0) (by decide +kernel) rfl rfl rfl rfl rfl
      · rw [hj] at hf
        obtain ⟨q, eq, hf⟩ := zbi_of hf
        refine zr_aaldF (b := 0) (c' := 1) (v := .ref (B0 4 0)) rfl rfl rfl h1 (by rw [hj]; rfl) (by decide +kernel) ?_
        refine zr_callV (c_X1_copy l G a1 (B0 4) s1 (h 4) q eq) (WW' := fun _ => [w_Hi G a0 B0 y, w_Fk G (B0 0) (h 0), w_Fk G (B0 1) (h 1), w_Fk G (B0 2) (h 2), w_Fk G (B0 3) (h 3), w_Fk G (B0 4) (h 4), w_Fk G (B0 5) (h 5), w_Fk G (B0 6) (h 6), w_Fk G (B0 7) (h 7), w_Fk G a1 q]) (st := []) (st' := []) [9, 5] rfl rfl (fun _ => Nat.le_of_ble_eq_true rfl) (fun _ => rfl) rfl rfl nm_X1_copy zw_3_201 zw_3_178 zw_3_179 zw_1_8 zw_3_180 rfl rfl rfl (Nat.le_of_ble_eq_true rfl) ⟨Nat.le_of_ble_eq_true rfl, Nat.le_of_ble_eq_true rfl⟩ (by decide +kernel) (fun _ => ?_)
        refine zr_run [(.aload_n 0, 0, 0, 0, .null), (.getfield 21, 0, 0, 2, .null)] [] (WW' := [w_Hi G a0 B0 y, w_Fk G (B0 0) (h 0), w_Fk G (B0 1) (h 1), w_Fk G (B0 2) (h 2), w_Fk G (B0 3) (h 3), w_Fk G (B0 4) (h 4), w_Fk G (B0 5) (h 5), w_Fk G (B0 6) (h 6), w_Fk G (B0 7) (h 7), w_Fk G a1 q]) (lv' := [some (.ref (a0 0)), some (.ref (a1 0))]) (pc' := 44) (st' := [.int (Hi_size y)]) (by decide +kernel) rfl rfl ⟨trivial, ⟨rfl, rfl, zw_2_18⟩, trivial⟩ ?_
        obtain rfl := Option.some.inj hf
        refine zr_group (WW2 := [w_Hi G a0 B0 y, w_H8 G B0 h, w_Fk G a1 q]) rfl ?_
        exact zr_iret (b0 := fun _ => 0) (by decide +kernel) rfl rfl rfl rfl rfl
      · rw [hj] at hf
        obtain ⟨q, eq, hf⟩ := zbi_of hf
        refine zr_aaldF (b := 0) (c' := 1) (v := .ref (B0 5 0)) rfl rfl rfl h1 (by rw [hj]; rfl) (by decide +kernel) ?_
        refine zr_callV (c_X1_copy l G a1 (B0 5) s1 (h 5) q eq) (WW' := fun _ => [w_Hi G a0 B0 y, w_Fk G (B0 0) (h 0), w_Fk G (B0 1) (h 1), w_Fk G (B0 2) (h 2), w_Fk G (B0 3) (h 3), w_Fk G (B0 4) (h 4), w_Fk G (B0 5) (h 5), w_Fk G (B0 6) (h 6), w_Fk G (B0 7) (h 7), w_Fk G a1 q]) (st := []) (st' := []) [9, 6] rfl rfl (fun _ => Nat.le_of_ble_eq_true rfl) (fun _ => rfl) rfl rfl nm_X1_copy zw_3_201 zw_3_178 zw_3_179 zw_1_8 zw_3_180 rfl rfl rfl (Nat.le_of_ble_eq_true rfl) ⟨Nat.le_of_ble_eq_true rfl, Nat.le_of_ble_eq_true rfl⟩ (by decide +kernel) (fun _ => ?_)
        refine zr_run [(.aload_n 0, 0, 0, 0, .null), (.getfield 21, 0, 0, 2, .null)] [] (WW' := [w_Hi G a0 B0 y, w_Fk G (B0 0) (h 0), w_Fk G (B0 1) (h 1), w_Fk G (B0 2) (h 2), w_Fk G (B0 3) (h 3), w_Fk G (B0 4) (h 4), w_Fk G (B0 5) (h 5), w_Fk G (B0 6) (h 6), w_Fk G (B0 7) (h 7), w_Fk G a1 q]) (lv' := [some (.ref (a0 0)), some (.ref (a1 0))]) (pc' := 44) (st' := [.int (Hi_size y)]) (by decide +kernel) rfl rfl ⟨trivial, ⟨rfl, rfl, zw_2_18⟩, trivial⟩ ?_
        obtain rfl := Option.some.inj hf
        refine zr_group (WW2 := [w_Hi G a0 B0 y, w_H8 G B0 h, w_Fk G a1 q]) rfl ?_
        exact zr_iret (b0 := fun _ => 0) (by decide +kernel) rfl rfl rfl rfl rfl
      · rw [hj] at hf
        obtain ⟨q, eq, hf⟩ := zbi_of hf
        refine zr_aaldF (b := 0) (c' := 1) (v := .ref (B0 6 0)) rfl rfl rfl h1 (by rw [hj]; rfl) (by decide +kernel) ?_
        refine zr_callV (c_X1_copy l G a1 (B0 6) s1 (h 6) q eq) (WW' := fun _ => [w_Hi G a0 B0 y, w_Fk G (B0 0) (h 0), w_Fk G (B0 1) (h 1), w_Fk G (B0 2) (h 2), w_Fk G (B0 3) (h 3), w_Fk G (B0 4) (h 4), w_Fk G (B0 5) (h 5), w_Fk G (B0 6) (h 6), w_Fk G (B0 7) (h 7), w_Fk G a1 q]) (st := []) (st' := []) [9, 7] rfl rfl (fun _ => Nat.le_of_ble_eq_true rfl) (fun _ => rfl) rfl rfl nm_X1_copy zw_3_201 zw_3_178 zw_3_179 zw_1_8 zw_3_180 rfl rfl rfl (Nat.le_of_ble_eq_true rfl) ⟨Nat.le_of_ble_eq_true rfl, Nat.le_of_ble_eq_true rfl⟩ (by decide +kernel) (fun _ => ?_)
        refine zr_run [(.aload_n 0, 0, 0, 0, .null), (.getfield 21, 0, 0, 2, .null)] [] (WW' := [w_Hi G a0 B0 y, w_Fk G (B0 0) (h 0), w_Fk G (B0 1) (h 1), w_Fk G (B0 2) (h 2), w_Fk G (B0 3) (h 3), w_Fk G (B0 4) (h 4), w_Fk G (B0 5) (h 5), w_Fk G (B0 6) (h 6), w_Fk G (B0 7) (h 7), w_Fk G a1 q]) (lv' := [some (.ref (a0 0)), some (.ref (a1 0))]) (pc' := 44) (st' := [.int (Hi_size y)]) (by decide +kernel) rfl rfl ⟨trivial, ⟨rfl, rfl, zw_2_18⟩, trivial⟩ ?_
        obtain rfl := Option.some.inj hf
        refine zr_group (WW2 := [w_Hi G a0 B0 y, w_H8 G B0 h, w_Fk G a1 q]) rfl ?_
        exact zr_iret (b0 := fun _ => 0) (by decide +kernel) rfl rfl rfl rfl rfl
      · rw [hj] at hf
        obtain ⟨q, eq, hf⟩ := zbi_of hf
        refine zr_aaldF (b := 0) (c' := 1) (v := .ref (B0 7 0)) rfl rfl rfl h1 (by rw [hj]; rfl) (by decide +kernel) ?_
        refine zr_callV (c_X1_copy l G a1 (B0 7) s1 (h 7) q eq) (WW' := fun _ => [w_Hi G a0 B0 y, w_Fk G (B0 0) (h 0), w_Fk G (B0 1) (h 1), w_Fk G (B0 2) (h 2), w_Fk G (B0 3) (h 3), w_Fk G (B0 4) (h 4), w_Fk G (B0 5) (h 5), w_Fk G (B0 6) (h 6), w_Fk G (B0 7) (h 7), w_Fk G a1 q]) (st := []) (st' := []) [9, 8] rfl rfl (fun _ => Nat.le_of_ble_eq_true rfl) (fun _ => rfl) rfl rfl nm_X1_copy zw_3_201 zw_3_178 zw_3_179 zw_1_8 zw_3_180 rfl rfl rfl (Nat.le_of_ble_eq_true rfl) ⟨Nat.le_of_ble_eq_true rfl, Nat.le_of_ble_eq_true rfl⟩ (by decide +kernel) (fun _ => ?_)
        refine zr_run [(.aload_n 0, 0, 0, 0, .null), (.getfield 21, 0, 0, 2, .null)] [] (WW' := [w_Hi G a0 B0 y, w_Fk G (B0 0) (h 0), w_Fk G (B0 1) (h 1), w_Fk G (B0 2) (h 2), w_Fk G (B0 3) (h 3), w_Fk G (B0 4) (h 4), w_Fk G (B0 5) (h 5), w_Fk G (B0 6) (h 6), w_Fk G (B0 7) (h 7), w_Fk G a1 q]) (lv' := [some (.ref (a0 0)), some (.ref (a1 0))]) (pc' := 44) (st' := [.int (Hi_size y)]) (by decide +kernel) rfl rfl ⟨trivial, ⟨rfl, rfl, zw_2_18⟩, trivial⟩ ?_
        obtain rfl := Option.some.inj hf
        refine zr_group (WW2 := [w_Hi G a0 B0 y, w_H8 G B0 h, w_Fk G a1 q]) rfl ?_
        exact zr_iret (b0 := fun _ => 0) (by decide +kernel) rfl rfl rfl rfl rfl
  exact zj_entry [some (.ref (a0 0)), some (.ref (a1 0))] (by decide +kernel) rfl (by decide) (Nat.le_of_ble_eq_true rfl) rfl rfl (key _)
