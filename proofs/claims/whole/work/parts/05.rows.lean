section
variable {l : Launch} {G : zj_G} {M : zj_M} {W0 : List va_W} {Φ : zj_F} {k n : Nat} {WW : List va_W} {lv : List (Option Value)} {pc : Nat} {st : List Value}
/-- an index within -/
def zb_in (i : Int32) (n : Nat) : Bool := decide (¬ i < 0) && decide (i.toNatClampNeg < n)
theorem zb_in_of {i : Int32} {n : Nat} (h : zb_in i n = true) : vp_in i n := by
  simp only [zb_in, Bool.and_eq_true, decide_eq_true_eq] at h
  exact fun q => q.elim h.1 (fun q => by omega)
def zb_nz (x : Int32) : Bool := !decide (x = 0)
def zb_nzl (x : Int64) : Bool := !decide (x = 0)
theorem zb_nz_of {x : Int32} (h : zb_nz x = true) : ¬ x = 0 := by simpa [zb_nz] using h
theorem zb_nzl_of {x : Int64} (h : zb_nzl x = true) : ¬ x = 0 := by simpa [zb_nzl] using h
/-- a boolean -/
def zb_bo (x : Int32) : Bool := decide (x = 0) || decide (x = 1)
theorem zb_bo_of {x : Int32} (h : zb_bo x = true) : x = 0 ∨ x = 1 := by simpa [zb_bo] using h
theorem zb_bo_nar {x : Int32} (h : zb_bo x = true) : narrow .boolean (.int x) = .int x := by
  rcases zb_bo_of h with rfl | rfl <;> decide +kernel
theorem zb_bo_fit {x : Int32} (h : zb_bo x = true) : fits .boolean (.int x) = true := by
  rcases zb_bo_of h with rfl | rfl <;> decide +kernel
def zr_rem (x y : Int32) : Int32 := x - x / y * y
def zr_reml (x y : Int64) : Int64 := x - x / y * y
def zr_shl (x y : Int32) : Int32 := x <<< (y &&& 31)
def zr_shr (x y : Int32) : Int32 := x >>> (y &&& 31)
def zr_ushr (x y : Int32) : Int32 := (x.toUInt32 >>> (y.toUInt32 &&& Int32.toUInt32 31)).toInt32
def zr_ushrl (x : Int64) (y : Int32) : Int64 := (x.toUInt64 >>> (y.toInt64.toUInt64 &&& Int64.toUInt64 63)).toInt64
theorem zr_iload_n {i : Fin 4} {x : Int32} (hi : zj_n lv i.val = some (some (.int x))) (hd : decode M.2.1 pc = .ok (.iload_n i, 1)) (kk : zj_J l G M W0 Φ k n WW (lv) (pc + 1) (.int x :: st)) : zj_J l G M W0 Φ k n WW lv pc (st) := by
  intro p e s m args below meth c H locs ls C hP hD hS hl
  exact lv_iload_n C.1 C.2.1 hd rfl (hl.at hi) (kk p e s m args below meth c H locs ls C hP hD hS hl)
theorem zr_iload {i : Nat} {x : Int32} (hi : zj_n lv i = some (some (.int x))) (hd : decode M.2.1 pc = .ok (.iload i, 2)) (kk : zj_J l G M W0 Φ k n WW (lv) (pc + 2) (.int x :: st)) : zj_J l G M W0 Φ k n WW lv pc (st) := by
  intro p e s m args below meth c H locs ls C hP hD hS hl
  exact lv_iload C.1 C.2.1 hd (hl.at hi) (kk p e s m args below meth c H locs ls C hP hD hS hl)
theorem zr_lload_n {i : Fin 4} {x : Int64} (hi : zj_n lv i.val = some (some (.long x))) (hd : decode M.2.1 pc = .ok (.lload_n i, 1)) (kk : zj_J l G M W0 Φ k n WW (lv) (pc + 1) (.long x :: st)) : zj_J l G M W0 Φ k n WW lv pc (st) := by
  intro p e s m args below meth c H locs ls C hP hD hS hl
  exact lv_lload_n C.1 C.2.1 hd rfl (hl.at hi) (kk p e s m args below meth c H locs ls C hP hD hS hl)
theorem zr_lload {i : Nat} {x : Int64} (hi : zj_n lv i = some (some (.long x))) (hd : decode M.2.1 pc = .ok (.lload i, 2)) (kk : zj_J l G M W0 Φ k n WW (lv) (pc + 2) (.long x :: st)) : zj_J l G M W0 Φ k n WW lv pc (st) := by
  intro p e s m args below meth c H locs ls C hP hD hS hl
  exact lv_lload C.1 C.2.1 hd (hl.at hi) (kk p e s m args below meth c H locs ls C hP hD hS hl)
theorem zr_aload_n {i : Fin 4} {x : Nat} (hi : zj_n lv i.val = some (some (.ref x))) (hd : decode M.2.1 pc = .ok (.aload_n i, 1)) (kk : zj_J l G M W0 Φ k n WW (lv) (pc + 1) (.ref x :: st)) : zj_J l G M W0 Φ k n WW lv pc (st) := by
  intro p e s m args below meth c H locs ls C hP hD hS hl
  exact lv_aload_n C.1 C.2.1 hd rfl (hl.at hi) (kk p e s m args below meth c H locs ls C hP hD hS hl)
theorem zr_aload {i : Nat} {x : Nat} (hi : zj_n lv i = some (some (.ref x))) (hd : decode M.2.1 pc = .ok (.aload i, 2)) (kk : zj_J l G M W0 Φ k n WW (lv) (pc + 2) (.ref x :: st)) : zj_J l G M W0 Φ k n WW lv pc (st) := by
  intro p e s m args below meth c H locs ls C hP hD hS hl
  exact lv_aload C.1 C.2.1 hd (hl.at hi) (kk p e s m args below meth c H locs ls C hP hD hS hl)
theorem zr_aload_nN {i : Fin 4} (hi : zj_n lv i.val = some (some .null)) (hd : decode M.2.1 pc = .ok (.aload_n i, 1)) (kk : zj_J l G M W0 Φ k n WW (lv) (pc + 1) (.null :: st)) : zj_J l G M W0 Φ k n WW lv pc (st) := by
  intro p e s m args below meth c H locs ls C hP hD hS hl
  exact lv_aload_nN C.1 C.2.1 hd rfl (hl.at hi) (kk p e s m args below meth c H locs ls C hP hD hS hl)
theorem zr_aloadN {i : Nat} (hi : zj_n lv i = some (some .null)) (hd : decode M.2.1 pc = .ok (.aload i, 2)) (kk : zj_J l G M W0 Φ k n WW (lv) (pc + 2) (.null :: st)) : zj_J l G M W0 Φ k n WW lv pc (st) := by
  intro p e s m args below meth c H locs ls C hP hD hS hl
  exact lv_aloadN C.1 C.2.1 hd (hl.at hi) (kk p e s m args below meth c H locs ls C hP hD hS hl)
theorem zr_istore_n {i : Fin 4} {x : Int32} {o : Option Value} (hi : zj_n lv i.val = some o) (hd : decode M.2.1 pc = .ok (.istore_n i, 1)) (kk : zj_J l G M W0 Φ k n WW (zj_st1 lv i.val (.int x)) (pc + 1) (st)) : zj_J l G M W0 Φ k n WW lv pc (.int x :: st) := by
  intro p e s m args below meth c H locs ls C hP hD hS hl
  exact lv_istore_n C.1 C.2.1 hd rfl hl.1 (hl.2 ▸ zj_n_lt hi) rfl (fun ls2 hl2 => kk p e s m args below meth c H locs ls2 C hP hD hS (zj_L.st1 hl.2 hl2))
theorem zr_istore {i : Nat} {x : Int32} {o : Option Value} (hi : zj_n lv i = some o) (hd : decode M.2.1 pc = .ok (.istore i, 2)) (kk : zj_J l G M W0 Φ k n WW (zj_st1 lv i (.int x)) (pc + 2) (st)) : zj_J l G M W0 Φ k n WW lv pc (.int x :: st) := by
  intro p e s m args below meth c H locs ls C hP hD hS hl
  exact lv_istore C.1 C.2.1 hd hl.1 (hl.2 ▸ zj_n_lt hi) rfl (fun ls2 hl2 => kk p e s m args below meth c H locs ls2 C hP hD hS (zj_L.st1 hl.2 hl2))
theorem zr_astore_n {i : Fin 4} {x : Nat} {o : Option Value} (hi : zj_n lv i.val = some o) (hd : decode M.2.1 pc = .ok (.astore_n i, 1)) (kk : zj_J l G M W0 Φ k n WW (zj_st1 lv i.val (.ref x)) (pc + 1) (st)) : zj_J l G M W0 Φ k n WW lv pc (.ref x :: st) := by
  intro p e s m args below meth c H locs ls C hP hD hS hl
  exact lv_astore_n C.1 C.2.1 hd rfl hl.1 (hl.2 ▸ zj_n_lt hi) rfl (fun ls2 hl2 => kk p e s m args below meth c H locs ls2 C hP hD hS (zj_L.st1 hl.2 hl2))
theorem zr_astore {i : Nat} {x : Nat} {o : Option Value} (hi : zj_n lv i = some o) (hd : decode M.2.1 pc = .ok (.astore i, 2)) (kk : zj_J l G M W0 Φ k n WW (zj_st1 lv i (.ref x)) (pc + 2) (st)) : zj_J l G M W0 Φ k n WW lv pc (.ref x :: st) := by
  intro p e s m args below meth c H locs ls C hP hD hS hl
  exact lv_astore C.1 C.2.1 hd hl.1 (hl.2 ▸ zj_n_lt hi) rfl (fun ls2 hl2 => kk p e s m args below meth c H locs ls2 C hP hD hS (zj_L.st1 hl.2 hl2))
theorem zr_lstore_n {i : Fin 4} {x : Int64} {o : Option Value} (hi : zj_n lv (i.val + 1) = some o) (hd : decode M.2.1 pc = .ok (.lstore_n i, 1)) (kk : zj_J l G M W0 Φ k n WW (zj_st2 lv i.val (.long x)) (pc + 1) (st)) : zj_J l G M W0 Φ k n WW lv pc (.long x :: st) := by
  intro p e s m args below meth c H locs ls C hP hD hS hl
  exact lv_lstore_n C.1 C.2.1 hd rfl hl.1 (hl.2 ▸ zj_n_lt hi) rfl (fun ls2 hl2 => kk p e s m args below meth c H locs ls2 C hP hD hS (zj_L.st2 hl.2 hl2))
theorem zr_lstore {i : Nat} {x : Int64} {o : Option Value} (hi : zj_n lv (i + 1) = some o) (hd : decode M.2.1 pc = .ok (.lstore i, 2)) (kk : zj_J l G M W0 Φ k n WW (zj_st2 lv i (.long x)) (pc + 2) (st)) : zj_J l G M W0 Φ k n WW lv pc (.long x :: st) := by
  intro p e s m args below meth c H locs ls C hP hD hS hl
  exact lv_lstore C.1 C.2.1 hd hl.1 (hl.2 ▸ zj_n_lt hi) rfl (fun ls2 hl2 => kk p e s m args below meth c H locs ls2 C hP hD hS (zj_L.st2 hl.2 hl2))
theorem zr_astore_nN {i : Fin 4} {o : Option Value} (hi : zj_n lv i.val = some o) (hd : decode M.2.1 pc = .ok (.astore_n i, 1)) (kk : zj_J l G M W0 Φ k n WW (zj_st1 lv i.val .null) (pc + 1) (st)) : zj_J l G M W0 Φ k n WW lv pc (.null :: st) := by
  intro p e s m args below meth c H locs ls C hP hD hS hl
  exact lv_astore_nN C.1 C.2.1 hd rfl hl.1 (hl.2 ▸ zj_n_lt hi) rfl (fun ls2 hl2 => kk p e s m args below meth c H locs ls2 C hP hD hS (zj_L.st1 hl.2 hl2))
theorem zr_iconst {i : Int} {v : Int32} (hv : Int32.ofInt i = v) (hd : decode M.2.1 pc = .ok (.iconst i, 1)) (kk : zj_J l G M W0 Φ k n WW (lv) (pc + 1) (.int v :: st)) : zj_J l G M W0 Φ k n WW lv pc (st) := by
  intro p e s m args below meth c H locs ls C hP hD hS hl
  exact lv_iconst C.1 C.2.1 hd hv (kk p e s m args below meth c H locs ls C hP hD hS hl)
theorem zr_bipush {i : Int} {v : Int32} (hv : (Int8.ofInt i).toInt32 = v) (hd : decode M.2.1 pc = .ok (.bipush i, 2)) (kk : zj_J l G M W0 Φ k n WW (lv) (pc + 2) (.int v :: st)) : zj_J l G M W0 Φ k n WW lv pc (st) := by
  intro p e s m args below meth c H locs ls C hP hD hS hl
  exact lv_bipush C.1 C.2.1 hd hv (kk p e s m args below meth c H locs ls C hP hD hS hl)
theorem zr_sipush {i : Int} {v : Int32} (hv : (Int16.ofInt i).toInt32 = v) (hd : decode M.2.1 pc = .ok (.sipush i, 3)) (kk : zj_J l G M W0 Φ k n WW (lv) (pc + 3) (.int v :: st)) : zj_J l G M W0 Φ k n WW lv pc (st) := by
  intro p e s m args below meth c H locs ls C hP hD hS hl
  exact lv_sipush C.1 C.2.1 hd hv (kk p e s m args below meth c H locs ls C hP hD hS hl)
theorem zr_lconst {i : Fin 2} {v : Int64} (hv : Int64.ofNat (i : Nat) = v) (hd : decode M.2.1 pc = .ok (.lconst i, 1)) (kk : zj_J l G M W0 Φ k n WW (lv) (pc + 1) (.long v :: st)) : zj_J l G M W0 Φ k n WW lv pc (st) := by
  intro p e s m args below meth c H locs ls C hP hD hS hl
  exact lv_lconst C.1 C.2.1 hd hv (kk p e s m args below meth c H locs ls C hP hD hS hl)
theorem zr_null  (hd : decode M.2.1 pc = .ok (.aconst_null, 1)) (kk : zj_J l G M W0 Φ k n WW (lv) (pc + 1) (.null :: st)) : zj_J l G M W0 Φ k n WW lv pc (st) := by
  intro p e s m args below meth c H locs ls C hP hD hS hl
  exact lv_null C.1 C.2.1 hd (kk p e s m args below meth c H locs ls C hP hD hS hl)
theorem zr_iadd {x y : Int32} (hd : decode M.2.1 pc = .ok (.iadd, 1)) (kk : zj_J l G M W0 Φ k n WW (lv) (pc + 1) (.int (x + y) :: st)) : zj_J l G M W0 Φ k n WW lv pc (.int y :: .int x :: st) := by
  intro p e s m args below meth c H locs ls C hP hD hS hl
  exact lv_iadd C.1 C.2.1 hd (kk p e s m args below meth c H locs ls C hP hD hS hl)
theorem zr_isub {x y : Int32} (hd : decode M.2.1 pc = .ok (.isub, 1)) (kk : zj_J l G M W0 Φ k n WW (lv) (pc + 1) (.int (x - y) :: st)) : zj_J l G M W0 Φ k n WW lv pc (.int y :: .int x :: st) := by
  intro p e s m args below meth c H locs ls C hP hD hS hl
  exact lv_isub C.1 C.2.1 hd (kk p e s m args below meth c H locs ls C hP hD hS hl)
theorem zr_imul {x y : Int32} (hd : decode M.2.1 pc = .ok (.imul, 1)) (kk : zj_J l G M W0 Φ k n WW (lv) (pc + 1) (.int (x * y) :: st)) : zj_J l G M W0 Φ k n WW lv pc (.int y :: .int x :: st) := by
  intro p e s m args below meth c H locs ls C hP hD hS hl
  exact lv_imul C.1 C.2.1 hd (kk p e s m args below meth c H locs ls C hP hD hS hl)
theorem zr_iand {x y : Int32} (hd : decode M.2.1 pc = .ok (.iand, 1)) (kk : zj_J l G M W0 Φ k n WW (lv) (pc + 1) (.int (x &&& y) :: st)) : zj_J l G M W0 Φ k n WW lv pc (.int y :: .int x :: st) := by
  intro p e s m args below meth c H locs ls C hP hD hS hl
  exact lv_iand C.1 C.2.1 hd (kk p e s m args below meth c H locs ls C hP hD hS hl)
theorem zr_ior {x y : Int32} (hd : decode M.2.1 pc = .ok (.ior, 1)) (kk : zj_J l G M W0 Φ k n WW (lv) (pc + 1) (.int (x ||| y) :: st)) : zj_J l G M W0 Φ k n WW lv pc (.int y :: .int x :: st) := by
  intro p e s m args below meth c H locs ls C hP hD hS hl
  exact lv_ior C.1 C.2.1 hd (kk p e s m args below meth c H locs ls C hP hD hS hl)
theorem zr_ixor {x y : Int32} (hd : decode M.2.1 pc = .ok (.ixor, 1)) (kk : zj_J l G M W0 Φ k n WW (lv) (pc + 1) (.int (x ^^^ y) :: st)) : zj_J l G M W0 Φ k n WW lv pc (.int y :: .int x :: st) := by
  intro p e s m args below meth c H locs ls C hP hD hS hl
  exact lv_ixor C.1 C.2.1 hd (kk p e s m args below meth c H locs ls C hP hD hS hl)
theorem zr_ishl {x y : Int32} (hd : decode M.2.1 pc = .ok (.ishl, 1)) (kk : zj_J l G M W0 Φ k n WW (lv) (pc + 1) (.int (zr_shl x y) :: st)) : zj_J l G M W0 Φ k n WW lv pc (.int y :: .int x :: st) := by
  intro p e s m args below meth c H locs ls C hP hD hS hl
  exact lv_ishl C.1 C.2.1 hd (kk p e s m args below meth c H locs ls C hP hD hS hl)
theorem zr_ishr {x y : Int32} (hd : decode M.2.1 pc = .ok (.ishr, 1)) (kk : zj_J l G M W0 Φ k n WW (lv) (pc + 1) (.int (zr_shr x y) :: st)) : zj_J l G M W0 Φ k n WW lv pc (.int y :: .int x :: st) := by
  intro p e s m args below meth c H locs ls C hP hD hS hl
  exact lv_ishr C.1 C.2.1 hd (kk p e s m args below meth c H locs ls C hP hD hS hl)
theorem zr_iushr {x y : Int32} (hd : decode M.2.1 pc = .ok (.iushr, 1)) (kk : zj_J l G M W0 Φ k n WW (lv) (pc + 1) (.int (zr_ushr x y) :: st)) : zj_J l G M W0 Φ k n WW lv pc (.int y :: .int x :: st) := by
  intro p e s m args below meth c H locs ls C hP hD hS hl
  exact lv_iushr C.1 C.2.1 hd rfl (kk p e s m args below meth c H locs ls C hP hD hS hl)
theorem zr_lushr {x : Int64} {y : Int32} (hd : decode M.2.1 pc = .ok (.lushr, 1)) (kk : zj_J l G M W0 Φ k n WW (lv) (pc + 1) (.long (zr_ushrl x y) :: st)) : zj_J l G M W0 Φ k n WW lv pc (.int y :: .long x :: st) := by
  intro p e s m args below meth c H locs ls C hP hD hS hl
  exact lv_lushr C.1 C.2.1 hd rfl (kk p e s m args below meth c H locs ls C hP hD hS hl)
theorem zr_idiv {x y : Int32} (hz : zb_nz y = true) (hd : decode M.2.1 pc = .ok (.idiv, 1)) (kk : zj_J l G M W0 Φ k n WW (lv) (pc + 1) (.int (x / y) :: st)) : zj_J l G M W0 Φ k n WW lv pc (.int y :: .int x :: st) := by
  intro p e s m args below meth c H locs ls C hP hD hS hl
  exact lv_idiv C.1 C.2.1 hd (zb_nz_of hz) (kk p e s m args below meth c H locs ls C hP hD hS hl)
theorem zr_irem {x y : Int32} (hz : zb_nz y = true) (hd : decode M.2.1 pc = .ok (.irem, 1)) (kk : zj_J l G M W0 Φ k n WW (lv) (pc + 1) (.int (zr_rem x y) :: st)) : zj_J l G M W0 Φ k n WW lv pc (.int y :: .int x :: st) := by
  intro p e s m args below meth c H locs ls C hP hD hS hl
  exact lv_irem C.1 C.2.1 hd (zb_nz_of hz) (kk p e s m args below meth c H locs ls C hP hD hS hl)
theorem zr_ineg {x : Int32} (hd : decode M.2.1 pc = .ok (.ineg, 1)) (kk : zj_J l G M W0 Φ k n WW (lv) (pc + 1) (.int (-x) :: st)) : zj_J l G M W0 Φ k n WW lv pc (.int x :: st) := by
  intro p e s m args below meth c H locs ls C hP hD hS hl
  exact lv_ineg C.1 C.2.1 hd (kk p e s m args below meth c H locs ls C hP hD hS hl)
theorem zr_ladd {x y : Int64} (hd : decode M.2.1 pc = .ok (.ladd, 1)) (kk : zj_J l G M W0 Φ k n WW (lv) (pc + 1) (.long (x + y) :: st)) : zj_J l G M W0 Φ k n WW lv pc (.long y :: .long x :: st) := by
  intro p e s m args below meth c H locs ls C hP hD hS hl
  exact lv_ladd C.1 C.2.1 hd (kk p e s m args below meth c H locs ls C hP hD hS hl)
theorem zr_lsub {x y : Int64} (hd : decode M.2.1 pc = .ok (.lsub, 1)) (kk : zj_J l G M W0 Φ k n WW (lv) (pc + 1) (.long (x - y) :: st)) : zj_J l G M W0 Φ k n WW lv pc (.long y :: .long x :: st) := by
  intro p e s m args below meth c H locs ls C hP hD hS hl
  exact lv_lsub C.1 C.2.1 hd (kk p e s m args below meth c H locs ls C hP hD hS hl)
theorem zr_lmul {x y : Int64} (hd : decode M.2.1 pc = .ok (.lmul, 1)) (kk : zj_J l G M W0 Φ k n WW (lv) (pc + 1) (.long (x * y) :: st)) : zj_J l G M W0 Φ k n WW lv pc (.long y :: .long x :: st) := by
  intro p e s m args below meth c H locs ls C hP hD hS hl
  exact lv_lmul C.1 C.2.1 hd (kk p e s m args below meth c H locs ls C hP hD hS hl)
theorem zr_land {x y : Int64} (hd : decode M.2.1 pc = .ok (.land, 1)) (kk : zj_J l G M W0 Φ k n WW (lv) (pc + 1) (.long (x &&& y) :: st)) : zj_J l G M W0 Φ k n WW lv pc (.long y :: .long x :: st) := by
  intro p e s m args below meth c H locs ls C hP hD hS hl
  exact lv_land C.1 C.2.1 hd (kk p e s m args below meth c H locs ls C hP hD hS hl)
theorem zr_lor {x y : Int64} (hd : decode M.2.1 pc = .ok (.lor, 1)) (kk : zj_J l G M W0 Φ k n WW (lv) (pc + 1) (.long (x ||| y) :: st)) : zj_J l G M W0 Φ k n WW lv pc (.long y :: .long x :: st) := by
  intro p e s m args below meth c H locs ls C hP hD hS hl
  exact lv_lor C.1 C.2.1 hd (kk p e s m args below meth c H locs ls C hP hD hS hl)
theorem zr_ldiv {x y : Int64} (hz : zb_nzl y = true) (hd : decode M.2.1 pc = .ok (.ldiv, 1)) (kk : zj_J l G M W0 Φ k n WW (lv) (pc + 1) (.long (x / y) :: st)) : zj_J l G M W0 Φ k n WW lv pc (.long y :: .long x :: st) := by
  intro p e s m args below meth c H locs ls C hP hD hS hl
  exact lv_ldiv C.1 C.2.1 hd (zb_nzl_of hz) (kk p e s m args below meth c H locs ls C hP hD hS hl)
theorem zr_lrem {x y : Int64} (hz : zb_nzl y = true) (hd : decode M.2.1 pc = .ok (.lrem, 1)) (kk : zj_J l G M W0 Φ k n WW (lv) (pc + 1) (.long (zr_reml x y) :: st)) : zj_J l G M W0 Φ k n WW lv pc (.long y :: .long x :: st) := by
  intro p e s m args below meth c H locs ls C hP hD hS hl
  exact lv_lrem C.1 C.2.1 hd (zb_nzl_of hz) (kk p e s m args below meth c H locs ls C hP hD hS hl)
theorem zr_i2l {x : Int32} (hd : decode M.2.1 pc = .ok (.i2l, 1)) (kk : zj_J l G M W0 Φ k n WW (lv) (pc + 1) (.long x.toInt64 :: st)) : zj_J l G M W0 Φ k n WW lv pc (.int x :: st) := by
  intro p e s m args below meth c H locs ls C hP hD hS hl
  exact lv_i2l C.1 C.2.1 hd rfl (kk p e s m args below meth c H locs ls C hP hD hS hl)
theorem zr_l2i {x : Int64} (hd : decode M.2.1 pc = .ok (.l2i, 1)) (kk : zj_J l G M W0 Φ k n WW (lv) (pc + 1) (.int x.toInt32 :: st)) : zj_J l G M W0 Φ k n WW lv pc (.long x :: st) := by
  intro p e s m args below meth c H locs ls C hP hD hS hl
  exact lv_l2i C.1 C.2.1 hd rfl (kk p e s m args below meth c H locs ls C hP hD hS hl)
theorem zr_i2b {x : Int32} (hd : decode M.2.1 pc = .ok (.i2b, 1)) (kk : zj_J l G M W0 Φ k n WW (lv) (pc + 1) (.int x.toInt8.toInt32 :: st)) : zj_J l G M W0 Φ k n WW lv pc (.int x :: st) := by
  intro p e s m args below meth c H locs ls C hP hD hS hl
  exact lv_i2b C.1 C.2.1 hd rfl (kk p e s m args below meth c H locs ls C hP hD hS hl)
theorem zr_lcmp {x y : Int64} (hd : decode M.2.1 pc = .ok (.lcmp, 1)) (kk : zj_J l G M W0 Φ k n WW (lv) (pc + 1) (.int (lg_cmp x y) :: st)) : zj_J l G M W0 Φ k n WW lv pc (.long y :: .long x :: st) := by
  intro p e s m args below meth c H locs ls C hP hD hS hl
  exact W.lcmp C.1 C.2.1 hd (kk p e s m args below meth c H locs ls C hP hD hS hl)
theorem zr_dup {v : Value} (hv : v.category = 1) (hd : decode M.2.1 pc = .ok (.dup, 1)) (kk : zj_J l G M W0 Φ k n WW (lv) (pc + 1) (v :: v :: st)) : zj_J l G M W0 Φ k n WW lv pc (v :: st) := by
  intro p e s m args below meth c H locs ls C hP hD hS hl
  exact lv_dup C.1 C.2.1 hd hv (kk p e s m args below meth c H locs ls C hP hD hS hl)
theorem zr_pop {v : Value} (hv : v.category = 1) (hd : decode M.2.1 pc = .ok (.pop, 1)) (kk : zj_J l G M W0 Φ k n WW (lv) (pc + 1) (st)) : zj_J l G M W0 Φ k n WW lv pc (v :: st) := by
  intro p e s m args below meth c H locs ls C hP hD hS hl
  exact lv_pop C.1 C.2.1 hd hv (kk p e s m args below meth c H locs ls C hP hD hS hl)
theorem zr_dup2_11 {v u : Value} (hv : v.category = 1) (hu : u.category = 1) (hd : decode M.2.1 pc = .ok (.dup2, 1)) (kk : zj_J l G M W0 Φ k n WW (lv) (pc + 1) (v :: u :: v :: u :: st)) : zj_J l G M W0 Φ k n WW lv pc (v :: u :: st) := by
  intro p e s m args below meth c H locs ls C hP hD hS hl
  exact lv_dup2_11 C.1 C.2.1 hd hv hu (kk p e s m args below meth c H locs ls C hP hD hS hl)
theorem zr_dup2_2 {v : Value} (hv : v.category = 2) (hd : decode M.2.1 pc = .ok (.dup2, 1)) (kk : zj_J l G M W0 Φ k n WW (lv) (pc + 1) (v :: v :: st)) : zj_J l G M W0 Φ k n WW lv pc (v :: st) := by
  intro p e s m args below meth c H locs ls C hP hD hS hl
  exact lv_dup2_2 C.1 C.2.1 hd hv (kk p e s m args below meth c H locs ls C hP hD hS hl)
theorem zr_iinc {i : Nat} {a : Int} {x d : Int32} (hi : zj_n lv i = some (some (.int x))) (hv : Int32.ofInt a = d) (hd : decode M.2.1 pc = .ok (.iinc i a, 3)) (kk : zj_J l G M W0 Φ k n WW (zj_st1 lv i (.int (x + d))) (pc + 3) (st)) : zj_J l G M W0 Φ k n WW lv pc (st) := by
  intro p e s m args below meth c H locs ls C hP hD hS hl
  obtain ⟨j, hj⟩ := List.getElem?_of_mem ((zj_as_mem lv 0 i (.int x)).mpr ⟨i, by omega, hi⟩)
  exact lv_iinc C.1 C.2.1 hd hl.1 hj (v := x + d) (by rw [hv]) (hl.2 ▸ zj_n_lt hi) rfl (fun ls2 hl2 => kk p e s m args below meth c H locs ls2 C hP hD hS (zj_L.st1 hl.2 hl2))
theorem zr_ldc {i : Nat} {v : Int32} (hw : Cond.constant M.1 i v ∈ zT) (hd : decode M.2.1 pc = .ok (.ldc i, 2)) (kk : zj_J l G M W0 Φ k n WW (lv) (pc + 2) (.int v :: st)) : zj_J l G M W0 Φ k n WW lv pc (st) := by
  intro p e s m args below meth c H locs ls C hP hD hS hl
  exact lv_ldc C.1 C.2.1 C.2.2.2.2.1 (C.2.2.2.2.2.1 _ hw) hd (kk p e s m args below meth c H locs ls C hP hD hS hl)
theorem zr_ldc_w {i : Nat} {v : Int32} (hw : Cond.constant M.1 i v ∈ zT) (hd : decode M.2.1 pc = .ok (.ldc_w i, 3)) (kk : zj_J l G M W0 Φ k n WW (lv) (pc + 3) (.int v :: st)) : zj_J l G M W0 Φ k n WW lv pc (st) := by
  intro p e s m args below meth c H locs ls C hP hD hS hl
  exact lv_ldcw C.1 C.2.1 C.2.2.2.2.1 (C.2.2.2.2.2.1 _ hw) hd (kk p e s m args below meth c H locs ls C hP hD hS hl)
theorem zr_ldc2 {i : Nat} {v : Int64} (hw : Cond.constantLong M.1 i v ∈ zT) (hd : decode M.2.1 pc = .ok (.ldc2_w i, 3)) (kk : zj_J l G M W0 Φ k n WW (lv) (pc + 3) (.long v :: st)) : zj_J l G M W0 Φ k n WW lv pc (st) := by
  intro p e s m args below meth c H locs ls C hP hD hS hl
  exact lv_ldc2 C.1 C.2.1 C.2.2.2.2.1 (C.2.2.2.2.2.1 _ hw) hd (kk p e s m args below meth c H locs ls C hP hD hS hl)
theorem zr_if_eq {x : Int32} {off : Int} {tgt : Nat} (hd : decode M.2.1 pc = .ok (.ifCond .eq off, 3)) (ht : (pc : Int) + off = (tgt : Int)) (k1 : (x = 0) → zj_J l G M W0 Φ k n WW lv tgt st) (k2 : ¬ (x = 0) → zj_J l G M W0 Φ k n WW lv (pc + 3) st) : zj_J l G M W0 Φ k n WW lv pc (.int x :: st) := by
  intro p e s m args below meth c H locs ls C hP hD hS hl
  exact lv_if_eq C.1 C.2.1 hd ht (fun q => k1 (by simpa using q) p e s m args below meth c H locs ls C hP hD hS hl) (fun q => k2 (by simpa using q) p e s m args below meth c H locs ls C hP hD hS hl)
theorem zr_if_lt {x : Int32} {off : Int} {tgt : Nat} (hd : decode M.2.1 pc = .ok (.ifCond .lt off, 3)) (ht : (pc : Int) + off = (tgt : Int)) (k1 : (x < 0) → zj_J l G M W0 Φ k n WW lv tgt st) (k2 : ¬ (x < 0) → zj_J l G M W0 Φ k n WW lv (pc + 3) st) : zj_J l G M W0 Φ k n WW lv pc (.int x :: st) := by
  intro p e s m args below meth c H locs ls C hP hD hS hl
  exact lv_if_lt C.1 C.2.1 hd ht (fun q => k1 (by simpa using q) p e s m args below meth c H locs ls C hP hD hS hl) (fun q => k2 (by simpa using q) p e s m args below meth c H locs ls C hP hD hS hl)
theorem zr_if_gt {x : Int32} {off : Int} {tgt : Nat} (hd : decode M.2.1 pc = .ok (.ifCond .gt off, 3)) (ht : (pc : Int) + off = (tgt : Int)) (k1 : (0 < x) → zj_J l G M W0 Φ k n WW lv tgt st) (k2 : ¬ (0 < x) → zj_J l G M W0 Φ k n WW lv (pc + 3) st) : zj_J l G M W0 Φ k n WW lv pc (.int x :: st) := by
  intro p e s m args below meth c H locs ls C hP hD hS hl
  exact lv_if_gt C.1 C.2.1 hd ht (fun q => k1 (by simpa using q) p e s m args below meth c H locs ls C hP hD hS hl) (fun q => k2 (by simpa using q) p e s m args below meth c H locs ls C hP hD hS hl)
theorem zr_if_ne {x : Int32} {off : Int} {tgt : Nat} (hd : decode M.2.1 pc = .ok (.ifCond .ne off, 3)) (ht : (pc : Int) + off = (tgt : Int)) (k1 : (x = 0) → zj_J l G M W0 Φ k n WW lv (pc + 3) st) (k2 : ¬ (x = 0) → zj_J l G M W0 Φ k n WW lv tgt st) : zj_J l G M W0 Φ k n WW lv pc (.int x :: st) := by
  intro p e s m args below meth c H locs ls C hP hD hS hl
  exact lv_if_ne C.1 C.2.1 hd ht (fun q => k2 (by simpa using q) p e s m args below meth c H locs ls C hP hD hS hl) (fun q => k1 (by simpa using q) p e s m args below meth c H locs ls C hP hD hS hl)
theorem zr_if_ge {x : Int32} {off : Int} {tgt : Nat} (hd : decode M.2.1 pc = .ok (.ifCond .ge off, 3)) (ht : (pc : Int) + off = (tgt : Int)) (k1 : (x < 0) → zj_J l G M W0 Φ k n WW lv (pc + 3) st) (k2 : ¬ (x < 0) → zj_J l G M W0 Φ k n WW lv tgt st) : zj_J l G M W0 Φ k n WW lv pc (.int x :: st) := by
  intro p e s m args below meth c H locs ls C hP hD hS hl
  exact lv_if_ge C.1 C.2.1 hd ht (fun q => k2 (by simpa using q) p e s m args below meth c H locs ls C hP hD hS hl) (fun q => k1 (by simpa using q) p e s m args below meth c H locs ls C hP hD hS hl)
theorem zr_if_le {x : Int32} {off : Int} {tgt : Nat} (hd : decode M.2.1 pc = .ok (.ifCond .le off, 3)) (ht : (pc : Int) + off = (tgt : Int)) (k1 : (0 < x) → zj_J l G M W0 Φ k n WW lv (pc + 3) st) (k2 : ¬ (0 < x) → zj_J l G M W0 Φ k n WW lv tgt st) : zj_J l G M W0 Φ k n WW lv pc (.int x :: st) := by
  intro p e s m args below meth c H locs ls C hP hD hS hl
  exact lv_if_le C.1 C.2.1 hd ht (fun q => k2 (by simpa using q) p e s m args below meth c H locs ls C hP hD hS hl) (fun q => k1 (by simpa using q) p e s m args below meth c H locs ls C hP hD hS hl)
theorem zr_icmp_eq {x y : Int32} {off : Int} {tgt : Nat} (hd : decode M.2.1 pc = .ok (.if_icmp .eq off, 3)) (ht : (pc : Int) + off = (tgt : Int)) (k1 : (x = y) → zj_J l G M W0 Φ k n WW lv tgt st) (k2 : ¬ (x = y) → zj_J l G M W0 Φ k n WW lv (pc + 3) st) : zj_J l G M W0 Φ k n WW lv pc (.int y :: .int x :: st) := by
  intro p e s m args below meth c H locs ls C hP hD hS hl
  exact lv_icmp_eq C.1 C.2.1 hd ht (fun q => k1 (by simpa using q) p e s m args below meth c H locs ls C hP hD hS hl) (fun q => k2 (by simpa using q) p e s m args below meth c H locs ls C hP hD hS hl)
theorem zr_icmp_lt {x y : Int32} {off : Int} {tgt : Nat} (hd : decode M.2.1 pc = .ok (.if_icmp .lt off, 3)) (ht : (pc : Int) + off = (tgt : Int)) (k1 : (x < y) → zj_J l G M W0 Φ k n WW lv tgt st) (k2 : ¬ (x < y) → zj_J l G M W0 Φ k n WW lv (pc + 3) st) : zj_J l G M W0 Φ k n WW lv pc (.int y :: .int x :: st) := by
  intro p e s m args below meth c H locs ls C hP hD hS hl
  exact lv_icmp_lt C.1 C.2.1 hd ht (fun q => k1 (by simpa using q) p e s m args below meth c H locs ls C hP hD hS hl) (fun q => k2 (by simpa using q) p e s m args below meth c H locs ls C hP hD hS hl)
theorem zr_icmp_gt {x y : Int32} {off : Int} {tgt : Nat} (hd : decode M.2.1 pc = .ok (.if_icmp .gt off, 3)) (ht : (pc : Int) + off = (tgt : Int)) (k1 : (y < x) → zj_J l G M W0 Φ k n WW lv tgt st) (k2 : ¬ (y < x) → zj_J l G M W0 Φ k n WW lv (pc + 3) st) : zj_J l G M W0 Φ k n WW lv pc (.int y :: .int x :: st) := by
  intro p e s m args below meth c H locs ls C hP hD hS hl
  exact lv_icmp_gt C.1 C.2.1 hd ht (fun q => k1 (by simpa using q) p e s m args below meth c H locs ls C hP hD hS hl) (fun q => k2 (by simpa using q) p e s m args below meth c H locs ls C hP hD hS hl)
theorem zr_icmp_ne {x y : Int32} {off : Int} {tgt : Nat} (hd : decode M.2.1 pc = .ok (.if_icmp .ne off, 3)) (ht : (pc : Int) + off = (tgt : Int)) (k1 : (x = y) → zj_J l G M W0 Φ k n WW lv (pc + 3) st) (k2 : ¬ (x = y) → zj_J l G M W0 Φ k n WW lv tgt st) : zj_J l G M W0 Φ k n WW lv pc (.int y :: .int x :: st) := by
  intro p e s m args below meth c H locs ls C hP hD hS hl
  exact lv_icmp_ne C.1 C.2.1 hd ht (fun q => k2 (by simpa using q) p e s m args below meth c H locs ls C hP hD hS hl) (fun q => k1 (by simpa using q) p e s m args below meth c H locs ls C hP hD hS hl)
theorem zr_icmp_ge {x y : Int32} {off : Int} {tgt : Nat} (hd : decode M.2.1 pc = .ok (.if_icmp .ge off, 3)) (ht : (pc : Int) + off = (tgt : Int)) (k1 : (x < y) → zj_J l G M W0 Φ k n WW lv (pc + 3) st) (k2 : ¬ (x < y) → zj_J l G M W0 Φ k n WW lv tgt st) : zj_J l G M W0 Φ k n WW lv pc (.int y :: .int x :: st) := by
  intro p e s m args below meth c H locs ls C hP hD hS hl
  exact lv_icmp_ge C.1 C.2.1 hd ht (fun q => k2 (by simpa using q) p e s m args below meth c H locs ls C hP hD hS hl) (fun q => k1 (by simpa using q) p e s m args below meth c H locs ls C hP hD hS hl)
theorem zr_icmp_le {x y : Int32} {off : Int} {tgt : Nat} (hd : decode M.2.1 pc = .ok (.if_icmp .le off, 3)) (ht : (pc : Int) + off = (tgt : Int)) (k1 : (y < x) → zj_J l G M W0 Φ k n WW lv (pc + 3) st) (k2 : ¬ (y < x) → zj_J l G M W0 Φ k n WW lv tgt st) : zj_J l G M W0 Φ k n WW lv pc (.int y :: .int x :: st) := by
  intro p e s m args below meth c H locs ls C hP hD hS hl
  exact lv_icmp_le C.1 C.2.1 hd ht (fun q => k2 (by simpa using q) p e s m args below meth c H locs ls C hP hD hS hl) (fun q => k1 (by simpa using q) p e s m args below meth c H locs ls C hP hD hS hl)
theorem zr_goto {off : Int} {tgt : Nat} (hd : decode M.2.1 pc = .ok (.goto off, 3)) (ht : (pc : Int) + off = (tgt : Int)) (kk : zj_J l G M W0 Φ k n WW lv tgt st) : zj_J l G M W0 Φ k n WW lv pc st := by
  intro p e s m args below meth c H locs ls C hP hD hS hl
  exact lv_goto C.1 C.2.1 hd ht (kk p e s m args below meth c H locs ls C hP hD hS hl)
theorem zr_drop (ds : List Nat) (kk : zj_J l G M W0 Φ k n WW (zj_drop lv ds) pc st) : zj_J l G M W0 Φ k n WW lv pc st := by
  intro p e s m args below meth c H locs ls C hP hD hS hl
  exact kk p e s m args below meth c H locs ls C hP hD hS (hl.drop ds)
theorem zr_widen {k2 n2 : Nat} (h1 : k ≤ k2) (h2 : n ≤ n2) (kk : zj_J l G M W0 Φ k2 n2 WW lv pc st) : zj_J l G M W0 Φ k n WW lv pc st := by
  intro p e s m args below meth c H locs ls C hP hD hS hl
  exact W.widen h1 h2 (kk p e s m args below meth c H locs ls C hP hD hS hl)
theorem zr_ifnull {off : Int} {a : Nat} (hd : decode M.2.1 pc = .ok (.ifnull off, 3)) (kk : zj_J l G M W0 Φ k n WW lv (pc + 3) st) : zj_J l G M W0 Φ k n WW lv pc (.ref a :: st) := by
  intro p e s m args below meth c H locs ls C hP hD hS hl
  exact lv_ifnull C.1 C.2.1 hd (kk p e s m args below meth c H locs ls C hP hD hS hl)
theorem zr_ifnullN {off : Int} {tgt : Nat} (hd : decode M.2.1 pc = .ok (.ifnull off, 3)) (ht : (pc : Int) + off = (tgt : Int)) (kk : zj_J l G M W0 Φ k n WW lv tgt st) : zj_J l G M W0 Φ k n WW lv pc (.null :: st) := by
  intro p e s m args below meth c H locs ls C hP hD hS hl
  exact lv_ifnullN C.1 C.2.1 hd ht (kk p e s m args below meth c H locs ls C hP hD hS hl)
theorem zr_ifnonnull {off : Int} {tgt a : Nat} (hd : decode M.2.1 pc = .ok (.ifnonnull off, 3)) (ht : (pc : Int) + off = (tgt : Int)) (kk : zj_J l G M W0 Φ k n WW lv tgt st) : zj_J l G M W0 Φ k n WW lv pc (.ref a :: st) := by
  intro p e s m args below meth c H locs ls C hP hD hS hl
  exact lv_ifnonnull C.1 C.2.1 hd ht (kk p e s m args below meth c H locs ls C hP hD hS hl)
theorem zr_ifnonnullN {off : Int} (hd : decode M.2.1 pc = .ok (.ifnonnull off, 3)) (kk : zj_J l G M W0 Φ k n WW lv (pc + 3) st) : zj_J l G M W0 Φ k n WW lv pc (.null :: st) := by
  intro p e s m args below meth c H locs ls C hP hD hS hl
  exact lv_ifnonnullN C.1 C.2.1 hd (kk p e s m args below meth c H locs ls C hP hD hS hl)
theorem zr_tabIn {dflt lo hi : Int} {offs : Array Int} {len : Nat} {x v : Int32} {off : Int} {tgt : Nat} (hx : x = v) (hd : decode M.2.1 pc = .ok (.tableswitch dflt lo hi offs, len)) (h1 : (decide (lo ≤ v.toInt) && decide (v.toInt ≤ hi)) = true) (ho : offs[(v.toInt - lo).toNat]? = some off) (ht : (pc : Int) + off = (tgt : Int)) (kk : zj_J l G M W0 Φ k n WW lv tgt st) : zj_J l G M W0 Φ k n WW lv pc (.int x :: st) := by
  intro p e s m args below meth c H locs ls C hP hD hS hl
  subst hx
  simp only [Bool.and_eq_true, decide_eq_true_eq] at h1
  exact lv_tableIn C.1 C.2.1 hd (by omega) (by omega) ho ht (kk p e s m args below meth c H locs ls C hP hD hS hl)
theorem zr_tabOut {dflt lo hi : Int} {offs : Array Int} {len : Nat} {x : Int32} {tgt : Nat} (hd : decode M.2.1 pc = .ok (.tableswitch dflt lo hi offs, len)) (h : x.toInt < lo ∨ hi < x.toInt) (ht : (pc : Int) + dflt = (tgt : Int)) (kk : zj_J l G M W0 Φ k n WW lv tgt st) : zj_J l G M W0 Φ k n WW lv pc (.int x :: st) := by
  intro p e s m args below meth c H locs ls C hP hD hS hl
  exact lv_tableOut C.1 C.2.1 hd h ht (kk p e s m args below meth c H locs ls C hP hD hS hl)
theorem zr_look {dflt : Int} {ps : Array (Int × Int)} {len : Nat} {x : Int32} {off : Int} {tgt : Nat} (hd : decode M.2.1 pc = .ok (.lookupswitch dflt ps, len)) (hp : (ps.toList.zip (ps.toList.drop 1)).all (fun (a, next) => a.1 < next.1) = true) (ho : Op.lookupswitch.offset ps.toList dflt x.toInt = off) (ht : (pc : Int) + off = (tgt : Int)) (kk : zj_J l G M W0 Φ k n WW lv tgt st) : zj_J l G M W0 Φ k n WW lv pc (.int x :: st) := by
  intro p e s m args below meth c H locs ls C hP hD hS hl
  exact lv_lookup C.1 C.2.1 hd hp ho ht (kk p e s m args below meth c H locs ls C hP hD hS hl)
/-! fields -/
def zj_vty : List (Nat → FieldType) := [tyX0, tyX1, tyX2, tyX3, tyX4, tyX5, tyX6, tyX7, tyX8, tyX9, tyX10, tyX11, tyX12]
theorem zj_vty_ok : ∀ (ci : Nat) (C : vw_C) (t : Nat → FieldType), zj_n vwCl ci = some C → zj_n zj_vty ci = some t → (∀ j, j < C.2.2 → parseFieldDescriptor (C.2.1 j).2.2.1 = some (t j)) ∧ (∀ a, a < C.2.2 → ∀ b, b < C.2.2 → a ≠ b → (C.2.1 a).2.1 ≠ (C.2.1 b).2.1) := by
  intro ci C t h1 h2
  match ci with

  | 0 => simp only [vwCl, zj_vty, zj_n, Option.some.injEq] at h1 h2; subst h1; subst h2; exact ⟨tyX0_ok, nmX0⟩
  | 1 => simp only [vwCl, zj_vty, zj_n, Option.some.injEq] at h1 h2; subst h1; subst h2; exact ⟨tyX1_ok, nmX1⟩
  | 2 => simp only [vwCl, zj_vty, zj_n, Option.some.injEq] at h1 h2; subst h1; subst h2; exact ⟨tyX2_ok, nmX2⟩
  | 3 => simp only [vwCl, zj_vty, zj_n, Option.some.injEq] at h1 h2; subst h1; subst h2; exact ⟨tyX3_ok, nmX3⟩
  | 4 => simp only [vwCl, zj_vty, zj_n, Option.some.injEq] at h1 h2; subst h1; subst h2; exact ⟨tyX4_ok, nmX4⟩
  | 5 => simp only [vwCl, zj_vty, zj_n, Option.some.injEq] at h1 h2; subst h1; subst h2; exact ⟨tyX5_ok, nmX5⟩
  | 6 => simp only [vwCl, zj_vty, zj_n, Option.some.injEq] at h1 h2; subst h1; subst h2; exact ⟨tyX6_ok, nmX6⟩
  | 7 => simp only [vwCl, zj_vty, zj_n, Option.some.injEq] at h1 h2; subst h1; subst h2; exact ⟨tyX7_ok, nmX7⟩
  | 8 => simp only [vwCl, zj_vty, zj_n, Option.some.injEq] at h1 h2; subst h1; subst h2; exact ⟨tyX8_ok, nmX8⟩
  | 9 => simp only [vwCl, zj_vty, zj_n, Option.some.injEq] at h1 h2; subst h1; subst h2; exact ⟨tyX9_ok, nmX9⟩
  | 10 => simp only [vwCl, zj_vty, zj_n, Option.some.injEq] at h1 h2; subst h1; subst h2; exact ⟨tyX10_ok, nmX10⟩
  | 11 => simp only [vwCl, zj_vty, zj_n, Option.some.injEq] at h1 h2; subst h1; subst h2; exact ⟨tyX11_ok, nmX11⟩
  | 12 => simp only [vwCl, zj_vty, zj_n, Option.some.injEq] at h1 h2; subst h1; subst h2; exact ⟨tyX12_ok, nmX12⟩
  | n + 13 => simp [vwCl, zj_n] at h1
theorem zj_lays : ∀ (ci : Nat) (C : vw_C), zj_n vwCl ci = some C → ∀ w ∈ u_ws C.1 C.2.1 C.2.2, w ∈ zT := by
  intro ci C h1
  match ci with
  | 0 => simp only [vwCl, zj_n, Option.some.injEq] at h1; subst h1; exact (show ∀ w ∈ u_ws RX0 TX0 4, w ∈ zT from List.forall_mem_cons.mpr ⟨zw_2_104, List.forall_mem_cons.mpr ⟨zw_2_106, List.forall_mem_cons.mpr ⟨zw_2_108, List.forall_mem_cons.mpr ⟨zw_2_110, List.forall_mem_nil _⟩⟩⟩⟩)
  | 1 => simp only [vwCl, zj_n, Option.some.injEq] at h1; subst h1; exact (show ∀ w ∈ u_ws RX1 TX1 3, w ∈ zT from List.forall_mem_cons.mpr ⟨zw_1_217, List.forall_mem_cons.mpr ⟨zw_1_219, List.forall_mem_cons.mpr ⟨zw_1_221, List.forall_mem_nil _⟩⟩⟩)
  | 2 => simp only [vwCl, zj_n, Option.some.injEq] at h1; subst h1; exact (show ∀ w ∈ u_ws RX2 TX2 3, w ∈ zT from List.forall_mem_cons.mpr ⟨zw_2_19, List.forall_mem_cons.mpr ⟨zw_2_21, List.forall_mem_cons.mpr ⟨zw_2_23, List.forall_mem_nil _⟩⟩⟩)
  | 3 => simp only [vwCl, zj_n, Option.some.injEq] at h1; subst h1; exact (show ∀ w ∈ u_ws RX3 TX3 14, w ∈ zT from List.forall_mem_cons.mpr ⟨zw_1_178, List.forall_mem_cons.mpr ⟨zw_1_180, List.forall_mem_cons.mpr ⟨zw_1_182, List.forall_mem_cons.mpr ⟨zw_1_184, List.forall_mem_cons.mpr ⟨zw_1_186, List.forall_mem_cons.mpr ⟨zw_1_188, List.forall_mem_cons.mpr ⟨zw_1_190, List.forall_mem_cons.mpr ⟨zw_1_192, List.forall_mem_cons.mpr ⟨zw_1_194, List.forall_mem_cons.mpr ⟨zw_1_196, List.forall_mem_cons.mpr ⟨zw_1_198, List.forall_mem_cons.mpr ⟨zw_1_200, List.forall_mem_cons.mpr ⟨zw_1_202, List.forall_mem_cons.mpr ⟨zw_1_204, List.forall_mem_nil _⟩⟩⟩⟩⟩⟩⟩⟩⟩⟩⟩⟩⟩⟩)
  | 4 => simp only [vwCl, zj_n, Option.some.injEq] at h1; subst h1; exact (show ∀ w ∈ u_ws RX4 TX4 4, w ∈ zT from List.forall_mem_cons.mpr ⟨zw_2_40, List.forall_mem_cons.mpr ⟨zw_2_42, List.forall_mem_cons.mpr ⟨zw_2_44, List.forall_mem_cons.mpr ⟨zw_2_46, List.forall_mem_nil _⟩⟩⟩⟩)
  | 5 => simp only [vwCl, zj_n, Option.some.injEq] at h1; subst h1; exact (show ∀ w ∈ u_ws RX5 TX5 5, w ∈ zT from List.forall_mem_cons.mpr ⟨zw_1_236, List.forall_mem_cons.mpr ⟨zw_1_238, List.forall_mem_cons.mpr ⟨zw_2_0, List.forall_mem_cons.mpr ⟨zw_2_2, List.forall_mem_cons.mpr ⟨zw_2_4, List.forall_mem_nil _⟩⟩⟩⟩⟩)
  | 6 => simp only [vwCl, zj_n, Option.some.injEq] at h1; subst h1; exact (show ∀ w ∈ u_ws RX6 TX6 5, w ∈ zT from List.forall_mem_cons.mpr ⟨zw_2_65, List.forall_mem_cons.mpr ⟨zw_2_67, List.forall_mem_cons.mpr ⟨zw_2_69, List.forall_mem_cons.mpr ⟨zw_2_71, List.forall_mem_cons.mpr ⟨zw_2_73, List.forall_mem_nil _⟩⟩⟩⟩⟩)
  | 7 => simp only [vwCl, zj_n, Option.some.injEq] at h1; subst h1; exact (show ∀ w ∈ u_ws RX7 TX7 13, w ∈ zT from List.forall_mem_cons.mpr ⟨zw_1_117, List.forall_mem_cons.mpr ⟨zw_1_119, List.forall_mem_cons.mpr ⟨zw_1_121, List.forall_mem_cons.mpr ⟨zw_1_123, List.forall_mem_cons.mpr ⟨zw_1_125, List.forall_mem_cons.mpr ⟨zw_1_127, List.forall_mem_cons.mpr ⟨zw_1_129, List.forall_mem_cons.mpr ⟨zw_1_131, List.forall_mem_cons.mpr ⟨zw_1_133, List.forall_mem_cons.mpr ⟨zw_1_135, List.forall_mem_cons.mpr ⟨zw_1_137, List.forall_mem_cons.mpr ⟨zw_1_139, List.forall_mem_cons.mpr ⟨zw_1_141, List.forall_mem_nil _⟩⟩⟩⟩⟩⟩⟩⟩⟩⟩⟩⟩⟩)
  | 8 => simp only [vwCl, zj_n, Option.some.injEq] at h1; subst h1; exact (show ∀ w ∈ u_ws RX8 TX8 2, w ∈ zT from List.forall_mem_cons.mpr ⟨zw_2_123, List.forall_mem_cons.mpr ⟨zw_2_125, List.forall_mem_nil _⟩⟩)
  | 9 => simp only [vwCl, zj_n, Option.some.injEq] at h1; subst h1; exact (show ∀ w ∈ u_ws RX9 TX9 3, w ∈ zT from List.forall_mem_cons.mpr ⟨zw_2_86, List.forall_mem_cons.mpr ⟨zw_2_88, List.forall_mem_cons.mpr ⟨zw_2_90, List.forall_mem_nil _⟩⟩⟩)
  | 10 => simp only [vwCl, zj_n, Option.some.injEq] at h1; subst h1; exact (show ∀ w ∈ u_ws RX10 TX10 4, w ∈ zT from List.forall_mem_cons.mpr ⟨zw_2_140, List.forall_mem_cons.mpr ⟨zw_2_142, List.forall_mem_cons.mpr ⟨zw_2_144, List.forall_mem_cons.mpr ⟨zw_2_146, List.forall_mem_nil _⟩⟩⟩⟩)
  | 11 => simp only [vwCl, zj_n, Option.some.injEq] at h1; subst h1; exact (show ∀ w ∈ u_ws RX11 TX11 19, w ∈ zT from List.forall_mem_cons.mpr ⟨zw_2_168, List.forall_mem_cons.mpr ⟨zw_2_170, List.forall_mem_cons.mpr ⟨zw_2_172, List.forall_mem_cons.mpr ⟨zw_2_174, List.forall_mem_cons.mpr ⟨zw_2_176, List.forall_mem_cons.mpr ⟨zw_2_178, List.forall_mem_cons.mpr ⟨zw_2_180, List.forall_mem_cons.mpr ⟨zw_2_182, List.forall_mem_cons.mpr ⟨zw_2_184, List.forall_mem_cons.mpr ⟨zw_2_186, List.forall_mem_cons.mpr ⟨zw_2_188, List.forall_mem_cons.mpr ⟨zw_2_190, List.forall_mem_cons.mpr ⟨zw_2_192, List.forall_mem_cons.mpr ⟨zw_2_194, List.forall_mem_cons.mpr ⟨zw_2_196, List.forall_mem_cons.mpr ⟨zw_2_198, List.forall_mem_cons.mpr ⟨zw_2_200, List.forall_mem_cons.mpr ⟨zw_2_202, List.forall_mem_cons.mpr ⟨zw_2_204, List.forall_mem_nil _⟩⟩⟩⟩⟩⟩⟩⟩⟩⟩⟩⟩⟩⟩⟩⟩⟩⟩⟩)
  | 12 => simp only [vwCl, zj_n, Option.some.injEq] at h1; subst h1; exact (show ∀ w ∈ u_ws RX12 TX12 54, w ∈ zT from List.forall_mem_cons.mpr ⟨zw_6_83, List.forall_mem_cons.mpr ⟨zw_6_85, List.forall_mem_cons.mpr ⟨zw_6_87, List.forall_mem_cons.mpr ⟨zw_6_89, List.forall_mem_cons.mpr ⟨zw_6_91, List.forall_mem_cons.mpr ⟨zw_6_93, List.forall_mem_cons.mpr ⟨zw_6_95, List.forall_mem_cons.mpr ⟨zw_6_97, List.forall_mem_cons.mpr ⟨zw_6_99, List.forall_mem_cons.mpr ⟨zw_6_101, List.forall_mem_cons.mpr ⟨zw_6_103, List.forall_mem_cons.mpr ⟨zw_6_105, List.forall_mem_cons.mpr ⟨zw_6_107, List.forall_mem_cons.mpr ⟨zw_6_109, List.forall_mem_cons.mpr ⟨zw_6_111, List.forall_mem_cons.mpr ⟨zw_6_113, List.forall_mem_cons.mpr ⟨zw_6_115, List.forall_mem_cons.mpr ⟨zw_6_117, List.forall_mem_cons.mpr ⟨zw_6_119, List.forall_mem_cons.mpr ⟨zw_6_121, List.forall_mem_cons.mpr ⟨zw_6_123, List.forall_mem_cons.mpr ⟨zw_6_125, List.forall_mem_cons.mpr ⟨zw_6_127, List.forall_mem_cons.mpr ⟨zw_6_129, List.forall_mem_cons.mpr ⟨zw_6_131, List.forall_mem_cons.mpr ⟨zw_6_133, List.forall_mem_cons.mpr ⟨zw_6_135, List.forall_mem_cons.mpr ⟨zw_6_137, List.forall_mem_cons.mpr ⟨zw_6_139, List.forall_mem_cons.mpr ⟨zw_6_141, List.forall_mem_cons.mpr ⟨zw_6_143, List.forall_mem_cons.mpr ⟨zw_6_145, List.forall_mem_cons.mpr ⟨zw_6_147, List.forall_mem_cons.mpr ⟨zw_6_149, List.forall_mem_cons.mpr ⟨zw_6_151, List.forall_mem_cons.mpr ⟨zw_6_153, List.forall_mem_cons.mpr ⟨zw_6_155, List.forall_mem_cons.mpr ⟨zw_6_157, List.forall_mem_cons.mpr ⟨zw_6_159, List.forall_mem_cons.mpr ⟨zw_6_161, List.forall_mem_cons.mpr ⟨zw_6_163, List.forall_mem_cons.mpr ⟨zw_6_165, List.forall_mem_cons.mpr ⟨zw_6_167, List.forall_mem_cons.mpr ⟨zw_6_169, List.forall_mem_cons.mpr ⟨zw_6_171, List.forall_mem_cons.mpr ⟨zw_6_173, List.forall_mem_cons.mpr ⟨zw_6_175, List.forall_mem_cons.mpr ⟨zw_6_177, List.forall_mem_cons.mpr ⟨zw_6_179, List.forall_mem_cons.mpr ⟨zw_6_181, List.forall_mem_cons.mpr ⟨zw_6_183, List.forall_mem_cons.mpr ⟨zw_6_185, List.forall_mem_cons.mpr ⟨zw_6_187, List.forall_mem_cons.mpr ⟨zw_6_189, List.forall_mem_nil _⟩⟩⟩⟩⟩⟩⟩⟩⟩⟩⟩⟩⟩⟩⟩⟩⟩⟩⟩⟩⟩⟩⟩⟩⟩⟩⟩⟩⟩⟩⟩⟩⟩⟩⟩⟩⟩⟩⟩⟩⟩⟩⟩⟩⟩⟩⟩⟩⟩⟩⟩⟩⟩⟩)
  | n + 13 => simp [vwCl, zj_n] at h1
theorem zr_getf {i b c' j a a' ci : Nat} {fs : List Value} {Cl : vw_C} {v : Value} (hc : zj_c WW b c' = some (a', .inr (ci, fs))) (hC : zj_n vwCl ci = some Cl) (hv : zj_n fs j = some v) (ha : a = a') (hj : Nat.blt j Cl.2.2 = true) (hw : Cond.fieldLink M.1 i (Cl.2.1 j).1 (Cl.2.1 j).2.1 (Cl.2.1 j).2.2.1 ∈ zT) (hd : decode M.2.1 pc = .ok (.getfield i, 3)) (kk : zj_J l G M W0 Φ k n WW lv (pc + 3) (v :: st)) : zj_J l G M W0 Φ k n WW lv pc (.ref a :: st) := by
  intro p e s m args below meth c H locs ls C hP hD hS hl
  subst ha
  obtain ⟨C1, T1, N1⟩ := Cl
  have hcl : vwCl[ci]? = some (C1, T1, N1) := by rw [← zj_n_eq]; exact hC
  exact va_get (own := M.1) C.1 C.2.1 C.2.2.2.2.2.1 (zj_lays ci _ hC) C.2.2.2.2.1 C.2.2.2.2.2.2.1.K hP (zj_off WW b + c') (zj_flat_at WW b c' hc) hcl j (Nat.blt_eq.mp hj) (C.2.2.2.2.2.1 _ hw) (fun _ h => h) (by rw [← zj_n_eq]; exact hv) hd (kk p e s m args below meth c H locs ls C hP hD hS hl)
theorem zr_putf {i b c' j a a' ci : Nat} {fs : List Value} {Cl : vw_C} {t : Nat → FieldType} {v : Value} (hc : zj_c WW b c' = some (a', .inr (ci, fs))) (hC : zj_n vwCl ci = some Cl) (ht : zj_n zj_vty ci = some t) (ha : a = a') (hj : Nat.blt j Cl.2.2 = true) (hj2 : Nat.blt j fs.length = true) (hf : (Cl.2.1 j).2.2.2 = false) (hn : narrow (t j) v = v) (hfit : fits (t j) v = true) (hw : Cond.fieldLink M.1 i (Cl.2.1 j).1 (Cl.2.1 j).2.1 (Cl.2.1 j).2.2.1 ∈ zT) (hd : decode M.2.1 pc = .ok (.putfield i, 3)) (kk : zj_J l G M W0 Φ k n (zj_set WW b c' (a', .inr (ci, fs.set j v))) lv (pc + 3) st) : zj_J l G M W0 Φ k n WW lv pc (v :: .ref a :: st) := by
  intro p e s m args below meth c H locs ls C hP hD hS hl
  subst ha
  obtain ⟨ht1, ht2⟩ := zj_vty_ok ci Cl t hC ht
  obtain ⟨C1, T1, N1⟩ := Cl
  have hcl : vwCl[ci]? = some (C1, T1, N1) := by rw [← zj_n_eq]; exact hC
  have hjj : j < N1 := Nat.blt_eq.mp hj
  refine va_put (own := M.1) C.1 C.2.1 C.2.2.2.2.2.1 (zj_lays ci _ hC) t ht1 ht2 C.2.2.2.2.1 C.2.2.2.2.2.2.1.K hP hD hS (zj_off WW b + c') (zj_flat_at WW b c' hc) hcl j hjj (C.2.2.2.2.2.1 _ hw) (fun _ h => h) hf (ht1 j hjj) hn hfit (Nat.blt_eq.mp hj2) hd (fun H1 locs1 hP1 hD1 hS1 => ?_)
  rw [zj_flat_set WW b c' _ hc] at hP1 hD1
  exact kk p e s m args below meth c H1 locs1 ls C hP1 hD1 hS1 hl
theorem zr_putF {i b c' j a a' ci : Nat} {fs : List Value} {Cl : vw_C} {t : Nat → FieldType} {v : Value} (hc : zj_c WW b c' = some (a', .inr (ci, fs))) (hC : zj_n vwCl ci = some Cl) (ht : zj_n zj_vty ci = some t) (ha : a = a') (hj : Nat.blt j Cl.2.2 = true) (hj2 : Nat.blt j fs.length = true) (hf : (Cl.2.1 j).2.2.2 = true) (hi : M.2.2.2.2.2 = true) (ho : (Cl.2.1 j).1 = M.1) (hn : narrow (t j) v = v) (hfit : fits (t j) v = true) (hw : Cond.fieldLink M.1 i (Cl.2.1 j).1 (Cl.2.1 j).2.1 (Cl.2.1 j).2.2.1 ∈ zT) (hd : decode M.2.1 pc = .ok (.putfield i, 3)) (kk : zj_J l G M W0 Φ k n (zj_set WW b c' (a', .inr (ci, fs.set j v))) lv (pc + 3) st) : zj_J l G M W0 Φ k n WW lv pc (v :: .ref a :: st) := by
  intro p e s m args below meth c H locs ls C hP hD hS hl
  subst ha
  obtain ⟨ht1, ht2⟩ := zj_vty_ok ci Cl t hC ht
  obtain ⟨C1, T1, N1⟩ := Cl
  have hcl : vwCl[ci]? = some (C1, T1, N1) := by rw [← zj_n_eq]; exact hC
  have hjj : j < N1 := Nat.blt_eq.mp hj
  refine va_putF (own := M.1) C.1 C.2.1 C.2.2.2.2.2.1 (zj_lays ci _ hC) t ht1 ht2 C.2.2.2.2.1 C.2.2.2.2.2.2.1.K hP hD hS (zj_off WW b + c') (zj_flat_at WW b c' hc) hcl j hjj (C.2.2.2.2.2.1 _ hw) (fun _ h => h) hf (C.2.2.2.2.2.2.2.2.1 hi) ho (ht1 j hjj) hn hfit (Nat.blt_eq.mp hj2) hd (fun H1 locs1 hP1 hD1 hS1 => ?_)
  rw [zj_flat_set WW b c' _ hc] at hP1 hD1
  exact kk p e s m args below meth c H1 locs1 ls C hP1 hD1 hS1 hl
theorem zr_iald {b c' a a' N : Nat} {cA : ClassId} {f : Nat → Int32} {i : Int32} (hc : zj_c WW b c' = some (a', .inl (cA, N, .inl f))) (ha : a = a') (hA : cA = G.2.1 1) (hi : zb_in i N = true) (hd : decode M.2.1 pc = .ok (.iaload, 1)) (kk : zj_J l G M W0 Φ k n WW lv (pc + 1) (.int (f i.toNatClampNeg) :: st)) : zj_J l G M W0 Φ k n WW lv pc (.int i :: .ref a :: st) := by
  intro p e s m args below meth c H locs ls C hP hD hS hl
  subst ha
  exact va_iald C.1 C.2.1 C.2.2.2.2.2.2.1.K hP (zj_off WW b + c') 1 (zj_flat_at WW b c' hc) (by rw [hA]; rfl) (zb_in_of hi) hd (kk p e s m args below meth c H locs ls C hP hD hS hl)
theorem zr_bald {b c' a a' N : Nat} {cA : ClassId} {f : Nat → Int32} {i : Int32} (hc : zj_c WW b c' = some (a', .inl (cA, N, .inl f))) (ha : a = a') (hA : cA = G.2.1 0) (hi : zb_in i N = true) (hd : decode M.2.1 pc = .ok (.baload, 1)) (kk : zj_J l G M W0 Φ k n WW lv (pc + 1) (.int (f i.toNatClampNeg) :: st)) : zj_J l G M W0 Φ k n WW lv pc (.int i :: .ref a :: st) := by
  intro p e s m args below meth c H locs ls C hP hD hS hl
  subst ha
  exact va_bald C.1 C.2.1 C.2.2.2.2.2.2.1.K hP (zj_off WW b + c') 0 (zj_flat_at WW b c' hc) (by rw [hA]; rfl) (zb_in_of hi) hd (kk p e s m args below meth c H locs ls C hP hD hS hl)
theorem zr_zald {b c' a a' N : Nat} {cA : ClassId} {f : Nat → Int32} {i : Int32} (hc : zj_c WW b c' = some (a', .inl (cA, N, .inl f))) (ha : a = a') (hA : cA = G.2.1 3) (hi : zb_in i N = true) (hd : decode M.2.1 pc = .ok (.baload, 1)) (kk : zj_J l G M W0 Φ k n WW lv (pc + 1) (.int (f i.toNatClampNeg) :: st)) : zj_J l G M W0 Φ k n WW lv pc (.int i :: .ref a :: st) := by
  intro p e s m args below meth c H locs ls C hP hD hS hl
  subst ha
  exact va_zald C.1 C.2.1 C.2.2.2.2.2.2.1.K hP (zj_off WW b + c') 3 (zj_flat_at WW b c' hc) (by rw [hA]; rfl) (zb_in_of hi) hd (kk p e s m args below meth c H locs ls C hP hD hS hl)
theorem zr_lald {b c' a a' N : Nat} {cA : ClassId} {f : Nat → Int64} {i : Int32} (hc : zj_c WW b c' = some (a', .inl (cA, N, .inr (.inl f)))) (ha : a = a') (hA : cA = G.2.1 2) (hi : zb_in i N = true) (hd : decode M.2.1 pc = .ok (.laload, 1)) (kk : zj_J l G M W0 Φ k n WW lv (pc + 1) (.long (f i.toNatClampNeg) :: st)) : zj_J l G M W0 Φ k n WW lv pc (.int i :: .ref a :: st) := by
  intro p e s m args below meth c H locs ls C hP hD hS hl
  subst ha
  exact va_lald C.1 C.2.1 C.2.2.2.2.2.2.1.K hP (zj_off WW b + c') 2 (zj_flat_at WW b c' hc) (by rw [hA]; rfl) (zb_in_of hi) hd (kk p e s m args below meth c H locs ls C hP hD hS hl)
theorem zr_iast {b c' a a' N : Nat} {cA : ClassId} {f : Nat → Int32} {i : Int32} {x : Int32} (hc : zj_c WW b c' = some (a', .inl (cA, N, .inl f))) (ha : a = a') (hA : cA = G.2.1 1) (hi : zb_in i N = true) (hd : decode M.2.1 pc = .ok (.iastore, 1)) (kk : zj_J l G M W0 Φ k n (zj_set WW b c' (a', .inl (cA, N, .inl (upd f i.toNatClampNeg x)))) lv (pc + 1) st) : zj_J l G M W0 Φ k n WW lv pc (.int x :: .int i :: .ref a :: st) := by
  intro p e s m args below meth c H locs ls C hP hD hS hl
  subst ha
  refine va_iast C.1 C.2.1 C.2.2.2.2.2.2.1.K hP hD hS (zj_off WW b + c') 1 (zj_flat_at WW b c' hc) (by rw [hA]; rfl) (zb_in_of hi) hd (fun H1 locs1 hP1 hD1 hS1 => ?_)
  rw [zj_flat_set WW b c' _ hc] at hP1 hD1
  exact kk p e s m args below meth c H1 locs1 ls C hP1 hD1 hS1 hl
theorem zr_bast {b c' a a' N : Nat} {cA : ClassId} {f : Nat → Int32} {i : Int32} {x : Int32} (hc : zj_c WW b c' = some (a', .inl (cA, N, .inl f))) (ha : a = a') (hA : cA = G.2.1 0) (hi : zb_in i N = true) (hd : decode M.2.1 pc = .ok (.bastore, 1)) (kk : zj_J l G M W0 Φ k n (zj_set WW b c' (a', .inl (cA, N, .inl (upd f i.toNatClampNeg (vp_nar .byte x))))) lv (pc + 1) st) : zj_J l G M W0 Φ k n WW lv pc (.int x :: .int i :: .ref a :: st) := by
  intro p e s m args below meth c H locs ls C hP hD hS hl
  subst ha
  refine va_bast C.1 C.2.1 C.2.2.2.2.2.2.1.K hP hD hS (zj_off WW b + c') 0 (zj_flat_at WW b c' hc) (by rw [hA]; rfl) (zb_in_of hi) hd (fun H1 locs1 hP1 hD1 hS1 => ?_)
  rw [zj_flat_set WW b c' _ hc] at hP1 hD1
  exact kk p e s m args below meth c H1 locs1 ls C hP1 hD1 hS1 hl
theorem zr_zast {b c' a a' N : Nat} {cA : ClassId} {f : Nat → Int32} {i : Int32} {x : Int32} (hc : zj_c WW b c' = some (a', .inl (cA, N, .inl f))) (ha : a = a') (hA : cA = G.2.1 3) (hi : zb_in i N = true) (hd : decode M.2.1 pc = .ok (.bastore, 1)) (kk : zj_J l G M W0 Φ k n (zj_set WW b c' (a', .inl (cA, N, .inl (upd f i.toNatClampNeg (vp_nar .boolean x))))) lv (pc + 1) st) : zj_J l G M W0 Φ k n WW lv pc (.int x :: .int i :: .ref a :: st) := by
  intro p e s m args below meth c H locs ls C hP hD hS hl
  subst ha
  refine va_zast C.1 C.2.1 C.2.2.2.2.2.2.1.K hP hD hS (zj_off WW b + c') 3 (zj_flat_at WW b c' hc) (by rw [hA]; rfl) (zb_in_of hi) hd (fun H1 locs1 hP1 hD1 hS1 => ?_)
  rw [zj_flat_set WW b c' _ hc] at hP1 hD1
  exact kk p e s m args below meth c H1 locs1 ls C hP1 hD1 hS1 hl
theorem zr_last {b c' a a' N : Nat} {cA : ClassId} {f : Nat → Int64} {i : Int32} {x : Int64} (hc : zj_c WW b c' = some (a', .inl (cA, N, .inr (.inl f)))) (ha : a = a') (hA : cA = G.2.1 2) (hi : zb_in i N = true) (hd : decode M.2.1 pc = .ok (.lastore, 1)) (kk : zj_J l G M W0 Φ k n (zj_set WW b c' (a', .inl (cA, N, .inr (.inl (vp_updL f i.toNatClampNeg x))))) lv (pc + 1) st) : zj_J l G M W0 Φ k n WW lv pc (.long x :: .int i :: .ref a :: st) := by
  intro p e s m args below meth c H locs ls C hP hD hS hl
  subst ha
  refine va_last C.1 C.2.1 C.2.2.2.2.2.2.1.K hP hD hS (zj_off WW b + c') 2 (zj_flat_at WW b c' hc) (by rw [hA]; rfl) (zb_in_of hi) hd (fun H1 locs1 hP1 hD1 hS1 => ?_)
  rw [zj_flat_set WW b c' _ hc] at hP1 hD1
  exact kk p e s m args below meth c H1 locs1 ls C hP1 hD1 hS1 hl
theorem zr_iret {v : Int32} {rv : Option Value} {W1 : (Nat → Nat) → List va_W} {b0 : Nat → Nat} (hd : decode M.2.1 pc = .ok (.ireturn, 1)) (hr : M.2.2.2.1 = some .int) (hrv : rv = some (.int v)) (hW : W1 b0 = WW) (hk : k = M.2.2.2.2.1.cells) (hn : n = M.2.2.2.2.1.slots) : zj_J l G M W0 (zj_ret G M W0 rv W1) k n WW lv pc [.int v] := by
  intro p e s m args below meth c H locs ls C hP hD hS hl
  subst hk; subst hn; subst hrv; subst hW
  exact W.iret C.1 C.2.1 (C.2.2.2.1.trans hr) (fun t ht hW => ⟨⟨b0, rfl, by rw [ht]; exact hP, hD⟩, hS.F ht⟩) hS.2.2 hd C.2.2.2.2.2.2.2.1
theorem zr_lret {v : Int64} {rv : Option Value} {W1 : (Nat → Nat) → List va_W} {b0 : Nat → Nat} (hd : decode M.2.1 pc = .ok (.lreturn, 1)) (hr : M.2.2.2.1 = some .long) (hrv : rv = some (.long v)) (hW : W1 b0 = WW) (hk : k = M.2.2.2.2.1.cells) (hn : n = M.2.2.2.2.1.slots) : zj_J l G M W0 (zj_ret G M W0 rv W1) k n WW lv pc [.long v] := by
  intro p e s m args below meth c H locs ls C hP hD hS hl
  subst hk; subst hn; subst hrv; subst hW
  exact W.lret C.1 C.2.1 (C.2.2.2.1.trans hr) (fun t ht hW => ⟨⟨b0, rfl, by rw [ht]; exact hP, hD⟩, hS.F ht⟩) hS.2.2 hd C.2.2.2.2.2.2.2.1
theorem zr_vret {rv : Option Value} {W1 : (Nat → Nat) → List va_W} {b0 : Nat → Nat} (hd : decode M.2.1 pc = .ok (.return_, 1)) (hr : M.2.2.2.1 = none) (hrv : rv = none) (hW : W1 b0 = WW) (hk : k = M.2.2.2.2.1.cells) (hn : n = M.2.2.2.2.1.slots) : zj_J l G M W0 (zj_ret G M W0 rv W1) k n WW lv pc [] := by
  intro p e s m args below meth c H locs ls C hP hD hS hl
  subst hk; subst hn; subst hrv; subst hW
  exact W.vret C.1 C.2.1 (C.2.2.2.1.trans hr) (fun t ht hW => ⟨⟨b0, rfl, by rw [ht]; exact hP, hD⟩, hS.F ht⟩) hS.2.2 hd C.2.2.2.2.2.2.2.1
theorem zr_zret {v : Int32} {rv : Option Value} {W1 : (Nat → Nat) → List va_W} {b0 : Nat → Nat} (hz : zb_bo v = true) (hd : decode M.2.1 pc = .ok (.ireturn, 1)) (hr : M.2.2.2.1 = some .boolean) (hrv : rv = some (.int v)) (hW : W1 b0 = WW) (hk : k = M.2.2.2.2.1.cells) (hn : n = M.2.2.2.2.1.slots) : zj_J l G M W0 (zj_ret G M W0 rv W1) k n WW lv pc [.int v] := by
  intro p e s m args below meth c H locs ls C hP hD hS hl
  subst hk; subst hn; subst hrv; subst hW
  exact W.zret C.1 C.2.1 (C.2.2.2.1.trans hr) (zb_bo_nar hz) (fun t ht hW => ⟨⟨b0, rfl, by rw [ht]; exact hP, hD⟩, hS.F ht⟩) hS.2.2 hd C.2.2.2.2.2.2.2.1
end
