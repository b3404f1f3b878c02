abbrev zj_op : Type := Instr × Nat × Nat × Nat × Value
abbrev zj_cf : Type := List va_W × List (Option Value) × List Value × Prop
def zj_len : Instr → Nat
  | .aload _ | .astore _ | .iload _ | .istore _ | .lload _ | .lstore _ | .bipush _ | .ldc _ => 2
  | .sipush _ | .iinc _ _ | .ldc_w _ | .ldc2_w _ | .getfield _ | .putfield _ => 3
  | _ => 1
def zj_ok (o : zj_op) : Bool := match o.1, o.2.2.2.2 with
  | .iconst i, .int v => decide (Int32.ofInt i = v)
  | .bipush i, .int v => decide ((Int8.ofInt i).toInt32 = v)
  | .sipush i, .int v => decide ((Int16.ofInt i).toInt32 = v)
  | .lconst i, .long v => decide (Int64.ofNat (i : Nat) = v)
  | .iinc _ i, .int v => decide (Int32.ofInt i = v)
  | _, _ => true
def zj_dec (cc : ByteArray) : Nat → List zj_op → Bool
  | _, [] => true
  | pc, o :: r => decide (decode cc pc = .ok (o.1, zj_len o.1)) && zj_ok o && zj_dec cc (pc + zj_len o.1) r
def zj_end : Nat → List zj_op → Nat
  | pc, [] => pc
  | pc, o :: r => zj_end (pc + zj_len o.1) r
def zj_fin (own : String) (ini : Bool) (Cl : vw_C) (j : Nat) : Prop := match (Cl.2.1 j).2.2.2 with
  | false => True
  | true => ini = true ∧ (Cl.2.1 j).1 = own
def zj_s (own : String) (ini : Bool) (T : Nat → ClassId) (o : zj_op) (WW : List va_W) (lv : List (Option Value)) (st : List Value) : Option zj_cf := match o.1 with
  | .iload_n i => match zj_n lv i.val with
    | some (some (.int x)) => some (WW, lv, .int x :: st, True)
    | _ => none
  | .iload i => match zj_n lv i with
    | some (some (.int x)) => some (WW, lv, .int x :: st, True)
    | _ => none
  | .lload_n i => match zj_n lv i.val with
    | some (some (.long x)) => some (WW, lv, .long x :: st, True)
    | _ => none
  | .lload i => match zj_n lv i with
    | some (some (.long x)) => some (WW, lv, .long x :: st, True)
    | _ => none
  | .aload_n i => match zj_n lv i.val with
    | some (some (.ref x)) => some (WW, lv, .ref x :: st, True)
    | some (some .null) => some (WW, lv, .null :: st, True)
    | _ => none
  | .aload i => match zj_n lv i with
    | some (some (.ref x)) => some (WW, lv, .ref x :: st, True)
    | some (some .null) => some (WW, lv, .null :: st, True)
    | _ => none
  | .istore_n i => match st, zj_n lv i.val with
    | .int x :: r, some _ => some (WW, zj_st1 lv i.val (.int x), r, True)
    | _, _ => none
  | .istore i => match st, zj_n lv i with
    | .int x :: r, some _ => some (WW, zj_st1 lv i (.int x), r, True)
    | _, _ => none
  | .lstore_n i => match st, zj_n lv (i.val + 1) with
    | .long x :: r, some _ => some (WW, zj_st2 lv i.val (.long x), r, True)
    | _, _ => none
  | .lstore i => match st, zj_n lv (i + 1) with
    | .long x :: r, some _ => some (WW, zj_st2 lv i (.long x), r, True)
    | _, _ => none
  | .astore_n i => match st, zj_n lv i.val with
    | .ref x :: r, some _ => some (WW, zj_st1 lv i.val (.ref x), r, True)
    | .null :: r, some _ => some (WW, zj_st1 lv i.val .null, r, True)
    | _, _ => none
  | .astore i => match st, zj_n lv i with
    | .ref x :: r, some _ => some (WW, zj_st1 lv i (.ref x), r, True)
    | _, _ => none
  | .iconst i => match o.2.2.2.2 with
    | .int v => some (WW, lv, .int v :: st, True)
    | _ => none
  | .bipush i => match o.2.2.2.2 with
    | .int v => some (WW, lv, .int v :: st, True)
    | _ => none
  | .sipush i => match o.2.2.2.2 with
    | .int v => some (WW, lv, .int v :: st, True)
    | _ => none
  | .lconst i => match o.2.2.2.2 with
    | .long v => some (WW, lv, .long v :: st, True)
    | _ => none
  | .aconst_null => some (WW, lv, .null :: st, True)
  | .iadd => match st with
    | .int y :: .int x :: r => some (WW, lv, .int (x + y) :: r, True)
    | _ => none
  | .isub => match st with
    | .int y :: .int x :: r => some (WW, lv, .int (x - y) :: r, True)
    | _ => none
  | .imul => match st with
    | .int y :: .int x :: r => some (WW, lv, .int (x * y) :: r, True)
    | _ => none
  | .iand => match st with
    | .int y :: .int x :: r => some (WW, lv, .int (x &&& y) :: r, True)
    | _ => none
  | .ior => match st with
    | .int y :: .int x :: r => some (WW, lv, .int (x ||| y) :: r, True)
    | _ => none
  | .ixor => match st with
    | .int y :: .int x :: r => some (WW, lv, .int (x ^^^ y) :: r, True)
    | _ => none
  | .ishl => match st with
    | .int y :: .int x :: r => some (WW, lv, .int (zr_shl x y) :: r, True)
    | _ => none
  | .ishr => match st with
    | .int y :: .int x :: r => some (WW, lv, .int (zr_shr x y) :: r, True)
    | _ => none
  | .iushr => match st with
    | .int y :: .int x :: r => some (WW, lv, .int (zr_ushr x y) :: r, True)
    | _ => none
  | .ladd => match st with
    | .long y :: .long x :: r => some (WW, lv, .long (x + y) :: r, True)
    | _ => none
  | .lsub => match st with
    | .long y :: .long x :: r => some (WW, lv, .long (x - y) :: r, True)
    | _ => none
  | .lmul => match st with
    | .long y :: .long x :: r => some (WW, lv, .long (x * y) :: r, True)
    | _ => none
  | .land => match st with
    | .long y :: .long x :: r => some (WW, lv, .long (x &&& y) :: r, True)
    | _ => none
  | .lor => match st with
    | .long y :: .long x :: r => some (WW, lv, .long (x ||| y) :: r, True)
    | _ => none
  | .lushr => match st with
    | .int y :: .long x :: r => some (WW, lv, .long (zr_ushrl x y) :: r, True)
    | _ => none
  | .idiv => match st with
    | .int y :: .int x :: r => some (WW, lv, .int (x / y) :: r, zb_nz y = true)
    | _ => none
  | .irem => match st with
    | .int y :: .int x :: r => some (WW, lv, .int (zr_rem x y) :: r, zb_nz y = true)
    | _ => none
  | .ldiv => match st with
    | .long y :: .long x :: r => some (WW, lv, .long (x / y) :: r, zb_nzl y = true)
    | _ => none
  | .lrem => match st with
    | .long y :: .long x :: r => some (WW, lv, .long (zr_reml x y) :: r, zb_nzl y = true)
    | _ => none
  | .ineg => match st with
    | .int x :: r => some (WW, lv, .int (-x) :: r, True)
    | _ => none
  | .i2l => match st with
    | .int x :: r => some (WW, lv, .long x.toInt64 :: r, True)
    | _ => none
  | .l2i => match st with
    | .long x :: r => some (WW, lv, .int x.toInt32 :: r, True)
    | _ => none
  | .i2b => match st with
    | .int x :: r => some (WW, lv, .int x.toInt8.toInt32 :: r, True)
    | _ => none
  | .lcmp => match st with
    | .long y :: .long x :: r => some (WW, lv, .int (lg_cmp x y) :: r, True)
    | _ => none
  | .dup => match st with
    | .int x :: r => some (WW, lv, .int x :: .int x :: r, True)
    | .ref x :: r => some (WW, lv, .ref x :: .ref x :: r, True)
    | _ => none
  | .pop => match st with
    | .int x :: r => some (WW, lv, r, True)
    | .ref x :: r => some (WW, lv, r, True)
    | _ => none
  | .dup2 => match st with
    | .long x :: r => some (WW, lv, .long x :: .long x :: r, True)
    | .int x :: .int y :: r => some (WW, lv, .int x :: .int y :: .int x :: .int y :: r, True)
    | .int x :: .ref y :: r => some (WW, lv, .int x :: .ref y :: .int x :: .ref y :: r, True)
    | _ => none
  | .iinc i a => match zj_n lv i, o.2.2.2.2 with
    | some (some (.int x)), .int d => some (WW, zj_st1 lv i (.int (x + d)), st, True)
    | _, _ => none
  | .ldc i => match o.2.2.2.2 with
    | .int v => some (WW, lv, .int v :: st, Cond.constant own i v ∈ zT)
    | _ => none
  | .ldc_w i => match o.2.2.2.2 with
    | .int v => some (WW, lv, .int v :: st, Cond.constant own i v ∈ zT)
    | _ => none
  | .ldc2_w i => match o.2.2.2.2 with
    | .long v => some (WW, lv, .long v :: st, Cond.constantLong own i v ∈ zT)
    | _ => none
  | .getfield i => match st, zj_c WW o.2.1 o.2.2.1 with
    | .ref a :: r, some (a', .inr (ci, fs)) => (match zj_n vwCl ci, zj_n fs o.2.2.2.1 with
      | some Cl, some v => some (WW, lv, v :: r, a = a' ∧ Nat.blt o.2.2.2.1 Cl.2.2 = true ∧ Cond.fieldLink own i (Cl.2.1 o.2.2.2.1).1 (Cl.2.1 o.2.2.2.1).2.1 (Cl.2.1 o.2.2.2.1).2.2.1 ∈ zT)
      | _, _ => none)
    | _, _ => none
  | .putfield i => match st, zj_c WW o.2.1 o.2.2.1 with
    | v :: .ref a :: r, some (a', .inr (ci, fs)) => (match zj_n vwCl ci, zj_n zj_vty ci with
      | some Cl, some t => some (zj_set WW o.2.1 o.2.2.1 (a', .inr (ci, fs.set o.2.2.2.1 v)), lv, r, a = a' ∧ Nat.blt o.2.2.2.1 Cl.2.2 = true ∧ Nat.blt o.2.2.2.1 fs.length = true ∧ zj_fin own ini Cl o.2.2.2.1 ∧ narrow (t o.2.2.2.1) v = v ∧ fits (t o.2.2.2.1) v = true ∧ Cond.fieldLink own i (Cl.2.1 o.2.2.2.1).1 (Cl.2.1 o.2.2.2.1).2.1 (Cl.2.1 o.2.2.2.1).2.2.1 ∈ zT)
      | _, _ => none)
    | _, _ => none
  | .iaload => match st, zj_c WW o.2.1 o.2.2.1 with
    | .int i :: .ref a :: r, some (a', .inl (cA, N, .inl f)) => some (WW, lv, .int (f i.toNatClampNeg) :: r, a = a' ∧ cA = T 1 ∧ zb_in i N = true)
    | _, _ => none
  | .baload => match st, zj_c WW o.2.1 o.2.2.1 with
    | .int i :: .ref a :: r, some (a', .inl (cA, N, .inl f)) => (match o.2.2.2.1 with
      | 0 => some (WW, lv, .int (f i.toNatClampNeg) :: r, a = a' ∧ cA = T 0 ∧ zb_in i N = true)
      | _ => some (WW, lv, .int (f i.toNatClampNeg) :: r, a = a' ∧ cA = T 3 ∧ zb_in i N = true))
    | _, _ => none
  | .laload => match st, zj_c WW o.2.1 o.2.2.1 with
    | .int i :: .ref a :: r, some (a', .inl (cA, N, .inr (.inl f))) => some (WW, lv, .long (f i.toNatClampNeg) :: r, a = a' ∧ cA = T 2 ∧ zb_in i N = true)
    | _, _ => none
  | .iastore => match st, zj_c WW o.2.1 o.2.2.1 with
    | .int x :: .int i :: .ref a :: r, some (a', .inl (cA, N, .inl f)) => some (zj_set WW o.2.1 o.2.2.1 (a', .inl (cA, N, .inl (upd f i.toNatClampNeg x))), lv, r, a = a' ∧ cA = T 1 ∧ zb_in i N = true)
    | _, _ => none
  | .bastore => match st, zj_c WW o.2.1 o.2.2.1 with
    | .int x :: .int i :: .ref a :: r, some (a', .inl (cA, N, .inl f)) => (match o.2.2.2.1 with
      | 0 => some (zj_set WW o.2.1 o.2.2.1 (a', .inl (cA, N, .inl (upd f i.toNatClampNeg (vp_nar .byte x)))), lv, r, a = a' ∧ cA = T 0 ∧ zb_in i N = true)
      | _ => some (zj_set WW o.2.1 o.2.2.1 (a', .inl (cA, N, .inl (upd f i.toNatClampNeg (vp_nar .boolean x)))), lv, r, a = a' ∧ cA = T 3 ∧ zb_in i N = true))
    | _, _ => none
  | .lastore => match st, zj_c WW o.2.1 o.2.2.1 with
    | .long x :: .int i :: .ref a :: r, some (a', .inl (cA, N, .inr (.inl f))) => some (zj_set WW o.2.1 o.2.2.1 (a', .inl (cA, N, .inr (.inl (vp_updL f i.toNatClampNeg x)))), lv, r, a = a' ∧ cA = T 2 ∧ zb_in i N = true)
    | _, _ => none
  | _ => none
def zj_r (own : String) (ini : Bool) (T : Nat → ClassId) : List zj_op → List va_W → List (Option Value) → List Value → Option zj_cf
  | [], WW, lv, st => some (WW, lv, st, True)
  | o :: r, WW, lv, st => match zj_s own ini T o WW lv st with
    | some (W1, l1, s1, p) => (match zj_r own ini T r W1 l1 s1 with
      | some (W2, l2, s2, q) => some (W2, l2, s2, p ∧ q)
      | none => none)
    | none => none
def zj_rd (own : String) (ini : Bool) (T : Nat → ClassId) (is : List zj_op) (ds : List Nat) (WW : List va_W) (lv : List (Option Value)) (st : List Value) : Option zj_cf := match zj_r own ini T is WW lv st with
  | some (W1, l1, s1, p) => some (W1, zj_drop l1 ds, s1, p)
  | none => none
section
variable {l : Launch} {G : zj_G} {M : zj_M} {W0 : List va_W} {Φ : zj_F} {k n : Nat} {WW WW' : List va_W} {lv lv' : List (Option Value)} {pc : Nat} {st st' : List Value}
set_option maxHeartbeats 4000000 in
theorem zj_s_ok {o : zj_op} {P : Prop} (h : zj_s M.1 M.2.2.2.2.2 G.2.1 o WW lv st = some (WW', lv', st', P)) (hP : P) (hd0 : decode M.2.1 pc = .ok (o.1, zj_len o.1)) (ho : zj_ok o = true) (kk0 : zj_J l G M W0 Φ k n WW' lv' (pc + zj_len o.1) st') : zj_J l G M W0 Φ k n WW lv pc st := by
  unfold zj_s at h
  split at h
  · -- .iload_n i
    rename_i he
    rw [he] at hd0 kk0
    have hd := hd0; have kk := kk0
    split at h
    · cases h; exact zr_iload_n ‹_› hd kk
    · cases h
  · -- .iload i
    rename_i he
    rw [he] at hd0 kk0
    have hd := hd0; have kk := kk0
    split at h
    · cases h; exact zr_iload ‹_› hd kk
    · cases h
  · -- .lload_n i
    rename_i he
    rw [he] at hd0 kk0
    have hd := hd0; have kk := kk0
    split at h
    · cases h; exact zr_lload_n ‹_› hd kk
    · cases h
  · -- .lload i
    rename_i he
    rw [he] at hd0 kk0
    have hd := hd0; have kk := kk0
    split at h
    · cases h; exact zr_lload ‹_› hd kk
    · cases h
  · -- .aload_n i
    rename_i he
    rw [he] at hd0 kk0
    have hd := hd0; have kk := kk0
    split at h
    · cases h; exact zr_aload_n ‹_› hd kk
    · cases h; exact zr_aload_nN ‹_› hd kk
    · cases h
  · -- .aload i
    rename_i he
    rw [he] at hd0 kk0
    have hd := hd0; have kk := kk0
    split at h
    · cases h; exact zr_aload ‹_› hd kk
    · cases h; exact zr_aloadN ‹_› hd kk
    · cases h
  · -- .istore_n i
    rename_i he
    rw [he] at hd0 kk0
    have hd := hd0; have kk := kk0
    split at h
    · cases h; exact zr_istore_n ‹_› hd kk
    · cases h
  · -- .istore i
    rename_i he
    rw [he] at hd0 kk0
    have hd := hd0; have kk := kk0
    split at h
    · cases h; exact zr_istore ‹_› hd kk
    · cases h
  · -- .lstore_n i
    rename_i he
    rw [he] at hd0 kk0
    have hd := hd0; have kk := kk0
    split at h
    · cases h; exact zr_lstore_n ‹_› hd kk
    · cases h
  · -- .lstore i
    rename_i he
    rw [he] at hd0 kk0
    have hd := hd0; have kk := kk0
    split at h
    · cases h; exact zr_lstore ‹_› hd kk
    · cases h
  · -- .astore_n i
    rename_i he
    rw [he] at hd0 kk0
    have hd := hd0; have kk := kk0
    split at h
    · cases h; exact zr_astore_n ‹_› hd kk
    · cases h; exact zr_astore_nN ‹_› hd kk
    · cases h
  · -- .astore i
    rename_i he
    rw [he] at hd0 kk0
    have hd := hd0; have kk := kk0
    split at h
    · cases h; exact zr_astore ‹_› hd kk
    · cases h
  · -- .iconst i
    rename_i he
    rw [he] at hd0 kk0
    have hd := hd0; have kk := kk0
    split at h
    · rename_i heq; cases h; exact zr_iconst (by simpa [zj_ok, he, heq] using ho) hd kk
    · cases h
  · -- .bipush i
    rename_i he
    rw [he] at hd0 kk0
    have hd := hd0; have kk := kk0
    split at h
    · rename_i heq; cases h; exact zr_bipush (by simpa [zj_ok, he, heq] using ho) hd kk
    · cases h
  · -- .sipush i
    rename_i he
    rw [he] at hd0 kk0
    have hd := hd0; have kk := kk0
    split at h
    · rename_i heq; cases h; exact zr_sipush (by simpa [zj_ok, he, heq] using ho) hd kk
    · cases h
  · -- .lconst i
    rename_i he
    rw [he] at hd0 kk0
    have hd := hd0; have kk := kk0
    split at h
    · rename_i heq; cases h; exact zr_lconst (by simpa [zj_ok, he, heq] using ho) hd kk
    · cases h
  · -- .aconst_null
    rename_i he
    rw [he] at hd0 kk0
    have hd := hd0; have kk := kk0
    cases h; exact zr_null hd kk
  · -- .iadd
    rename_i he
    rw [he] at hd0 kk0
    have hd := hd0; have kk := kk0
    split at h
    · cases h; exact zr_iadd hd kk
    · cases h
  · -- .isub
    rename_i he
    rw [he] at hd0 kk0
    have hd := hd0; have kk := kk0
    split at h
    · cases h; exact zr_isub hd kk
    · cases h
  · -- .imul
    rename_i he
    rw [he] at hd0 kk0
    have hd := hd0; have kk := kk0
    split at h
    · cases h; exact zr_imul hd kk
    · cases h
  · -- .iand
    rename_i he
    rw [he] at hd0 kk0
    have hd := hd0; have kk := kk0
    split at h
    · cases h; exact zr_iand hd kk
    · cases h
  · -- .ior
    rename_i he
    rw [he] at hd0 kk0
    have hd := hd0; have kk := kk0
    split at h
    · cases h; exact zr_ior hd kk
    · cases h
  · -- .ixor
    rename_i he
    rw [he] at hd0 kk0
    have hd := hd0; have kk := kk0
    split at h
    · cases h; exact zr_ixor hd kk
    · cases h
  · -- .ishl
    rename_i he
    rw [he] at hd0 kk0
    have hd := hd0; have kk := kk0
    split at h
    · cases h; exact zr_ishl hd kk
    · cases h
  · -- .ishr
    rename_i he
    rw [he] at hd0 kk0
    have hd := hd0; have kk := kk0
    split at h
    · cases h; exact zr_ishr hd kk
    · cases h
  · -- .iushr
    rename_i he
    rw [he] at hd0 kk0
    have hd := hd0; have kk := kk0
    split at h
    · cases h; exact zr_iushr hd kk
    · cases h
  · -- .ladd
    rename_i he
    rw [he] at hd0 kk0
    have hd := hd0; have kk := kk0
    split at h
    · cases h; exact zr_ladd hd kk
    · cases h
  · -- .lsub
    rename_i he
    rw [he] at hd0 kk0
    have hd := hd0; have kk := kk0
    split at h
    · cases h; exact zr_lsub hd kk
    · cases h
  · -- .lmul
    rename_i he
    rw [he] at hd0 kk0
    have hd := hd0; have kk := kk0
    split at h
    · cases h; exact zr_lmul hd kk
    · cases h
  · -- .land
    rename_i he
    rw [he] at hd0 kk0
    have hd := hd0; have kk := kk0
    split at h
    · cases h; exact zr_land hd kk
    · cases h
  · -- .lor
    rename_i he
    rw [he] at hd0 kk0
    have hd := hd0; have kk := kk0
    split at h
    · cases h; exact zr_lor hd kk
    · cases h
  · -- .lushr
    rename_i he
    rw [he] at hd0 kk0
    have hd := hd0; have kk := kk0
    split at h
    · cases h; exact zr_lushr hd kk
    · cases h
  · -- .idiv
    rename_i he
    rw [he] at hd0 kk0
    have hd := hd0; have kk := kk0
    split at h
    · cases h; exact zr_idiv hP hd kk
    · cases h
  · -- .irem
    rename_i he
    rw [he] at hd0 kk0
    have hd := hd0; have kk := kk0
    split at h
    · cases h; exact zr_irem hP hd kk
    · cases h
  · -- .ldiv
    rename_i he
    rw [he] at hd0 kk0
    have hd := hd0; have kk := kk0
    split at h
    · cases h; exact zr_ldiv hP hd kk
    · cases h
  · -- .lrem
    rename_i he
    rw [he] at hd0 kk0
    have hd := hd0; have kk := kk0
    split at h
    · cases h; exact zr_lrem hP hd kk
    · cases h
  · -- .ineg
    rename_i he
    rw [he] at hd0 kk0
    have hd := hd0; have kk := kk0
    split at h
    · cases h; exact zr_ineg hd kk
    · cases h
  · -- .i2l
    rename_i he
    rw [he] at hd0 kk0
    have hd := hd0; have kk := kk0
    split at h
    · cases h; exact zr_i2l hd kk
    · cases h
  · -- .l2i
    rename_i he
    rw [he] at hd0 kk0
    have hd := hd0; have kk := kk0
    split at h
    · cases h; exact zr_l2i hd kk
    · cases h
  · -- .i2b
    rename_i he
    rw [he] at hd0 kk0
    have hd := hd0; have kk := kk0
    split at h
    · cases h; exact zr_i2b hd kk
    · cases h
  · -- .lcmp
    rename_i he
    rw [he] at hd0 kk0
    have hd := hd0; have kk := kk0
    split at h
    · cases h; exact zr_lcmp hd kk
    · cases h
  · -- .dup
    rename_i he
    rw [he] at hd0 kk0
    have hd := hd0; have kk := kk0
    split at h
    · cases h; exact zr_dup rfl hd kk
    · cases h; exact zr_dup rfl hd kk
    · cases h
  · -- .pop
    rename_i he
    rw [he] at hd0 kk0
    have hd := hd0; have kk := kk0
    split at h
    · cases h; exact zr_pop rfl hd kk
    · cases h; exact zr_pop rfl hd kk
    · cases h
  · -- .dup2
    rename_i he
    rw [he] at hd0 kk0
    have hd := hd0; have kk := kk0
    split at h
    · cases h; exact zr_dup2_2 rfl hd kk
    · cases h; exact zr_dup2_11 rfl rfl hd kk
    · cases h; exact zr_dup2_11 rfl rfl hd kk
    · cases h
  · -- .iinc i a
    rename_i he
    rw [he] at hd0 kk0
    have hd := hd0; have kk := kk0
    split at h
    · cases h; exact zr_iinc ‹_› (by simpa [zj_ok, he, *] using ho) hd kk
    · cases h
  · -- .ldc i
    rename_i he
    rw [he] at hd0 kk0
    have hd := hd0; have kk := kk0
    split at h
    · cases h; exact zr_ldc hP hd kk
    · cases h
  · -- .ldc_w i
    rename_i he
    rw [he] at hd0 kk0
    have hd := hd0; have kk := kk0
    split at h
    · cases h; exact zr_ldc_w hP hd kk
    · cases h
  · -- .ldc2_w i
    rename_i he
    rw [he] at hd0 kk0
    have hd := hd0; have kk := kk0
    split at h
    · cases h; exact zr_ldc2 hP hd kk
    · cases h
  · -- .getfield i
    rename_i he
    rw [he] at hd0 kk0
    have hd := hd0; have kk := kk0
    split at h
    · split at h
      · cases h; exact zr_getf ‹_› ‹_› ‹_› hP.1 hP.2.1 hP.2.2 hd kk
      · cases h
    · cases h
  · -- .putfield i
    rename_i he
    rw [he] at hd0 kk0
    have hd := hd0; have kk := kk0
    split at h
    · split at h
      · rename_i Cl t hCl ht
        cases h
        obtain ⟨q1, q2, q3, q4, q5, q6, q7⟩ := hP
        cases hf : (Cl.2.1 o.2.2.2.1).2.2.2 with
        | false => exact zr_putf ‹_› hCl ht q1 q2 q3 hf q5 q6 q7 hd kk
        | true =>
          simp only [zj_fin, hf] at q4
          exact zr_putF ‹_› hCl ht q1 q2 q3 hf q4.1 q4.2 q5 q6 q7 hd kk
      · cases h
    · cases h
  · -- .iaload
    rename_i he
    rw [he] at hd0 kk0
    have hd := hd0; have kk := kk0
    split at h
    · cases h; exact zr_iald ‹_› hP.1 hP.2.1 hP.2.2 hd kk
    · cases h
  · -- .baload
    rename_i he
    rw [he] at hd0 kk0
    have hd := hd0; have kk := kk0
    split at h
    · split at h
      · cases h; exact zr_bald ‹_› hP.1 hP.2.1 hP.2.2 hd kk
      · cases h; exact zr_zald ‹_› hP.1 hP.2.1 hP.2.2 hd kk
    · cases h
  · -- .laload
    rename_i he
    rw [he] at hd0 kk0
    have hd := hd0; have kk := kk0
    split at h
    · cases h; exact zr_lald ‹_› hP.1 hP.2.1 hP.2.2 hd kk
    · cases h
  · -- .iastore
    rename_i he
    rw [he] at hd0 kk0
    have hd := hd0; have kk := kk0
    split at h
    · cases h; exact zr_iast ‹_› hP.1 hP.2.1 hP.2.2 hd kk
    · cases h
  · -- .bastore
    rename_i he
    rw [he] at hd0 kk0
    have hd := hd0; have kk := kk0
    split at h
    · split at h
      · cases h; exact zr_bast ‹_› hP.1 hP.2.1 hP.2.2 hd kk
      · cases h; exact zr_zast ‹_› hP.1 hP.2.1 hP.2.2 hd kk
    · cases h
  · -- .lastore
    rename_i he
    rw [he] at hd0 kk0
    have hd := hd0; have kk := kk0
    split at h
    · cases h; exact zr_last ‹_› hP.1 hP.2.1 hP.2.2 hd kk
    · cases h
  · cases h
theorem zj_r_ok : ∀ (is : List zj_op) {WW WW' : List va_W} {lv lv' : List (Option Value)} {st st' : List Value} {pc : Nat} {P : Prop}, zj_r M.1 M.2.2.2.2.2 G.2.1 is WW lv st = some (WW', lv', st', P) → P → zj_dec M.2.1 pc is = true → zj_J l G M W0 Φ k n WW' lv' (zj_end pc is) st' → zj_J l G M W0 Φ k n WW lv pc st
  | [], WW, WW', lv, lv', st, st', pc, P, h, hP, hd, kk => by cases h; exact kk
  | o :: r, WW, WW', lv, lv', st, st', pc, P, h, hP, hd, kk => by
    simp only [zj_dec, Bool.and_eq_true, decide_eq_true_eq] at hd
    unfold zj_r at h
    split at h
    · rename_i Wa la sa pa ha
      split at h
      · rename_i Wb lb sb pb hb
        cases h
        exact zj_s_ok ha hP.1 hd.1.1 hd.1.2 (zj_r_ok r hb hP.2 hd.2 kk)
      · cases h
    · cases h
/-- a straight stretch -/
theorem zr_run (is : List zj_op) (ds : List Nat) {pc' : Nat} {P : Prop} (hd : zj_dec M.2.1 pc is = true) (he : zj_end pc is = pc') (h : zj_rd M.1 M.2.2.2.2.2 G.2.1 is ds WW lv st = some (WW', lv', st', P)) (hP : P) (kk : zj_J l G M W0 Φ k n WW' lv' pc' st') : zj_J l G M W0 Φ k n WW lv pc st := by
  unfold zj_rd at h
  split at h
  · rename_i Wa la sa pa ha
    cases h
    exact zj_r_ok is ha hP hd (by rw [he]; exact zr_drop ds kk)
  · cases h
end
