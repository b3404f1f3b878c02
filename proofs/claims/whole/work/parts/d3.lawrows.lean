/-! the law: its judgement, its script, its end, its world -/
theorem c_X11_plaA (l : Launch) (G : zj_G) (A : Nat → Nat → Nat) (K : Nat → Nat → Option Nat) (s0 : XxT) (s1 : PlT) (x1 : Int32) (r : Int32) (hf : f_X11_planAt s0 s1 x1 = some r) : zj_C l G M_X11_planAt yX11_planAt [w_Xx G A K s0, w_P0 G (A 18) s1] [.ref (A 0 0), .int x1] (some (.int r)) (fun _ => [w_Xx G A K s0, w_P0 G (A 18) s1]) := by
  have key : ∀ W0 : List va_W, zj_J l G M_X11_planAt W0 (zj_ret G M_X11_planAt W0 (some (.int r)) (fun _ => [w_Xx G A K s0, w_P0 G (A 18) s1])) 0 0 [w_Xx G A K s0, w_P0 G (A 18) s1] [some (.ref (A 0 0)), some (.int x1)] 0 [] := by
    intro W0
    unfold f_X11_planAt at hf
    obtain ⟨q1, e1, hf⟩ := zbi_of hf
    have e1' : f_X6_milesOn_P0 s1 x1 = some q1 := e1
    refine zr_run [(.aload_n 0, 0, 0, 0, .null), (.getfield 75, 0, 0, 12, .null), (.iload_n 1, 0, 0, 0, .null)] [] (WW' := [w_Xx G A K s0, w_P0 G (A 18) s1]) (lv' := [some (.ref (A 0 0)), some (.int x1)]) (pc' := 5) (st' := [.int x1, .ref ((A 18) 0)]) (by decide +kernel) rfl rfl ⟨trivial, ⟨rfl, rfl, zw_2_161⟩, trivial, trivial⟩ ?_
    refine zr_callV (c_X6_milesOn_P0 l G (A 18) s1 x1 q1 e1') (WW' := fun _ => [w_Xx G A K s0, w_P0 G (A 18) s1]) (st := []) (st' := [.int q1]) [1] rfl rfl (fun _ => Nat.le_of_ble_eq_true rfl) (fun _ => rfl) rfl rfl nm_X6_milesOn zw_4_80 zw_4_81 zw_4_82 zw_1_12 zw_4_83 rfl rfl rfl (Nat.le_of_ble_eq_true rfl) ⟨Nat.le_of_ble_eq_true rfl, Nat.le_of_ble_eq_true rfl⟩ (by decide +kernel) (fun _ => ?_)
    obtain rfl := Option.some.inj hf
    exact zr_iret (b0 := fun _ => 0) (by decide +kernel) rfl rfl rfl rfl rfl
  exact zj_entry [some (.ref (A 0 0)), some (.int x1)] (by decide +kernel) rfl (by decide) (Nat.le_of_ble_eq_true rfl) rfl rfl (key _)
def R_law : String := "RoadToPortLaw"
def lw_P (b : Addr) (xs : List Int32) (args : Array Value) (s : State) : Prop := args = #[.ref b] ∧ s.IntsAt b xs ∧ xs.length ≤ 3072 ∧ (Jvm.Cond.and given_1 narrow_1).before args s = true
def lw_Q (_ : Array Value) (s : State) (o : Outcome) (t : State) : Prop := o = .returned (some (.int 1)) ∧ Framed s o t [] 601024 7293034
def lw_Z (below : List Frame) (a : Array Value) (s : State) : State → Prop := fun t => ∃ o, t.status = .running ∧ Ended t below o ∧ lw_Q a s o t
/-- the law's own end, with 1 on the stack -/
theorem lw_ret {p : Program} {l : Launch} {e : Env} {s : State} {m : MethodId} {below : List Frame} {meth : Method} {c : Code} {b : Nat} (hx : p.tables.exec = Jvm.exec) (hb : c.code = code) (hr : meth.sig.returnType = ret) (hlocks : meth.locks = false) {pc : Nat} {H : Heap} {ls : Array Slot} (hdg : decode code pc = .ok (.ireturn, 1)) : W p l e room_1 s m #[Value.ref b] below meth c H [] 601024 7293034 (lw_Z below #[Value.ref b] s) (F0 m pc ls [.int 1]) := by
  intro T hT X
  obtain ⟨fs, hret, hrun, hended, hW, hframe⟩ := X.leave (v := some (.int 1)) (hlocks := hlocks) (fun h => by rw [hr] at h; cases h)
  have hmeth' : T.vm.method? m = some meth := X.method'
  refine ⟨T.setFrames fs, ?_, .returned (some (.int 1)), hrun, hended, rfl, ⟨_, rfl⟩, hW, hframe⟩
  jvm_step X.here [X.here.top, hx, hb, hdg, hmeth', hr, ret, narrow_b1]
  (try refine ⟨rfl, ?_⟩); (try refine ⟨rfl, ?_⟩)
  first | (intro acts; rw [hret _ acts rfl rfl rfl]) | rw [hret _ _ rfl rfl rfl]
  exact Steps.refl _
def M_law : zj_M := (RL, code, 8, ret, room_1, false)
/-- the law's end is as asked, where its argument is the script xs at b -/
def zq_F (b L : Nat) (xs : Nat → Int32) : zj_F := fun s args below t => (args = #[Value.ref b] ∧ va_X b L xs s s.heap ∧ b < s.heap.size) → lw_Z below args s t
theorem zq_triv {p : Program} {l : Launch} {e : Env} {R : Room} {s : State} {m : MethodId} {args : Array Value} {below : List Frame} {meth : Method} {c : Code} {H : Heap} {locs : List Loc} {k n : Nat} {g : JFrame} {b L : Nat} {xs : Nat → Int32} (h : ¬ (args = #[Value.ref b] ∧ va_X b L xs s s.heap ∧ b < s.heap.size)) : W p l e R s m args below meth c H locs k n (zq_F b L xs s args below) g :=
  fun T hT X => ⟨_, Steps.refl _, fun q => absurd q h⟩
theorem zq_A {sz q : Nat} (h : zj_A [] sz q) : sz ≤ q := by
  rcases h with ⟨k, e, h⟩ | h
  · simp at h
  · exact h
section
variable {l : Launch} {G : zj_G} {k n : Nat} {WW : List va_W} {lv : List (Option Value)} {pc : Nat} {st : List Value} {b L : Nat} {xs : Nat → Int32}
theorem zq_sld {i : Int32} (hin : vp_in i L) (hd : decode code pc = .ok (.iaload, 1)) (kk : zj_J l G M_law [] (zq_F b L xs) k n WW lv (pc + 1) (.int (xs i.toNatClampNeg) :: st)) : zj_J l G M_law [] (zq_F b L xs) k n WW lv pc (.int i :: .ref b :: st) := by
  intro p e s m args below meth c H locs ls C hP hD hS hl
  by_cases hx : args = #[Value.ref b] ∧ va_X b L xs s s.heap ∧ b < s.heap.size
  · exact va_sld C.1 C.2.1 hx.2.1 hx.2.2 (A := zj_A [] s.heap.size) (fun h => by have := zq_A h; have := hx.2.2; omega) hS hin hd (kk p e s m args below meth c H locs ls C hP hD hS hl)
  · exact zq_triv hx
theorem zq_slen (hd : decode code pc = .ok (.arraylength, 1)) (kk : zj_J l G M_law [] (zq_F b L xs) k n WW lv (pc + 1) (.int (Int32.ofNat L) :: st)) : zj_J l G M_law [] (zq_F b L xs) k n WW lv pc (.ref b :: st) := by
  intro p e s m args below meth c H locs ls C hP hD hS hl
  by_cases hx : args = #[Value.ref b] ∧ va_X b L xs s s.heap ∧ b < s.heap.size
  · exact va_slen C.1 C.2.1 hx.2.1 hx.2.2 (A := zj_A [] s.heap.size) (fun h => by have := zq_A h; have := hx.2.2; omega) hS hd (kk p e s m args below meth c H locs ls C hP hD hS hl)
  · exact zq_triv hx
theorem zq_end (hk : k ≤ 601024) (hn : n ≤ 7293034) (hd : decode code pc = .ok (.ireturn, 1)) : zj_J l G M_law [] (zq_F b L xs) k n WW lv pc [.int 1] := by
  intro p e s m args below meth c H locs ls C hP hD hS hl
  by_cases hx : args = #[Value.ref b] ∧ va_X b L xs s s.heap ∧ b < s.heap.size
  · obtain ⟨rfl, hX, hbl⟩ := hx
    have h : W p l e room_1 s m #[Value.ref b] below meth c H locs k n (lw_Z below #[Value.ref b] s) (F0 m pc ls [.int 1]) := va_forget (fun q hq => zq_A (hS.2.2 q hq)) (W.widen hk hn (lw_ret C.1 C.2.1 C.2.2.2.1 C.2.2.2.2.2.2.2.1 hd))
    intro T hT X
    obtain ⟨t, a1, a2⟩ := h T hT X
    exact ⟨t, a1, fun _ => a2⟩
  · exact zq_triv hx
/-- an argument out of the script -/
theorem zq_arg {ii j : Nat} {jz : Int} (hj : zi jz = zn j) (hj6 : j < 6) (hii : ii + 6 ≤ L) (hL : L ≤ 3072) (h0 : zj_n lv 0 = some (some (.ref b))) (h4 : zj_n lv 4 = some (some (.int (zn ii)))) (d0 : decode code pc = .ok (.aload_n 0, 1)) (d1 : decode code (pc + 1) = .ok (.iload 4, 2)) (d2 : decode code (pc + 3) = .ok (.iconst jz, 1)) (d3 : decode code (pc + 4) = .ok (.iadd, 1)) (d4 : decode code (pc + 5) = .ok (.iaload, 1))
    (kk : zj_J l G M_law [] (zq_F b L xs) k n WW lv (pc + 6) (.int (xs (ii + j)) :: st)) : zj_J l G M_law [] (zq_F b L xs) k n WW lv pc st := by
  refine zr_aload_n (i := 0) h0 d0 ?_
  refine zr_iload h4 d1 ?_
  refine zr_iconst (v := zn j) hj d2 ?_
  refine zr_iadd d3 ?_
  have e : zn ii + zn j = zn (ii + j) := zn_add _ _
  have e2 : (zn ii + zn j).toNatClampNeg = ii + j := by rw [e]; exact zn_nat (by omega)
  refine zq_sld ?_ d4 ?_
  · rw [e]
    rintro (h | h)
    · exact zn_ge0 (by omega) h
    · rw [zn_nat (by omega)] at h; omega
  · rw [e2]; exact kk
/-- bundles in another order -/
theorem zr_perm {M : zj_M} {W0 WW2 : List va_W} {Φ : zj_F} (h : WW.Perm WW2) (kk : zj_J l G M W0 Φ k n WW2 lv pc st) : zj_J l G M W0 Φ k n WW lv pc st := by
  intro p e s m args below meth c H locs ls C hP hD hS hl
  have hf := h.flatten
  refine kk p e s m args below meth c H locs ls C ?_ ?_ hS hl
  · rw [zj_P_iff] at hP ⊢
    intro b w hb
    obtain ⟨b', hb'⟩ := zj_n_of_mem (h.symm.subset (zj_n_mem hb))
    exact hP b' w hb'
  · rw [zj_D1] at hD ⊢
    exact ⟨(hf.map Prod.fst).nodup_iff.mp hD.1, fun x hx => hD.2 x (hf.symm.subset hx)⟩
end
def zq_T (G : zj_G) (A : Nat → Nat → Nat) (j : Nat) (o : Option (LdT × FkT × PhT)) : List va_W := match o with
  | none => []
  | some q => [w_Ld G (A (23 + j)) q.1, w_Fk G (A (25 + j)) q.2.1, w_Ph G (A (27 + j)) q.2.2]
def zq_P (G : zj_G) (pb : Bool) (a : Nat → Nat) (s : PlT) : va_W := match pb with
  | true => w_Pl G a s
  | false => w_P0 G a s
def zq_k (A : Nat → Nat → Nat) (K : Nat → Nat → Option Nat) (j : Nat) (o : Option (LdT × FkT × PhT)) : Prop := match o with
  | none => K 2 j = none
  | some _ => K 2 j = some (A (23 + j) 0) ∧ K 3 j = some (A (25 + j) 0) ∧ K 4 j = some (A (27 + j) 0)
/-- the law's world between calls -/
def zq_W (G : zj_G) (am : Nat → Nat) (ao : Nat) (A : Nat → Nat → Nat) (K : Nat → Nat → Option Nat) (f : Nat → Int64) (pb : Bool) (X : XxT) (R : RdT) (L L2 : LdT) (F F2 : FkT) (P P2 : PhT) (Hi : HiT) (H : H8T) (Lg : LgT) (Pl : PlT) (Sn : SnT) (Ct : CtT) (Sc : ScT) (Tr : TrT) (o0 o1 : Option (LdT × FkT × PhT)) (M : MoT) : List va_W :=
  w_Xx G A K X :: w_Rd G (A 1) R :: w_Ld G (A 2) L :: w_Ld G (A 3) L2 :: w_Fk G (A 4) F :: w_Fk G (A 5) F2 :: w_Ph G (A 6) P :: w_Ph G (A 7) P2 :: w_Hi G (A 8) (fun i => A (9 + i)) Hi :: w_H8 G (fun i => A (9 + i)) H :: w_Lg G (A 17) Lg :: zq_P G pb (A 18) Pl :: w_Sn G (A 19) Sn :: w_Ct G (A 20) Ct :: w_Sc G (A 21) Sc :: w_Tr G (A 22) Tr :: w_Mo G am M :: w_Ou G ao f :: (zq_T G A 0 o0 ++ zq_T G A 1 o1)
def zq_lv (b a1 m0 ao ii : Nat) : List (Option Value) := [some (.ref b), some (.ref a1), some (.ref m0), some (.ref ao), some (.int (zn ii)), none, none, none]
/-- from here, with the script's place ii, the law comes to its end -/
def zq_N (l : Launch) (G : zj_G) (b L : Nat) (xs : Nat → Int32) (a1 : Nat) (am : Nat → Nat) (ao ii k n pc : Nat) : Prop :=
  ∀ (A : Nat → Nat → Nat) (K : Nat → Nat → Option Nat) (f : Nat → Int64) (pb : Bool) (X : XxT) (R : RdT) (Ld L2 : LdT) (F F2 : FkT) (P P2 : PhT) (Hi : HiT) (H : H8T) (Lg : LgT) (Pl : PlT) (Sn : SnT) (Ct : CtT) (Sc : ScT) (Tr : TrT) (o0 o1 : Option (LdT × FkT × PhT)) (M : MoT),
    pInv X R Ld F P Hi H Lg Pl Sn Ct Sc Tr o0 o1 M → A 0 0 = a1 → zq_k A K 0 o0 → zq_k A K 1 o1 →
    zj_J l G M_law [] (zq_F b L xs) k n (zq_W G am ao A K f pb X R Ld L2 F F2 P P2 Hi H Lg Pl Sn Ct Sc Tr o0 o1 M) (zq_lv b a1 (am 0) ao ii) pc []
