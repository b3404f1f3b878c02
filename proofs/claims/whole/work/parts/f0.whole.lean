/-! THE LAW: what is so at its start, its walk from the entry, the claim -/
theorem zs_arr {args : Array Value} {s : State} {ty : FieldType} (h : (Cond.arrayClass ty).before args s = true) (ho : ∀ C, ty ≠ .object C) : ∃ c, ArrOfT s c ty ∧ va_RA s c ty := by
  obtain ⟨c, k, comp, h1, h2, h3⟩ := Cond.arrayClass_spec (args := args) (first := s) (o := none) (s := s) (idx := []) h
  refine ⟨c, fun N z => ⟨(fun k h => by cases h), k, h2, comp, h3⟩, ?_⟩
  cases ty with
  | object C => exact absurd rfl (ho C)
  | _ => exact h1
theorem zs_obj {C : String} {s : State} (h : va_AO C s) : ∃ c, ArrOfT s c (.object C) ∧ va_RA s c (.object C) := by
  obtain ⟨comp, c, k, h1, h2, h3, h4, h5⟩ := Cond.arrayOver_spec h
  exact ⟨c, fun N z => ⟨(fun k h => by cases h), k, h3, comp, h4⟩, k, comp, h3, h4, h1, h5⟩
theorem zs_D {args : Array Value} {s : State} (hts : ∀ w ∈ lw_tbl, w.before args s = true) : ∃ D : va_G, ∀ (c : Nat) (q : vw_C), vwCl[c]? = some q → u_Kn s q.1 q.2.1 q.2.2 (D.1 c) (D.2 c) := by
  have h : ∀ c : Nat, ∃ p : ClassId × (Nat → Nat), ∀ q : vw_C, vwCl[c]? = some q → u_Kn s q.1 q.2.1 q.2.2 p.1 p.2 := by
    intro c
    cases hc : vwCl[c]? with
    | none => exact ⟨(0, fun _ => 0), fun q h => by cases h⟩
    | some q =>
      obtain ⟨a, b, hab⟩ := u_known (ws := zT) (C := q.1) (T := q.2.1) (N := q.2.2) (n := q.2.2) (fun w hw => hts w (zT_in w hw)) (zj_lays c q (by rw [zj_n_eq]; exact hc)) (hts _ ((show ∀ q ∈ vwCl, Cond.instantiable q.1 q.2.2 ∈ lw_tbl by decide +kernel) q (List.mem_of_getElem? hc)))
      exact ⟨(a, b), fun q' h => by cases h; exact hab⟩
  obtain ⟨f, hf⟩ := Classical.axiomOfChoice h
  exact ⟨(fun c => (f c).1, fun c => (f c).2), hf⟩
theorem zs_T {args : Array Value} {s : State} (hts : ∀ w ∈ lw_tbl, w.before args s = true) : ∃ T : Nat → ClassId, ∀ (k : Nat) (q : ClassId × FieldType), (zj_tys T)[k]? = some q → ArrOfT s q.1 q.2 ∧ va_RA s q.1 q.2 := by
  obtain ⟨c0, h0⟩ := zs_arr (hts (.arrayClass .byte) (zT_in _ zw_1_144)) (fun C h => by cases h)
  obtain ⟨c1, h1⟩ := zs_arr (hts (.arrayClass .int) (zT_in _ zw_1_207)) (fun C h => by cases h)
  obtain ⟨c2, h2⟩ := zs_arr (hts (.arrayClass .long) (zT_in _ zw_1_145)) (fun C h => by cases h)
  obtain ⟨c3, h3⟩ := zs_arr (hts (.arrayClass .boolean) (zT_in _ zw_6_192)) (fun C h => by cases h)
  obtain ⟨c4, h4⟩ := zs_obj (va_AO.of (hts (.arrayOver (.object "RoadToPort$Folk")) (by decide +kernel)))
  obtain ⟨c5, h5⟩ := zs_obj (va_AO.of (hts (.arrayOver (.object "RoadToPort$Land")) (by decide +kernel)))
  obtain ⟨c6, h6⟩ := zs_obj (va_AO.of (hts (.arrayOver (.object "RoadToPort$Phrase")) (by decide +kernel)))
  refine ⟨fun i => [c0, c1, c2, c3, c4, c5, c6].getD i c0, fun k q hq => ?_⟩
  match k, hq with
  | 0, hq => cases hq; exact h0
  | 1, hq => cases hq; exact h1
  | 2, hq => cases hq; exact h2
  | 3, hq => cases hq; exact h3
  | 4, hq => cases hq; exact h4
  | 5, hq => cases hq; exact h5
  | 6, hq => cases hq; exact h6
  | k + 7, hq => simp [zj_tys] at hq
def zs_tm (i : Nat) : Term := match zj_n zj_sx i with
  | some q => .string q.1 q.2.1
  | none => .int 0
def zs_all : List Cond := flatC (Jvm.Cond.and given_1 narrow_1)
theorem zs_ex : ∀ i : Nat, i < 8 → Cond.exactly (zs_tm i) "java/lang/String" ∈ zs_all := by decide +kernel
theorem zs_co : ∀ i : Nat, i < 8 → Cond.eq (.field (zs_tm i) "java/lang/String" "coder" "B") (.int 0) ∈ zs_all := by decide +kernel
theorem zs_ar : ∀ i : Nat, i < 8 → Cond.arrayOf (.field (zs_tm i) "java/lang/String" "value" "[B") .byte ∈ zs_all := by decide +kernel
theorem zs_le : ∀ i : Nat, i < 8 → Cond.eq (.length (.field (zs_tm i) "java/lang/String" "value" "[B")) (.int (Int32.ofNat (zj_slen.getD i 0))) ∈ zs_all := by decide +kernel
def zs_bs : List Nat := [73, 224, 233, 243, 251, 265, 281, 298]
def zs_ce (i j : Nat) : Cond := Cond.eq (.elem (.field (zs_tm i) "java/lang/String" "value" "[B") (.int (Int32.ofNat j))) (.int ((zj_sbyt.getD i []).getD j 0))
theorem zs_el0 : ∀ j : Nat, j < 147 → zs_all[73 + j]? = some (zs_ce 0 j) := by decide +kernel
theorem zs_el1 : ∀ i : Nat, i < 8 → ∀ j : Nat, j < zj_slen.getD i 0 → i ≠ 0 → zs_all[zs_bs.getD i 0 + j]? = some (zs_ce i j) := by decide +kernel
theorem zs_el (i : Nat) (hi : i < 8) (j : Nat) (hj : j < zj_slen.getD i 0) : Cond.eq (.elem (.field (zs_tm i) "java/lang/String" "value" "[B") (.int (Int32.ofNat j))) (.int ((zj_sbyt.getD i []).getD j 0)) ∈ zs_all := by
  by_cases h0 : i = 0
  · subst h0
    exact List.mem_of_getElem? (zs_el0 j hj)
  · exact List.mem_of_getElem? (zs_el1 i hi j hj h0)
theorem zs_ne : ∀ i : Nat, i < 8 → ∀ j : Nat, j < 8 → i ≠ j → Cond.not (Cond.eq (zs_tm i) (zs_tm j)) ∈ zs_all ∨ Cond.not (Cond.eq (zs_tm j) (zs_tm i)) ∈ zs_all := by decide +kernel
theorem zs_nest : ∀ q ∈ zj_nest, Cond.methodLinkNest q.1 q.2.1 q.2.2 "RoadToPort" ∈ lw_tbl := by decide +kernel
theorem zs_str : ∀ q ∈ zj_sx, Cond.stringRef q.1 q.2.1 q.2.2 ∈ lw_tbl := by decide +kernel
theorem zs_cast : ∀ q ∈ zj_xcast, Cond.castable q.1 q.2 ∈ lw_tbl := by decide +kernel
theorem zs_decl : ∀ q ∈ zj_xdecl, Cond.declares q ∈ lw_tbl := by decide +kernel
/-- what is so in all states, at the start -/
theorem zs_E {args : Array Value} {s : State} (hts : ∀ w ∈ lw_tbl, w.before args s = true) (hgv : (Jvm.Cond.and given_1 narrow_1).before args s = true) : ∃ G : zj_G, zj_E G (zj_A [] s.heap.size) s s.heap := by
  have hs : ∀ w ∈ zs_all, w.before args s = true := flat_of_before _ hgv
  have hA : ∀ a : Nat, a < s.heap.size → ¬ zj_A [] s.heap.size a := fun a h q => by have := zq_A q; omega
  obtain ⟨D, hD⟩ := zs_D hts
  obtain ⟨T, hT⟩ := zs_T hts
  obtain ⟨adK, adV, hS, hev⟩ := vk_Sof (args := args) (s := s) (N := 8) (tm := zs_tm) (len := zj_slen) (byt := zj_sbyt) (A := zj_A [] s.heap.size) (by decide +kernel) (fun i hi => hs _ (zs_ex i hi)) (fun i hi => hs _ (zs_co i hi)) (fun i hi => hs _ (zs_ar i hi)) (fun i hi => hs _ (zs_le i hi)) (fun i hi j hj => hs _ (zs_el i hi j hj))
    (fun i j hi hj hij => (zs_ne i hi j hj hij).imp (hs _) (hs _)) hA
  refine ⟨(D, T, adK, adV), ⟨hD, hT⟩, fun q hq => va_Nw.of rfl (hts _ (zs_nest q hq)), ⟨va_AO.of (hts (.arrayOver (.object "RoadToPort$Folk")) (by decide +kernel)), va_AO.of (hts (.arrayOver (.object "RoadToPort$Land")) (by decide +kernel)), va_AO.of (hts (.arrayOver (.object "RoadToPort$Phrase")) (by decide +kernel))⟩, hS, ?_,
    va_Zof (hts (.laysStatic "java/lang/String" "COMPACT_STRINGS" "Z") (by decide +kernel)) (hts (.initialized "java/lang/String") (by decide +kernel)) (va_eqt (hs (.eq (.static "java/lang/String" "COMPACT_STRINGS" "Z") (.int 1)) (by decide +kernel))) hA,
    va_Zqof (hts (.laysStatic "jdk/internal/util/Preconditions" "SIOOBE_FORMATTER" "Ljava/util/function/BiFunction;") (by decide +kernel)) (hts (.initialized "jdk/internal/util/Preconditions") (by decide +kernel)) (hs (.isRef (.static "jdk/internal/util/Preconditions" "SIOOBE_FORMATTER" "Ljava/util/function/BiFunction;")) (by decide +kernel)) hA,
    vx_Zqof (hts (.laysStatic Bundle.tN "UNASSIGNED_STACK" Bundle.steD) (by decide +kernel)) (hts (.initialized Bundle.tN) (by decide +kernel)) (hs (.isRef (.static Bundle.tN "UNASSIGNED_STACK" Bundle.steD)) (by decide +kernel)) hA,
    vx_Zqof (hts (.laysStatic Bundle.tN "SUPPRESSED_SENTINEL" Bundle.listD) (by decide +kernel)) (hts (.initialized Bundle.tN) (by decide +kernel)) (hs (.isRef (.static Bundle.tN "SUPPRESSED_SENTINEL" Bundle.listD)) (by decide +kernel)) hA,
    fun q hq => va_Nw.of rfl (hts _ (zs_cast q hq)), fun q hq => va_Nw.of rfl (hts _ (zs_decl q hq))⟩
  intro i q hq
  have hi : i < 8 := zj_n_lt hq
  have he := hev i hi
  have ht : zs_tm i = .string q.1 q.2.1 := by unfold zs_tm; rw [hq]
  rw [ht] at he
  exact vk_R.of (hts _ (zs_str q (zj_n_mem hq))) he
/-- what holds at the law's entry -/
def lw_At (p : Program) (s : State) (m : MethodId) (meth : Method) (c : Code) (b L : Nat) (xs : Nat → Int32) : Prop :=
  p.tables.exec = Jvm.exec ∧ c.code = code ∧ meth.sig.returnType = ret ∧ c.maxLocals = 8 ∧ s.vm.findClass R_law = some m.cls ∧ (∀ w ∈ lw_tbl, w.before #[Value.ref b] s = true) ∧ va_X b L xs s s.heap ∧ b < s.heap.size ∧ meth.locks = false ∧ (Jvm.Cond.and given_1 narrow_1).before #[Value.ref b] s = true ∧ ∀ x ∈ c.exceptionTable.toList, False
theorem whole_start {p : Program} {e : Env} {s : State} {m : MethodId} {below : List Frame} {meth : Method} {c : Code} (l : Launch) (hflags : l.flags = flags0) {b L : Nat} {xs : Nat → Int32} (hL : L ≤ 3072) (C0 : lw_At p s m meth c b L xs) : W p l e room_1 s m #[Value.ref b] below meth c s.heap [] 0 0 (lw_Z below #[Value.ref b] s) (entryFrame m ([Value.ref b] : List Value).toArray 8) := by
  obtain ⟨hx, hb, hr, hml, hown, hts, hX, hbl, hlocks, hgv, hexc⟩ := C0
  have hl : l.stackTraces = false := by
    unfold Launch.stackTraces
    rw [hflags]
    decide +kernel
  obtain ⟨G, hE⟩ := zs_E hts hgv
  have hlv := lv_entry ([.ref b]) (n := 8) (Nat.le_of_ble_eq_true rfl)
  rw [lg_entry_eq]
  have h := e_entry hl (G := G) (b := b) (xs := xs) hL p e s m #[Value.ref b] below meth c s.heap [] _ ⟨hx, hb, hml, hr, hown, fun w hw => hts w (zT_in w hw), hE, hlocks, (fun q => by cases q), hexc⟩ (fun k q h => by simp at h) ⟨fun i j p q h => by simp at h, fun k q h => by simp at h⟩ va_S.rf ⟨hlv, rfl⟩
  intro T hT X
  obtain ⟨t, a1, a2⟩ := h T hT X
  exact ⟨t, a1, a2 ⟨rfl, hX, hbl⟩⟩
set_option maxHeartbeats 4000000 in
theorem lw_walk (l : Launch) (hflags : l.flags = flags0) (b : Addr) (xs : List Int32) : MetFree l x (headSpec (Jvm.Cond.code x code maxLocals ret :: tables_1) room_1) (lw_P b xs) (fun _ _ _ _ _ => True) lw_Q := by
  refine MetFree.of_bodyS (code := code) (maxLocals := maxLocals) (ret := ret) (by decide) ?_ ?_
  · intro args s m h hn
    obtain ⟨meth, c, h1, h2, h3, h4, h5, h6, -, -⟩ := Cond.code_spec hn (atoms_spec (ws := Jvm.Cond.code x code maxLocals ret :: tables_1) h _ List.mem_cons_self)
    exact ⟨meth, c, h1, h2, h3, h4, h5, h6⟩
  · intro p e s m args below meth c s₁ B hml0 hP _
    obtain ⟨rfl, hx, hbd, hgv⟩ := hP
    obtain ⟨scr, harrAt, hlist, hof, hsmall⟩ := hx
    obtain ⟨hcb, hkn, -, -⟩ := State.arrayAt?_spec harrAt
    have hown : s.vm.findClass R_law = some m.cls := findClass_of_methodNamed B.named
    have hts0 : ∀ c ∈ (Jvm.Cond.code x code maxLocals ret :: tables_1), c.before #[Value.ref b] s = true := atoms_spec (ws := Jvm.Cond.code x code maxLocals ret :: tables_1) B.pre
    have hts : ∀ w ∈ lw_tbl, w.before #[Value.ref b] s = true := k2_hts_sels lw_privs (fun w hw => hts0 w (List.mem_cons_of_mem _ hw)) lw_privs_ok
    have hexc : ∀ x ∈ c.exceptionTable.toList, False := by
      obtain ⟨meth9, c9, h1, h2, -, -, -, -, h7, -⟩ := Cond.code_spec B.named (hts0 _ List.mem_cons_self)
      cases Option.some.inj (h1.symm.trans B.method)
      cases Option.some.inj (h2.symm.trans (Stand.of_body B).code)
      intro x hx
      rw [Array.isEmpty_iff.mp h7] at hx
      cases hx
    have hml : c.maxLocals = 8 := B.maxLocals_eq (hts0 _ List.mem_cons_self)
    have X₀ : Stand p l e room_1 s m #[Value.ref b] below meth c s₁ [] 0 0 := Stand.of_body B
    have hh0 : s₁.heap = s.heap := by rw [B.state]; rfl
    have hsz : scr.slots.size = xs.length := by rw [← Array.length_toList, hlist, List.length_map]
    have hval : ∀ j : Nat, j < xs.length → scr.slots[j]? = some (.int (xs.getD j 0)) := fun j hj => by
      rw [← Array.getElem?_toList, hlist]
      simp [hj]
    have hbl : b < s.heap.size := (Array.getElem?_eq_some_iff.mp hcb).1
    have hX : va_X b xs.length (fun j => xs.getD j 0) s s.heap := ⟨scr, hcb, hof, hkn, hsz, hval⟩
    have K : W p l e room_1 s m #[Value.ref b] below meth c s₁.heap [] 0 0 (lw_Z below #[Value.ref b] s) (entryFrame m ([Value.ref b] : List Value).toArray 8) := by
      rw [hh0]
      exact whole_start l hflags hbd ⟨B.exec, B.bytes, B.returns, hml, hown, hts, hX, hbl, B.notSynchronized, hgv, hexc⟩
    obtain ⟨t, a1, o, b1, b2, b3⟩ := K s₁ rfl X₀
    exact ⟨t, o, a1, b1, b2, b3⟩
theorem lw_pre_spec {args : Array Value} {s : State} (h : (Jvm.Cond.and given_1 narrow_1).before args s = true) (hr : rest_1_c.before args s = true) : ∃ (b : Addr) (xs : List Int32), lw_P b xs args s := by
  have hs := flat_of_before _ h
  have hq := flat_of_before _ hr
  have hc : (Cond.count 1).before args s = true := hs _ (by decide +kernel)
  have harr : (Cond.arrayOf (.arg 0) .int).before args s = true := hs _ (by decide +kernel)
  have hle : (Cond.le (.length (.arg 0)) (.int 3072)).before args s = true := hs _ (by decide +kernel)
  have hlen : (Cond.isInt (.length (.arg 0))).before args s = true := hq _ (by decide +kernel)
  have hall : (Cond.all (.arg 0) (.isInt (.elem (.arg 0) (.index 0)))).before args s = true := hq _ (by decide +kernel)
  obtain ⟨b, xs, hb, hx⟩ := State.ints_of_pre rfl harr hlen hall
  have hsm : xs.length < 2 ^ 31 := hx.choose_spec.2.2.2
  have hev : (Term.length (.arg 0)).eval args s none [] s = some (.int xs.length.toInt32) := hx.length_eval hb
  have hv := Cond.le_ints hev (show (Term.int 3072).eval args s none [] s = some (.int 3072) from rfl)
  have hd : xs.length.toInt32 ≤ 3072 := by
    simpa [Cond.before, Cond.holds, hv] using hle
  have hN : xs.length ≤ 3072 := (Int32.ofNat_le_ofNat hsm (by decide)).mp (show Int32.ofNat xs.length ≤ Int32.ofNat 3072 from hd)
  exact ⟨b, xs, Cond.one_arg hc (show args[0]? = some (.ref b) from hb), hx, hN, h⟩
theorem lw_comes (l : Launch) (hflags : l.flags = flags0) : Comes l x (Jvm.Cond.code x code maxLocals ret :: tables_1) room_1 (fun tb e args s => Calls_1 tb e args s ∧ rest_1 tb e args s ∧ Pre_1 tb e args s)
    (fun _ _ args s o t => lw_Q args s o t) := by
  intro p e ha hc hk s m args below hf hfit hheap happ hpre
  obtain ⟨b, xs, hP⟩ := lw_pre_spec hpre.2.2 hpre.2.1
  obtain ⟨k, o, h1, h2, h3, hQ⟩ := lw_walk l hflags b xs p e ha hc hk s m args below hf ((Spec.applies_iff_loose hf).mp happ).1 hP trivial
  exact ⟨k, o, h1, h2, h3, hQ⟩
theorem lw_frame {s t : State} {o : Outcome} {args : Array Value} (h : Framed s o t [] 601024 7293034) :
    Framed s o t (fieldLocs frame_1_writes args s ++ arrayLocs frame_1_arrays args s ++ staticLocs frame_1_statics s) 601024 7293034 := h
theorem lw_limb (L : Cond) (hL : ∀ (args : Array Value) (s t : State), L.after args s (.returned (some (.int 1))) t = true) :
    ArmFor flags0 classFile x code maxLocals ret World_1 tables_1 room_1 Calls_1 rest_1 Pre_1
      (fun tb e a s o t => postC L tb e a s o t ∧ Framed s o t (fieldLocs frame_1_writes a s ++ arrayLocs frame_1_arrays a s ++ staticLocs frame_1_statics s) 601024 7293034) := by
  intro l hflags _ _ p e ha hc hk s m args below hf hfit hheap happ hpre
  obtain ⟨k, o, h1, h2, h3, rfl, hF⟩ := lw_comes l hflags p e ha hc hk s m args below hf hfit hheap happ hpre
  exact ⟨k, _, h1, h2, h3, hL args s _, lw_frame hF⟩
theorem i_vc : Claimed_1_1 ∧ Claimed_1_2 := ⟨lw_limb limb_1_1 (fun args s t => by simp [limb_1_1, Cond.after, Cond.holds, Cond.value]), lw_limb limb_1_2 (fun args s t => Cond.after_iff.mpr (by
  first | (rw [show limb_1_2 = Cond.eq .result (.int 1) from rfl, Cond.eq_ints (x := 1) (y := 1) rfl rfl]; simp; done) | (simp [limb_1_2, Cond.value, Term.eval]; done)))⟩
