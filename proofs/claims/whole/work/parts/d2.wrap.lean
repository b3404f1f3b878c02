/-! a method with a table of handlers: the judgement zx_J, its rules, its contract zj_CW; the law's man, plan, ship -/
def zx_x (hh : List (Nat × Nat × Nat × Nat)) (p : Program) (s : State) (m : MethodId) (args : Array Value) (meth : Method) (c : Code) (M : zj_M) (G : zj_G) (W0 : List va_W) : Prop :=
  p.tables.exec = Jvm.exec ∧ c.code = M.2.1 ∧ c.maxLocals = M.2.2.1 ∧ meth.sig.returnType = M.2.2.2.1 ∧ s.vm.findClass M.1 = some m.cls ∧ (∀ w ∈ zT, w.before args s = true) ∧ zj_E G (zj_A W0 s.heap.size) s s.heap ∧ meth.locks = false ∧ c.exceptionTable.toList = tableOf hh
def zx_J (l : Launch) (G : zj_G) (M : zj_M) (hh : List (Nat × Nat × Nat × Nat)) (W0 : List va_W) (Φ : zj_F) (k n : Nat) (WW : List va_W) (lv : List (Option Value)) (pc : Nat) (st : List Value) : Prop :=
  ∀ (p : Program) (e : Env) (s : State) (m : MethodId) (args : Array Value) (below : List Frame) (meth : Method) (c : Code) (H : Heap) (locs : List Loc) (ls : Array Slot),
    zx_x hh p s m args meth c M G W0 → va_P G.1 vwCl WW.flatten H → va_D (zj_A W0 s.heap.size) WW.flatten → va_S (zj_A W0 s.heap.size) s.heap H locs → zj_L ls M.2.2.1 lv →
    W p l e M.2.2.2.2.1 s m args below meth c H locs k n (Φ s args below) (F0 m pc ls st)
def zj_CW (l : Launch) (G : zj_G) (M : zj_M) (hh : List (Nat × Nat × Nat × Nat)) (y : MethodName) (W0 : List va_W) (as : List Value) (rv : Option Value) (W1 : (Nat → Nat) → List va_W) : Prop :=
  ∀ sz, Met l y (.codeWith y M.2.1 M.2.2.1 M.2.2.2.1 hh :: zT) M.2.2.2.2.1 (va_Pc as (zj_Pc G W0 sz)) (zj_Q G W0 sz rv W1) M.2.2.2.2.1.cells M.2.2.2.2.1.slots (zj_A W0 sz)
theorem zx_ofW {l : Launch} {y : MethodName} {ws ws' : List Cond} {rm : Room} {Pc : Array Value → State → Prop} {Qc : Array Value → State → Outcome → State → Prop} {mc ms : Nat} {free : Addr → Prop} {cc : ByteArray} {maxL : Nat} {ret : Option FieldType} {hh : List (Nat × Nat × Nat × Nat)}
    (hy : plainName y.cls = true) (hw : ws = Cond.codeWith y cc maxL ret hh :: ws')
    (body : ∀ p e s m args below meth c s₁, BodyLoose p l y (headSpec ws rm) cc maxL ret e s m args below meth c s₁ → c.maxLocals = maxL → Pc args s →
      W p l e (headSpec ws rm).room s m args below meth c s.heap [] 0 0 (MQ below Qc args s mc ms free) (entryFrame m args maxL)) : Met l y ws rm Pc Qc mc ms free := by
  refine MetFree.of_bodyS (code := cc) (maxLocals := maxL) (ret := ret) hy ?_ ?_
  · intro args s m h hn
    obtain ⟨m9, meth, c, hn9, h1, h2, h3, h4, -, h5, h6, -⟩ := Cond.codeWith_spec (atoms_spec (ws := ws) h _ (by rw [hw]; exact List.mem_cons_self))
    cases hn.symm.trans hn9
    exact ⟨meth, c, h1, h2, h3, h4, h5, h6⟩
  · intro p e s m args below meth c s₁ B hml hP _
    have hh0 : s₁.heap = s.heap := by rw [B.state]; rfl
    obtain ⟨t, a1, o, b1, b2, b3⟩ := body p e s m args below meth c s₁ B hml hP s₁ hh0 (Stand.of_body B)
    exact ⟨t, o, a1, b1, b2, b3⟩
theorem zx_entry {l : Launch} {G : zj_G} {M : zj_M} {hh : List (Nat × Nat × Nat × Nat)} {y : MethodName} {W0 : List va_W} {as : List Value} {rv : Option Value} {W1 : (Nat → Nat) → List va_W} (lv : List (Option Value)) (hy : plainName y.cls = true) (ho : y.cls = M.1) (hlen : (lg_sl as).length ≤ M.2.2.1)
    (hlv : zj_as 0 lv = lv_args 0 as) (hln : lv.length = M.2.2.1) (h : zx_J l G M hh W0 (zj_ret G M W0 rv W1) 0 0 W0 lv 0 []) : zj_CW l G M hh y W0 as rv W1 := by
  intro sz
  refine zx_ofW (cc := M.2.1) (maxL := M.2.2.1) (ret := M.2.2.2.1) (hh := hh) hy rfl ?_
  intro p e s m args below meth c s₁ B hml hv
  obtain ⟨rfl, hsz, hP, hD0, hE⟩ := hv
  have hts := atoms_spec (ws := .codeWith y M.2.1 M.2.2.1 M.2.2.2.1 hh :: zT) B.pre
  have hown : s.vm.findClass y.cls = some m.cls := findClass_of_methodNamed B.named
  subst hsz
  have hD : va_D (zj_A W0 s.heap.size) W0.flatten := hD0.self (sz := s.heap.size)
  have hl := lv_entry as (n := M.2.2.1) hlen
  rw [lg_entry_eq]
  exact h p e s m as.toArray below meth c s.heap [] _ ⟨B.exec, B.bytes, hml, B.returns, by rw [← ho]; exact hown, fun w hw => hts w (List.mem_cons_of_mem _ hw), hE, B.notSynchronized, vx_table (x := y) B (hts _ List.mem_cons_self)⟩ hP hD va_S.rf ⟨by rw [hlv]; exact hl, hln⟩
section
variable {l : Launch} {G : zj_G} {M : zj_M} {hh : List (Nat × Nat × Nat × Nat)} {W0 : List va_W} {Φ : zj_F} {k n : Nat} {WW : List va_W} {lv : List (Option Value)} {pc : Nat} {st : List Value}
theorem zx_iload_n {i : Fin 4} {x : Int32} (hi : zj_n lv i.val = some (some (.int x))) (hd : decode M.2.1 pc = .ok (.iload_n i, 1)) (kk : zx_J l G M hh W0 Φ k n WW (lv) (pc + 1) (.int x :: st)) : zx_J l G M hh W0 Φ k n WW lv pc (st) := by
  intro p e s m args below meth c H locs ls C hP hD hS hl
  exact lv_iload_n C.1 C.2.1 hd rfl (hl.at hi) (kk p e s m args below meth c H locs ls C hP hD hS hl)
theorem zx_aload_n {i : Fin 4} {x : Nat} (hi : zj_n lv i.val = some (some (.ref x))) (hd : decode M.2.1 pc = .ok (.aload_n i, 1)) (kk : zx_J l G M hh W0 Φ k n WW (lv) (pc + 1) (.ref x :: st)) : zx_J l G M hh W0 Φ k n WW lv pc (st) := by
  intro p e s m args below meth c H locs ls C hP hD hS hl
  exact lv_aload_n C.1 C.2.1 hd rfl (hl.at hi) (kk p e s m args below meth c H locs ls C hP hD hS hl)
theorem zx_aload {i : Nat} {x : Nat} (hi : zj_n lv i = some (some (.ref x))) (hd : decode M.2.1 pc = .ok (.aload i, 2)) (kk : zx_J l G M hh W0 Φ k n WW (lv) (pc + 2) (.ref x :: st)) : zx_J l G M hh W0 Φ k n WW lv pc (st) := by
  intro p e s m args below meth c H locs ls C hP hD hS hl
  exact lv_aload C.1 C.2.1 hd (hl.at hi) (kk p e s m args below meth c H locs ls C hP hD hS hl)
theorem zx_astore {i : Nat} {x : Nat} {o : Option Value} (hi : zj_n lv i = some o) (hd : decode M.2.1 pc = .ok (.astore i, 2)) (kk : zx_J l G M hh W0 Φ k n WW (zj_st1 lv i (.ref x)) (pc + 2) (st)) : zx_J l G M hh W0 Φ k n WW lv pc (.ref x :: st) := by
  intro p e s m args below meth c H locs ls C hP hD hS hl
  exact lv_astore C.1 C.2.1 hd hl.1 (hl.2 ▸ zj_n_lt hi) rfl (fun ls2 hl2 => kk p e s m args below meth c H locs ls2 C hP hD hS (zj_L.st1 hl.2 hl2))
theorem zx_iconst {i : Int} {v : Int32} (hv : Int32.ofInt i = v) (hd : decode M.2.1 pc = .ok (.iconst i, 1)) (kk : zx_J l G M hh W0 Φ k n WW (lv) (pc + 1) (.int v :: st)) : zx_J l G M hh W0 Φ k n WW lv pc (st) := by
  intro p e s m args below meth c H locs ls C hP hD hS hl
  exact lv_iconst C.1 C.2.1 hd hv (kk p e s m args below meth c H locs ls C hP hD hS hl)
theorem zx_i2l {x : Int32} (hd : decode M.2.1 pc = .ok (.i2l, 1)) (kk : zx_J l G M hh W0 Φ k n WW (lv) (pc + 1) (.long x.toInt64 :: st)) : zx_J l G M hh W0 Φ k n WW lv pc (.int x :: st) := by
  intro p e s m args below meth c H locs ls C hP hD hS hl
  exact lv_i2l C.1 C.2.1 hd rfl (kk p e s m args below meth c H locs ls C hP hD hS hl)
theorem zx_goto {off : Int} {tgt : Nat} (hd : decode M.2.1 pc = .ok (.goto off, 3)) (ht : (pc : Int) + off = (tgt : Int)) (kk : zx_J l G M hh W0 Φ k n WW lv tgt st) : zx_J l G M hh W0 Φ k n WW lv pc st := by
  intro p e s m args below meth c H locs ls C hP hD hS hl
  exact lv_goto C.1 C.2.1 hd ht (kk p e s m args below meth c H locs ls C hP hD hS hl)
theorem zx_last {b c' a a' N : Nat} {cA : ClassId} {f : Nat → Int64} {i : Int32} {x : Int64} (hc : zj_c WW b c' = some (a', .inl (cA, N, .inr (.inl f)))) (ha : a = a') (hA : cA = G.2.1 2) (hi : zb_in i N = true) (hd : decode M.2.1 pc = .ok (.lastore, 1)) (kk : zx_J l G M hh W0 Φ k n (zj_set WW b c' (a', .inl (cA, N, .inr (.inl (vp_updL f i.toNatClampNeg x))))) lv (pc + 1) st) : zx_J l G M hh W0 Φ k n WW lv pc (.long x :: .int i :: .ref a :: st) := by
  intro p e s m args below meth c H locs ls C hP hD hS hl
  subst ha
  refine va_last C.1 C.2.1 C.2.2.2.2.2.2.1.K hP hD hS (zj_off WW b + c') 2 (zj_flat_at WW b c' hc) (by rw [hA]; rfl) (zb_in_of hi) hd (fun H1 locs1 hP1 hD1 hS1 => ?_)
  rw [zj_flat_set WW b c' _ hc] at hP1 hD1
  exact kk p e s m args below meth c H1 locs1 ls C hP1 hD1 hS1 hl
theorem zx_iret {v : Int32} {rv : Option Value} {W1 : (Nat → Nat) → List va_W} {b0 : Nat → Nat} (hd : decode M.2.1 pc = .ok (.ireturn, 1)) (hr : M.2.2.2.1 = some .int) (hrv : rv = some (.int v)) (hW : W1 b0 = WW) (hk : k = M.2.2.2.2.1.cells) (hn : n = M.2.2.2.2.1.slots) : zx_J l G M hh W0 (zj_ret G M W0 rv W1) k n WW lv pc [.int v] := by
  intro p e s m args below meth c H locs ls C hP hD hS hl
  subst hk; subst hn; subst hrv; subst hW
  exact W.iret C.1 C.2.1 (C.2.2.2.1.trans hr) (fun t ht hW => ⟨⟨b0, rfl, by rw [ht]; exact hP, hD⟩, hS.F ht⟩) hS.2.2 hd C.2.2.2.2.2.2.2.1
theorem zx_PcTo {p : Program} {s : State} {m : MethodId} {args : Array Value} {meth : Method} {c : Code} {H : Heap} {locs : List Loc} {WC : List va_W} (C : zx_x hh p s m args meth c M G W0) (hP : va_P G.1 vwCl WW.flatten H) (hD : va_D (zj_A W0 s.heap.size) WW.flatten) (hS : va_S (zj_A W0 s.heap.size) s.heap H locs)
    {is : List Nat} (hsel : is.map (zj_n WW) = WC.map some) (hn : va_nd is = true) (as : List Value) : ∀ U : State, U.heap = H → s.WarmedH U.vm → va_Pc as (zj_Pc G WC H.size) as.toArray U := by
  intro U hU hW
  refine ⟨rfl, by rw [hU], by rw [hU]; exact zj_selP hP hsel, (zj_selD hD hsel hn).weaken (fun _ _ _ _ => trivial), ?_⟩
  rw [hU]
  exact C.2.2.2.2.2.2.1.go hW hS (zj_selA hD hsel hS.1 (fun q h => Or.inr h))
/-- a call of a method that may throw, where the table takes what it throws -/
theorem zx_callX {MC : zj_M} {y : MethodName} {WC : List va_W} {ro : Option (Option Value)} {W1C WW' : (Nat → Nat) → List va_W} {As : List Value} {a ci i : Nat} {fs : List Value} {stk : List Value} {x0 x1 x2 x3 : Nat} (hC : zj_CX l G MC y WC (.ref a :: As) ro W1C) (is : List Nat) (hsel : is.map (zj_n WW) = WC.map some) (hn : va_nd is = true) (hlen : ∀ b, is.length ≤ (W1C b).length) (hrep : ∀ b, zj_rep WW is (W1C b) = WW' b)
    (hstk : stk = As.reverse ++ .ref a :: st) (hy : zj_nm y As.length) (w1 : Cond.methodLink M.1 i y ∈ zT) (w2 : Cond.instanceMethod y ∈ zT) (w3 : Cond.selects y.cls y y ∈ zT) (w4 : Cond.initialized y.cls ∈ zT) (w5 : Cond.code y MC.2.1 MC.2.2.1 MC.2.2.2.1 ∈ zT)
    (hrc : zj_c WC 0 0 = some (a, .inr (ci, fs))) (hcl : (zj_n vwCl ci).map (·.1) = some y.cls) (hrm : zj_rm M.2.2.2.2.1 MC = true) (hcat : (st.map fun v => v.category).sum ≤ 8) (hcs : k + MC.2.2.2.2.1.cells ≤ M.2.2.2.2.1.cells ∧ n + MC.2.2.2.2.1.slots ≤ M.2.2.2.2.1.slots)
    (hd : decode M.2.1 pc = .ok (.invokevirtual i, 3)) (ht : hh = [(x0, x1, x2, x3)]) (hx : covers ⟨x0, x1, x2, x3⟩ pc = true) (hx3 : x3 ≠ 0) (w6 : Cond.classLink M.1 x3 "java/util/NoSuchElementException" ∈ zT)
    (kk : ∀ rv, ro = some rv → ∀ b, zx_J l G M hh W0 Φ (k + MC.2.2.2.2.1.cells) (n + MC.2.2.2.2.1.slots) (WW' b) lv (pc + 3) (rv.toList ++ st))
    (kx : ro = none → ∀ b q, zx_J l G M hh W0 Φ (k + MC.2.2.2.2.1.cells) (n + MC.2.2.2.2.1.slots) (WW' b) lv x2 [.ref q]) : zx_J l G M hh W0 Φ k n WW lv pc stk := by
  intro p e s m args below meth c H locs ls C hP hD hS hl
  subst hstk
  have hT : GoodIn zT (wsV M.1 i y.cls y (.code y MC.2.1 MC.2.2.1 MC.2.2.2.1 :: zT)) := zj_good _ (fun w hw => by
    simp only [wsV, List.cons_append, List.nil_append, List.mem_cons] at hw
    rcases hw with rfl | rfl | rfl | rfl | rfl | hw
    · exact w1
    · exact w2
    · exact w3
    · exact w4
    · exact w5
    · exact hw)
  obtain ⟨Cl, hCl, hCe⟩ : ∃ Cl, zj_n vwCl ci = some Cl ∧ Cl.1 = y.cls := by
    cases hq : zj_n vwCl ci with
    | none => rw [hq] at hcl; cases hcl
    | some Cl => rw [hq] at hcl; exact ⟨Cl, rfl, Option.some.inj hcl⟩
  have hPC := zj_selP hP hsel
  have hrecv := va_recv C.2.2.2.2.2.2.1.K hPC (ci := ci) (q := Cl) (by rw [← zj_n_eq]; exact hCl) (zj_flat_at WC 0 0 hrc)
  rw [hCe] at hrecv
  have hr := vx_runV (l := l) (e := e) (R := M.2.2.2.2.1) (below := below) (meth := meth) (locs := locs) (cells := k) (slots := n) (g := F0 m pc ls (As.reverse ++ .ref a :: st)) (rest := st) ⟨C.1, C.2.1, C.2.2.1, C.2.2.2.2.1, C.2.2.2.2.2.1⟩ (hC H.size) (cwV (ws' := zT) As.length C.2.2.2.2.2.1 hT rfl rfl rfl ⟨rfl, hy.1, hy.2.1, hy.2.2⟩ (zj_rm_of hrm))
    ⟨zj_PcBlind, hrecv, zx_PcTo C hP hD hS hsel hn _⟩ rfl rfl hl.1.1 rfl (lv_room hcat) hd hcs
  have hA : ∀ q, s.heap.size ≤ q → zj_A W0 s.heap.size q := fun q h => Or.inr h
  have hF : ∀ q, va_A WC.flatten H.size q → zj_A W0 s.heap.size q := zj_selA hD hsel hS.1 hA
  intro T hT2 X
  rcases hr T hT2 X with ⟨v, st₀, t, T', L, h0, X', hL, e1, e2, hq, st1⟩ | ⟨q, st₀, t, T', L, E, ce, h0, X', hL, e1, e2, hq, hce, hcv, hcl2, st1⟩
  · cases hro : ro with
    | none => rw [hro] at hq; exact hq.elim
    | some rv =>
      rw [hro] at hq
      obtain ⟨⟨b, hv, hP1, hD1⟩, hz, hk⟩ := hq
      cases hv
      rw [h0] at hz hk
      have hj := zj_join hP hD hsel hn (hlen b) hk hF hP1 hD1
      rw [hrep b] at hj
      rw [← e1] at hj hz hk
      obtain ⟨t2, a1, b1⟩ := kk v hro b p e s m args below meth c T'.heap (locs ++ L) ls C hj.1 hj.2
        ⟨Nat.le_trans hS.1 hz, fun q h1 h2 => by rw [hk q (Nat.lt_of_lt_of_le h1 hS.1) (fun z => h2 (hF q z))]; exact hS.2.1 q h1 h2, fun q hq => by
          rcases List.mem_append.mp hq with h | h
          · exact hS.2.2 q h
          · exact hF _ (hL q h)⟩ hl T' rfl X'
      exact ⟨t2, st1 t2 a1, b1⟩
  · cases hro : ro with
    | some rv => rw [hro] at hq; exact hq.elim
    | none =>
      rw [hro] at hq
      obtain ⟨rfl, ⟨b, hP1, hD1⟩, hz, hk⟩ := hq
      rw [h0] at hz hk
      have hj := zj_join hP hD hsel hn (hlen b) hk hF hP1 hD1
      rw [hrep b] at hj
      rw [← e1] at hj hz hk
      have hcat2 : (Cond.castable "java/util/NoSuchElementException" "java/util/NoSuchElementException").before args s = true :=
        va_Nw.use rfl (C.2.2.2.2.2.2.1.2.2.2.2.2.2.2.2.2.1 ("java/util/NoSuchElementException", "java/util/NoSuchElementException") (List.mem_singleton.mpr rfl))
      obtain ⟨t2, a1, b1⟩ := vx_catch (ls := ls) (rest := st) (pc := pc) (own := M.1) (name := "java/util/NoSuchElementException") (Q := Φ s args below) C.2.2.2.2.1 [] ⟨x0, x1, x2, x3⟩ [] (by rw [C.2.2.2.2.2.2.2.2, ht]; rfl) (fun z hz => absurd hz List.not_mem_nil) hx hx3
        (C.2.2.2.2.2.1 _ w6) hcat2 (H := T'.heap) (by rw [e1]; exact hce) hcv hcl2
        (kx hro b q p e s m args below meth c T'.heap (locs ++ L) ls C hj.1 hj.2
        ⟨Nat.le_trans hS.1 hz, fun q h1 h2 => by rw [hk q (Nat.lt_of_lt_of_le h1 hS.1) (fun z => h2 (hF q z))]; exact hS.2.1 q h1 h2, fun q hq => by
          rcases List.mem_append.mp hq with h | h
          · exact hS.2.2 q h
          · exact hF _ (hL q h)⟩ hl) T' rfl X'
      exact ⟨t2, st1.trans a1, b1⟩
/-- the law calls a static method of its own that has a table -/
theorem zr_callSW {MC : zj_M} {y : MethodName} {WC : List va_W} {rvC : Option Value} {W1C WW' : (Nat → Nat) → List va_W} {As : List Value} {i : Nat} {stk st' : List Value} (hC : zj_CW l G MC hh y WC As rvC W1C) (is : List Nat) (hsel : is.map (zj_n WW) = WC.map some) (hn : va_nd is = true) (hlen : ∀ b, is.length ≤ (W1C b).length) (hrep : ∀ b, zj_rep WW is (W1C b) = WW' b)
    (hstk : stk = As.reverse ++ st) (hst : rvC.toList ++ st = st') (hy : zj_nm y As.length) (w1 : Cond.methodLink M.1 i y ∈ zT) (w2 : Cond.static y ∈ zT) (w4 : Cond.initialized y.cls ∈ zT) (w5 : Cond.codeWith y MC.2.1 MC.2.2.1 MC.2.2.2.1 hh ∈ zT)
    (hrm : zj_rm M.2.2.2.2.1 MC = true) (hcat : (st.map fun v => v.category).sum ≤ 8) (hcs : k + MC.2.2.2.2.1.cells ≤ M.2.2.2.2.1.cells ∧ n + MC.2.2.2.2.1.slots ≤ M.2.2.2.2.1.slots)
    (hd : decode M.2.1 pc = .ok (.invokestatic i, 3)) (kk : ∀ b, zj_J l G M W0 Φ (k + MC.2.2.2.2.1.cells) (n + MC.2.2.2.2.1.slots) (WW' b) lv (pc + 3) st') : zj_J l G M W0 Φ k n WW lv pc stk := by
  intro p e s m args below meth c H locs ls C hP hD hS hl
  subst hstk
  have hT : GoodIn zT (va_wsS M.1 i y (.codeWith y MC.2.1 MC.2.2.1 MC.2.2.2.1 hh :: zT)) := zj_good _ (fun w hw => by
    simp only [va_wsS, List.cons_append, List.nil_append, List.mem_cons] at hw
    rcases hw with rfl | rfl | rfl | rfl | hw
    · exact w1
    · exact w2
    · exact w4
    · exact w5
    · exact hw)
  exact zj_after (MC := MC) C hP hD hS hl is hsel hn hlen hrep hst (vx_runSW ⟨C.1, C.2.1, C.2.2.1, C.2.2.2.2.1, C.2.2.2.2.2.1⟩ (hC H.size) (vx_cwSW (ws' := zT) As.length C.2.2.2.2.2.1 hT rfl rfl rfl hy (zj_rm_of hrm))
    ⟨zj_PcBlind, zj_PcTo C hP hD hS hsel hn _⟩ rfl rfl hl.1.1 rfl (lv_room hcat) hd hcs) kk
end
/-- the law's one cell -/
def w_Ou (G : zj_G) (ao : Nat) (f : Nat → Int64) : va_W := [(ao, .inl (G.2.1 2, 1, .inr (.inl f)))]
def M_L_man : zj_M := (RL, cL_man, 5, some .int, { frames := 7, cells := 1, slots := 6, locals := 140 }, false)
def M_L_plan : zj_M := (RL, cL_plan, 5, some .int, { frames := 7, cells := 1, slots := 6, locals := 140 }, false)
def M_L_plaQ : zj_M := (RL, cL_plan, 5, some .int, { frames := 7, cells := 2, slots := 3794, locals := 160 }, false)
def M_L_ship : zj_M := (RL, cL_ship, 6, some .int, { frames := 7, cells := 1, slots := 6, locals := 140 }, false)
/-- 1 where it was thrown -/
def zk1 {α : Type} (r : Option α) : Int32 := match r with
  | none => 1
  | some _ => 0
def zo1 {α : Type} (f : Nat → Int64) (g : α → Int64) (r : Option α) : Nat → Int64 := match r with
  | none => f
  | some q => vp_updL f 0 (g q)
theorem c_L_man (l : Launch) (G : zj_G) (hl : l.stackTraces = false) (A : Nat → Nat → Nat) (K : Nat → Nat → Option Nat) (ao : Nat) (f : Nat → Int64) (s0 : XxT) (s1 : LdT) (s2 : FkT) (x1 : Int32) (x2 : Int32) (r : Option (Int32)) (hf : f_X11_man s0 s1 s2 x1 x2 = some r) :
    zj_CW l G M_L_man [(0, 10, 13, 13)] yL_man [w_Xx G A K s0, w_Ld G (A 2) s1, w_Fk G (A 4) s2, w_Ou G ao f] [.ref (A 0 0), .int x1, .int x2, .ref ao] (some (.int (zk1 r))) (fun b => [w_Xx G A K s0, w_Ld G (A 2) s1, w_Fk G (A 4) s2, w_Ou G ao (zo1 f Int32.toInt64 r)]) := by
  refine zx_entry [some (.ref (A 0 0)), some (.int x1), some (.int x2), some (.ref ao), none] rfl rfl (by show 4 ≤ 5; decide) rfl rfl ?_
  refine zx_aload_n (i := 3) rfl (by decide +kernel) ?_
  refine zx_iconst (i := 0) (v := 0) rfl (by decide +kernel) ?_
  refine zx_aload_n (i := 0) rfl (by decide +kernel) ?_
  refine zx_iload_n (i := 1) rfl (by decide +kernel) ?_
  refine zx_iload_n (i := 2) rfl (by decide +kernel) ?_
  refine zx_callX (WW' := fun b => [w_Xx G A K s0, w_Ld G (A 2) s1, w_Fk G (A 4) s2, w_Ou G ao f]) (c_X11_man l G hl A K s0 s1 s2 x1 x2 r hf) [0, 1, 2] rfl rfl (fun _ => by show 3 ≤ 3; decide) (fun _ => rfl) (st := [.int 0, .ref ao]) rfl nm_X11_man zw_5_143 zw_5_144 zw_5_145 zw_1_1 zw_5_146 rfl rfl rfl (show 2 ≤ 8 by decide) ⟨by decide, by decide⟩ (by decide +kernel) rfl (by decide +kernel) (by decide) zw_5_142 ?_ ?_
  · intro rv hrv b
    cases r with
    | none => cases hrv
    | some q =>
      cases hrv
      refine zx_i2l (by decide +kernel) ?_
      refine zx_last (b := 3) (c' := 0) rfl rfl rfl rfl (by decide +kernel) ?_
      refine zx_goto (off := 7) (tgt := 17) (by decide +kernel) (by decide) ?_
      refine zx_iconst (i := 0) (v := 0) rfl (by decide +kernel) ?_
      exact zx_iret (b0 := b) (by decide +kernel) rfl rfl rfl rfl rfl
  · intro hro b q
    cases r with
    | some q => cases hro
    | none =>
      refine zx_astore (i := 4) rfl (by decide +kernel) ?_
      refine zx_iconst (i := 1) (v := 1) rfl (by decide +kernel) ?_
      exact zx_iret (b0 := b) (by decide +kernel) rfl rfl rfl rfl rfl
theorem c_L_plan (l : Launch) (G : zj_G) (hl : l.stackTraces = false) (A : Nat → Nat → Nat) (K : Nat → Nat → Option Nat) (ao : Nat) (f : Nat → Int64) (s0 : XxT) (s1 : LdT) (s2 : FkT) (s3 : PlT) (x1 : Int32) (x2 : Int32) (r : Option (Int64 × PlT)) (hf : f_X11_plan s0 s1 s2 s3 x1 x2 = some r) :
    zj_CW l G M_L_plan [(0, 9, 12, 13)] yL_plan [w_Xx G A K s0, w_Ld G (A 2) s1, w_Fk G (A 4) s2, w_Pl G (A 18) s3, w_Ou G ao f] [.ref (A 0 0), .int x1, .int x2, .ref ao] (some (.int (zk1 r))) (fun b => [w_Xx G A K s0, w_Ld G (A 2) s1, w_Fk G (A 4) s2, w_Pl G (A 18) (r.elim s3 fun q => q.2), w_Ou G ao (zo1 f Prod.fst r)]) := by
  refine zx_entry [some (.ref (A 0 0)), some (.int x1), some (.int x2), some (.ref ao), none] rfl rfl (by show 4 ≤ 5; decide) rfl rfl ?_
  refine zx_aload_n (i := 3) rfl (by decide +kernel) ?_
  refine zx_iconst (i := 0) (v := 0) rfl (by decide +kernel) ?_
  refine zx_aload_n (i := 0) rfl (by decide +kernel) ?_
  refine zx_iload_n (i := 1) rfl (by decide +kernel) ?_
  refine zx_iload_n (i := 2) rfl (by decide +kernel) ?_
  refine zx_callX (WW' := fun b => [w_Xx G A K s0, w_Ld G (A 2) s1, w_Fk G (A 4) s2, w_Pl G (A 18) (r.elim s3 fun q => q.2), w_Ou G ao f]) (c_X11_plan l G hl A K s0 s1 s2 s3 x1 x2 r hf) [0, 1, 2, 3] rfl rfl (fun _ => by show 4 ≤ 4; decide) (fun _ => rfl) (st := [.int 0, .ref ao]) rfl nm_X11_plan zw_5_211 zw_5_212 zw_5_213 zw_1_1 zw_5_214 rfl rfl rfl (show 2 ≤ 8 by decide) ⟨by decide, by decide⟩ (by decide +kernel) rfl (by decide +kernel) (by decide) zw_5_142 ?_ ?_
  · intro rv hrv b
    cases r with
    | none => cases hrv
    | some q =>
      cases hrv
      refine zx_last (b := 4) (c' := 0) rfl rfl rfl rfl (by decide +kernel) ?_
      refine zx_goto (off := 7) (tgt := 16) (by decide +kernel) (by decide) ?_
      refine zx_iconst (i := 0) (v := 0) rfl (by decide +kernel) ?_
      exact zx_iret (b0 := b) (by decide +kernel) rfl rfl rfl rfl rfl
  · intro hro b q
    cases r with
    | some q => cases hro
    | none =>
      refine zx_astore (i := 4) rfl (by decide +kernel) ?_
      refine zx_iconst (i := 1) (v := 1) rfl (by decide +kernel) ?_
      exact zx_iret (b0 := b) (by decide +kernel) rfl rfl rfl rfl rfl
theorem c_L_plaQ (l : Launch) (G : zj_G) (hl : l.stackTraces = false) (A : Nat → Nat → Nat) (K : Nat → Nat → Option Nat) (ao : Nat) (f : Nat → Int64) (s0 : XxT) (s1 : LdT) (s2 : FkT) (s3 : PlT) (x1 : Int32) (x2 : Int32) (r : Option (Int64 × PlT)) (hf : f_X11_plan s0 s1 s2 (pl0 s3) x1 x2 = some r) :
    zj_CW l G M_L_plaQ [(0, 9, 12, 13)] yL_plan [w_Xx G A K s0, w_Ld G (A 2) s1, w_Fk G (A 4) s2, w_P0 G (A 18) s3, w_Ou G ao f] [.ref (A 0 0), .int x1, .int x2, .ref ao] (some (.int (zk1 r))) (fun b => [w_Xx G A K s0, w_Ld G (A 2) s1, w_Fk G (A 4) s2, zpl G (A 18) s3 r b, w_Ou G ao (zo1 f Prod.fst r)]) := by
  refine zx_entry [some (.ref (A 0 0)), some (.int x1), some (.int x2), some (.ref ao), none] rfl rfl (by show 4 ≤ 5; decide) rfl rfl ?_
  refine zx_aload_n (i := 3) rfl (by decide +kernel) ?_
  refine zx_iconst (i := 0) (v := 0) rfl (by decide +kernel) ?_
  refine zx_aload_n (i := 0) rfl (by decide +kernel) ?_
  refine zx_iload_n (i := 1) rfl (by decide +kernel) ?_
  refine zx_iload_n (i := 2) rfl (by decide +kernel) ?_
  refine zx_callX (WW' := fun b => [w_Xx G A K s0, w_Ld G (A 2) s1, w_Fk G (A 4) s2, zpl G (A 18) s3 r b, w_Ou G ao f]) (c_X11_plaQ l G hl A K s0 s1 s2 s3 x1 x2 r hf) [0, 1, 2, 3] rfl rfl (fun _ => by show 4 ≤ 4; decide) (fun _ => rfl) (st := [.int 0, .ref ao]) rfl nm_X11_plan zw_5_211 zw_5_212 zw_5_213 zw_1_1 zw_5_214 rfl rfl rfl (show 2 ≤ 8 by decide) ⟨by decide, by decide⟩ (by decide +kernel) rfl (by decide +kernel) (by decide) zw_5_142 ?_ ?_
  · intro rv hrv b
    cases r with
    | none => cases hrv
    | some q =>
      cases hrv
      refine zx_last (b := 4) (c' := 0) rfl rfl rfl rfl (by decide +kernel) ?_
      refine zx_goto (off := 7) (tgt := 16) (by decide +kernel) (by decide) ?_
      refine zx_iconst (i := 0) (v := 0) rfl (by decide +kernel) ?_
      exact zx_iret (b0 := b) (by decide +kernel) rfl rfl rfl rfl rfl
  · intro hro b q
    cases r with
    | some q => cases hro
    | none =>
      refine zx_astore (i := 4) rfl (by decide +kernel) ?_
      refine zx_iconst (i := 1) (v := 1) rfl (by decide +kernel) ?_
      exact zx_iret (b0 := b) (by decide +kernel) rfl rfl rfl rfl rfl
theorem c_L_ship (l : Launch) (G : zj_G) (hl : l.stackTraces = false) (A : Nat → Nat → Nat) (K : Nat → Nat → Option Nat) (ao : Nat) (f : Nat → Int64) (s0 : XxT) (s1 : LdT) (x1 : Int32) (x2 : Int32) (x3 : Int32) (r : Option (Int32)) (hf : f_X11_ship s0 s1 x1 x2 x3 = some r) :
    zj_CW l G M_L_ship [(0, 12, 15, 13)] yL_ship [w_Xx G A K s0, w_Ld G (A 2) s1, w_Ou G ao f] [.ref (A 0 0), .int x1, .int x2, .int x3, .ref ao] (some (.int (zk1 r))) (fun b => [w_Xx G A K s0, w_Ld G (A 2) s1, w_Ou G ao (zo1 f Int32.toInt64 r)]) := by
  refine zx_entry [some (.ref (A 0 0)), some (.int x1), some (.int x2), some (.int x3), some (.ref ao), none] rfl rfl (by show 5 ≤ 6; decide) rfl rfl ?_
  refine zx_aload (i := 4) rfl (by decide +kernel) ?_
  refine zx_iconst (i := 0) (v := 0) rfl (by decide +kernel) ?_
  refine zx_aload_n (i := 0) rfl (by decide +kernel) ?_
  refine zx_iload_n (i := 1) rfl (by decide +kernel) ?_
  refine zx_iload_n (i := 2) rfl (by decide +kernel) ?_
  refine zx_iload_n (i := 3) rfl (by decide +kernel) ?_
  refine zx_callX (WW' := fun b => [w_Xx G A K s0, w_Ld G (A 2) s1, w_Ou G ao f]) (c_X11_ship l G hl A K s0 s1 x1 x2 x3 r hf) [0, 1] rfl rfl (fun _ => by show 2 ≤ 2; decide) (fun _ => rfl) (st := [.int 0, .ref ao]) rfl nm_X11_ship zw_6_17 zw_6_18 zw_6_19 zw_1_1 zw_6_20 rfl rfl rfl (show 2 ≤ 8 by decide) ⟨by decide, by decide⟩ (by decide +kernel) rfl (by decide +kernel) (by decide) zw_5_142 ?_ ?_
  · intro rv hrv b
    cases r with
    | none => cases hrv
    | some q =>
      cases hrv
      refine zx_i2l (by decide +kernel) ?_
      refine zx_last (b := 2) (c' := 0) rfl rfl rfl rfl (by decide +kernel) ?_
      refine zx_goto (off := 7) (tgt := 19) (by decide +kernel) (by decide) ?_
      refine zx_iconst (i := 0) (v := 0) rfl (by decide +kernel) ?_
      exact zx_iret (b0 := b) (by decide +kernel) rfl rfl rfl rfl rfl
  · intro hro b q
    cases r with
    | some q => cases hro
    | none =>
      refine zx_astore (i := 5) rfl (by decide +kernel) ?_
      refine zx_iconst (i := 1) (v := 1) rfl (by decide +kernel) ?_
      exact zx_iret (b0 := b) (by decide +kernel) rfl rfl rfl rfl rfl
