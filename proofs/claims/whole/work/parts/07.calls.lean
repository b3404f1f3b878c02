/-! calls: a callee's contract over the bundles that it touches; the other bundles stay -/
theorem zj_P_iff {D : va_G} {cl : List vw_C} {WW : List va_W} {H : Heap} : va_P D cl WW.flatten H ↔ ∀ (b : Nat) (w : va_W), zj_n WW b = some w → ∀ x ∈ w, va_at D cl x H := by
  constructor
  · intro h b w hb x hx
    obtain ⟨k, hk⟩ := List.getElem?_of_mem (List.mem_flatten.mpr ⟨w, zj_n_mem hb, hx⟩)
    exact h k x hk
  · intro h k q hk
    obtain ⟨w, hw, hx⟩ := List.mem_flatten.mp (List.mem_of_getElem? hk)
    obtain ⟨b, hb⟩ := zj_n_of_mem hw
    exact h b w hb q hx
theorem zj_D1 {A : Nat → Prop} {ws : va_W} : va_D A ws ↔ (ws.map Prod.fst).Nodup ∧ ∀ x ∈ ws, A x.1 := by
  constructor
  · intro h
    refine ⟨?_, fun x hx => ?_⟩
    · rw [List.Nodup, List.pairwise_iff_getElem]
      intro i j hi hj hij e
      simp only [List.length_map] at hi hj
      simp only [List.getElem_map] at e
      have := h.1 i j ws[i] ws[j] (List.getElem?_eq_getElem hi) (List.getElem?_eq_getElem hj) e
      omega
    · obtain ⟨k, hk⟩ := List.getElem?_of_mem hx
      exact h.2 k x hk
  · rintro ⟨h1, h2⟩
    rw [List.Nodup, List.pairwise_iff_getElem] at h1
    have key : ∀ (i j : Nat) (p q : Nat × va_E), i < j → ws[i]? = some p → ws[j]? = some q → p.1 ≠ q.1 := by
      intro i j p q hij hi hj
      obtain ⟨hi1, hi2⟩ := List.getElem?_eq_some_iff.mp hi
      obtain ⟨hj1, hj2⟩ := List.getElem?_eq_some_iff.mp hj
      have := h1 i j (by simpa using hi1) (by simpa using hj1) hij
      simp only [List.getElem_map, hi2, hj2] at this
      exact this
    refine ⟨fun i j p q hi hj e => ?_, fun k q hk => h2 q (List.mem_of_getElem? hk)⟩
    rcases Nat.lt_trichotomy i j with h | h | h
    · exact absurd e (key i j p q h hi hj)
    · exact h
    · exact absurd e.symm (key j i q p h hj hi)
theorem zj_D2 {A : Nat → Prop} {WW : List va_W} : va_D A WW.flatten ↔ (∀ (b : Nat) (w : va_W), zj_n WW b = some w → (w.map Prod.fst).Nodup ∧ ∀ x ∈ w, A x.1) ∧ ∀ (b b' : Nat) (w w' : va_W), b ≠ b' → zj_n WW b = some w → zj_n WW b' = some w' → ∀ x ∈ w, ∀ y ∈ w', x.1 ≠ y.1 := by
  rw [zj_D1, List.map_flatten, List.Nodup, List.pairwise_flatten, List.pairwise_map]
  constructor
  · rintro ⟨⟨h1, h2⟩, h3⟩
    refine ⟨fun b w hb => ⟨h1 _ (List.mem_map.mpr ⟨w, zj_n_mem hb, rfl⟩), fun x hx => h3 x (List.mem_flatten.mpr ⟨w, zj_n_mem hb, hx⟩)⟩, ?_⟩
    rw [List.pairwise_iff_getElem] at h2
    have key : ∀ (b b' : Nat) (w w' : va_W), b < b' → zj_n WW b = some w → zj_n WW b' = some w' → ∀ x ∈ w, ∀ y ∈ w', x.1 ≠ y.1 := by
      intro b b' w w' hlt hb hb' x hx y hy
      rw [zj_n_eq] at hb hb'
      obtain ⟨hi1, hi2⟩ := List.getElem?_eq_some_iff.mp hb
      obtain ⟨hj1, hj2⟩ := List.getElem?_eq_some_iff.mp hb'
      have := h2 b b' hi1 hj1 hlt
      rw [hi2, hj2] at this
      exact this x.1 (List.mem_map.mpr ⟨x, hx, rfl⟩) y.1 (List.mem_map.mpr ⟨y, hy, rfl⟩)
    intro b b' w w' hne hb hb' x hx y hy
    rcases Nat.lt_or_gt_of_ne hne with h | h
    · exact key b b' w w' h hb hb' x hx y hy
    · exact (key b' b w' w h hb' hb y hy x hx).symm
  · rintro ⟨h1, h2⟩
    refine ⟨⟨fun l hl => ?_, ?_⟩, fun x hx => ?_⟩
    · obtain ⟨w, hw, rfl⟩ := List.mem_map.mp hl
      obtain ⟨b, hb⟩ := zj_n_of_mem hw
      exact (h1 b w hb).1
    · rw [List.pairwise_iff_getElem]
      intro i j hi hj hij x hx y hy
      obtain ⟨x', hx', rfl⟩ := List.mem_map.mp hx
      obtain ⟨y', hy', rfl⟩ := List.mem_map.mp hy
      exact h2 i j _ _ (by omega) (by rw [zj_n_eq]; exact List.getElem?_eq_getElem hi) (by rw [zj_n_eq]; exact List.getElem?_eq_getElem hj) x' hx' y' hy'
    · obtain ⟨w, hw, hx⟩ := List.mem_flatten.mp hx
      obtain ⟨b, hb⟩ := zj_n_of_mem hw
      exact (h1 b w hb).2 x hx
def zj_rep : List va_W → List Nat → List va_W → List va_W
  | WW, [], ex => WW ++ ex
  | WW, i :: is, w :: ws => zj_rep (WW.set i w) is ws
  | WW, _ :: _, [] => WW
theorem zj_rep_at : ∀ (is : List Nat) (WW WC : List va_W) (b : Nat) (w : va_W), is.length ≤ WC.length → zj_n (zj_rep WW is WC) b = some w → (b ∉ is ∧ zj_n WW b = some w) ∨ ∃ j, zj_n WC j = some w ∧ (zj_n is j = some b ∨ (is.length ≤ j ∧ b = WW.length + (j - is.length)))
  | [], WW, WC, b, w, _, h => by
    rw [zj_rep, zj_n_eq] at h
    by_cases hb : b < WW.length
    · rw [List.getElem?_append_left hb] at h
      exact Or.inl ⟨by simp, by rw [zj_n_eq]; exact h⟩
    · rw [List.getElem?_append_right (by omega)] at h
      exact Or.inr ⟨b - WW.length, by rw [zj_n_eq]; exact h, Or.inr ⟨by simp, by simp only [List.length_nil, Nat.sub_zero]; omega⟩⟩
  | i :: is, WW, [], b, w, hl, _ => by simp at hl
  | i :: is, WW, w0 :: ws, b, w, hl, h => by
    rw [zj_rep] at h
    rcases zj_rep_at is (WW.set i w0) ws b w (by simpa using hl) h with ⟨h1, h2⟩ | ⟨j, h1, h2⟩
    · by_cases hb : b = i
      · subst hb
        rw [zj_n_eq, List.getElem?_set] at h2
        simp only [if_true] at h2
        split at h2
        · cases h2; exact Or.inr ⟨0, rfl, Or.inl rfl⟩
        · cases h2
      · rw [zj_n_eq, List.getElem?_set_ne (fun q => hb q.symm)] at h2
        exact Or.inl ⟨by simp only [List.mem_cons, not_or]; exact ⟨hb, h1⟩, by rw [zj_n_eq]; exact h2⟩
    · refine Or.inr ⟨j + 1, h1, ?_⟩
      rcases h2 with h2 | ⟨h2, h3⟩
      · exact Or.inl h2
      · refine Or.inr ⟨by simp only [List.length_cons]; omega, ?_⟩
        rw [h3]; simp only [List.length_set, List.length_cons]; omega
theorem zj_sel {WW WC : List va_W} {is : List Nat} (h : is.map (zj_n WW) = WC.map some) (j : Nat) (w : va_W) (hj : zj_n WC j = some w) : ∃ i, zj_n is j = some i ∧ zj_n WW i = some w := by
  rw [zj_n_eq] at hj
  have h1 : (is.map (zj_n WW))[j]? = some (some w) := by rw [h, List.getElem?_map, hj]; rfl
  rw [List.getElem?_map] at h1
  cases hi : is[j]? with
  | none => rw [hi] at h1; cases h1
  | some i => rw [hi] at h1; exact ⟨i, by rw [zj_n_eq]; exact hi, Option.some.inj h1⟩
theorem zj_nd {is : List Nat} (h : va_nd is = true) (j j' i : Nat) (h1 : zj_n is j = some i) (h2 : zj_n is j' = some i) : j = j' := by
  rw [zj_n_eq] at h1 h2
  exact va_nd_inj is h j j' i h1 h2
theorem zj_selD {A : Nat → Prop} {WW WC : List va_W} {is : List Nat} (hD : va_D A WW.flatten) (h : is.map (zj_n WW) = WC.map some) (hn : va_nd is = true) : va_D A WC.flatten := by
  rw [zj_D2] at hD ⊢
  refine ⟨fun b w hb => ?_, fun b b' w w' hne hb hb' => ?_⟩
  · obtain ⟨i, _, hi⟩ := zj_sel h b w hb
    exact hD.1 i w hi
  · obtain ⟨i, h1, hi⟩ := zj_sel h b w hb
    obtain ⟨i', h2, hi'⟩ := zj_sel h b' w' hb'
    refine hD.2 i i' w w' (fun e => hne ?_) hi hi'
    subst e
    exact zj_nd hn b b' i h1 h2
theorem zj_selP {D : va_G} {cl : List vw_C} {H : Heap} {WW WC : List va_W} {is : List Nat} (hP : va_P D cl WW.flatten H) (h : is.map (zj_n WW) = WC.map some) : va_P D cl WC.flatten H := by
  rw [zj_P_iff] at hP ⊢
  intro b w hb
  obtain ⟨i, _, hi⟩ := zj_sel h b w hb
  exact hP i w hi
theorem zj_A_of {WC : List va_W} {H : Heap} {q : Nat} : va_A WC.flatten H.size q ↔ (∃ w ∈ WC, ∃ x ∈ w, x.1 = q) ∨ H.size ≤ q := by
  unfold va_A
  constructor
  · rintro (⟨k, e, h⟩ | h)
    · obtain ⟨w, hw, hx⟩ := List.mem_flatten.mp (List.mem_of_getElem? h)
      exact Or.inl ⟨w, hw, _, hx, rfl⟩
    · exact Or.inr h
  · rintro (⟨w, hw, x, hx, rfl⟩ | h)
    · obtain ⟨k, hk⟩ := List.getElem?_of_mem (List.mem_flatten.mpr ⟨w, hw, hx⟩)
      exact Or.inl ⟨k, x.2, hk⟩
    · exact Or.inr h
theorem zj_selA {A : Nat → Prop} {WW WC : List va_W} {is : List Nat} {H H0 : Heap} (hD : va_D A WW.flatten) (h : is.map (zj_n WW) = WC.map some) (hz : H0.size ≤ H.size) (hA : ∀ q, H0.size ≤ q → A q) : ∀ q, va_A WC.flatten H.size q → A q := by
  intro q hq
  rw [zj_D2] at hD
  rcases zj_A_of.mp hq with ⟨w, hw, x, hx, rfl⟩ | hq
  · obtain ⟨j, hj⟩ := zj_n_of_mem hw
    obtain ⟨i, _, hi⟩ := zj_sel h j w hj
    exact (hD.1 i w hi).2 x hx
  · exact hA q (Nat.le_trans hz hq)
/-- behind a call: the caller's other bundles, and the callee's -/
theorem zj_join {A : Nat → Prop} {D : va_G} {cl : List vw_C} {WW WC WC1 : List va_W} {is : List Nat} {H H1 : Heap} (hP : va_P D cl WW.flatten H) (hD : va_D A WW.flatten) (h : is.map (zj_n WW) = WC.map some) (hn : va_nd is = true) (hlen : is.length ≤ WC1.length)
    (hk : ∀ q : Nat, q < H.size → ¬ va_A WC.flatten H.size q → H1[q]? = H[q]?) (hF : ∀ q, va_A WC.flatten H.size q → A q) (hP1 : va_P D cl WC1.flatten H1) (hD1 : va_D (va_A WC.flatten H.size) WC1.flatten) : va_P D cl (zj_rep WW is WC1).flatten H1 ∧ va_D A (zj_rep WW is WC1).flatten := by
  rw [zj_P_iff] at hP hP1
  rw [zj_D2] at hD hD1
  have old : ∀ (b : Nat) (w : va_W), b ∉ is → zj_n WW b = some w → ∀ x ∈ w, x.1 < H.size ∧ ¬ va_A WC.flatten H.size x.1 := by
    intro b w hb hw x hx
    have hlt := (hP b w hw x hx).lt
    refine ⟨hlt, fun q => ?_⟩
    rcases zj_A_of.mp q with ⟨w', hw', y, hy, e⟩ | q
    · obtain ⟨j, hj⟩ := zj_n_of_mem hw'
      obtain ⟨i, h1, hi⟩ := zj_sel h j w' hj
      refine hD.2 i b w' w (fun z => ?_) hi hw y hy x hx e
      subst z
      exact hb (zj_n_mem h1)
    · omega
  refine ⟨zj_P_iff.mpr fun b w hw x hx => ?_, zj_D2.mpr ⟨fun b w hw => ?_, fun b b' w w' hne hw hw' x hx y hy => ?_⟩⟩
  · rcases zj_rep_at is WW WC1 b w hlen hw with ⟨h1, h2⟩ | ⟨j, h1, _⟩
    · obtain ⟨g1, g2⟩ := old b w h1 h2 x hx
      exact (hP b w h2 x hx).kept (hk x.1 g1 g2)
    · exact hP1 j w h1 x hx
  · rcases zj_rep_at is WW WC1 b w hlen hw with ⟨h1, h2⟩ | ⟨j, h1, _⟩
    · exact hD.1 b w h2
    · exact ⟨(hD1.1 j w h1).1, fun x hx => hF _ ((hD1.1 j w h1).2 x hx)⟩
  · rcases zj_rep_at is WW WC1 b w hlen hw with ⟨h1, h2⟩ | ⟨j, h1, h2⟩ <;> rcases zj_rep_at is WW WC1 b' w' hlen hw' with ⟨h3, h4⟩ | ⟨j', h3, h4⟩
    · exact hD.2 b b' w w' hne h2 h4 x hx y hy
    · exact fun e => (old b w h1 h2 x hx).2 (by rw [e]; exact (hD1.1 j' w' h3).2 y hy)
    · exact fun e => (old b' w' h3 h4 y hy).2 (by rw [← e]; exact (hD1.1 j w h1).2 x hx)
    · refine hD1.2 j j' w w' (fun e => hne ?_) h1 h3 x hx y hy
      subst e
      rcases h2 with h2 | ⟨h2, h5⟩ <;> rcases h4 with h4 | ⟨h4, h6⟩
      · exact Option.some.inj (h2.symm.trans h4)
      · have := zj_n_lt h2; omega
      · have := zj_n_lt h4; omega
      · omega
theorem zj_good (ws : List Cond) (h : ∀ w ∈ ws, w ∈ zT) : GoodIn zT ws := fun w hw => ⟨h w hw, good_of_word (zT_good w (h w hw))⟩
theorem zj_all {P : Cond → Prop} : ∀ {ws : List Cond}, (∀ w ∈ ws, P w) → True := fun _ => trivial
section
variable {l : Launch} {G : zj_G} {M : zj_M} {W0 : List va_W} {Φ : zj_F} {k n : Nat} {WW : List va_W} {lv : List (Option Value)} {pc : Nat} {st stk st' : List Value}
theorem zj_PcBlind {G : zj_G} {WC : List va_W} {as : List Value} {sz : Nat} : FrameBlind (va_Pc as (zj_Pc G WC sz)) := fun _ _ _ _ q => ⟨q.1, q.2.1, q.2.2.1, q.2.2.2.1, q.2.2.2.2.calling⟩
theorem zj_after {p : Program} {e : Env} {s : State} {m : MethodId} {args : Array Value} {below : List Frame} {meth : Method} {c : Code} {H : Heap} {locs : List Loc} {ls : Array Slot} {MC : zj_M} {WC : List va_W} {rvC : Option Value} {W1C WW' : (Nat → Nat) → List va_W} {a' : Array Value}
    (C : zj_x p s m args meth c M G W0) (hP : va_P G.1 vwCl WW.flatten H) (hD : va_D (zj_A W0 s.heap.size) WW.flatten) (hS : va_S (zj_A W0 s.heap.size) s.heap H locs) (hl : zj_L ls M.2.2.1 lv)
    (is : List Nat) (hsel : is.map (zj_n WW) = WC.map some) (hn : va_nd is = true) (hlen : ∀ b, is.length ≤ (W1C b).length) (hrep : ∀ b, zj_rep WW is (W1C b) = WW' b) (hst : rvC.toList ++ st = st')
    (hr : va_Run p l e M.2.2.2.2.1 s m args below meth c H locs k n MC.2.2.2.2.1.cells MC.2.2.2.2.1.slots (F0 m pc ls stk) st (zj_Q G WC H.size rvC W1C a') (zj_A WC H.size))
    (kk : ∀ b, zj_J l G M W0 Φ (k + MC.2.2.2.2.1.cells) (n + MC.2.2.2.2.1.slots) (WW' b) lv (pc + 3) st') :
    W p l e M.2.2.2.2.1 s m args below meth c H locs k n (Φ s args below) (F0 m pc ls stk) := by
  intro T hT X
  obtain ⟨v, st₀, t, T', L, h0, X', hL, e1, e2, ⟨⟨b, hv, hP1, hD1⟩, hz, hk⟩, st1⟩ := hr T hT X
  cases hv
  rw [h0] at hz hk
  have hA : ∀ q, s.heap.size ≤ q → zj_A W0 s.heap.size q := fun q h => Or.inr h
  have hF : ∀ q, va_A WC.flatten H.size q → zj_A W0 s.heap.size q := zj_selA hD hsel hS.1 hA
  have hj := zj_join hP hD hsel hn (hlen b) hk hF hP1 hD1
  rw [hrep b] at hj
  rw [← e1] at hj hz hk
  obtain ⟨t2, a1, b1⟩ := kk b p e s m args below meth c T'.heap (locs ++ L) ls C hj.1 hj.2
    ⟨Nat.le_trans hS.1 hz, fun q h1 h2 => by rw [hk q (Nat.lt_of_lt_of_le h1 hS.1) (fun z => h2 (hF q z))]; exact hS.2.1 q h1 h2, fun q hq => by
      rcases List.mem_append.mp hq with h | h
      · exact hS.2.2 q h
      · exact hF _ (hL q h)⟩ hl T' rfl X'
  refine ⟨t2, st1 t2 ?_, b1⟩
  rw [hst]
  exact a1
theorem zj_PcTo {p : Program} {s : State} {m : MethodId} {args : Array Value} {meth : Method} {c : Code} {H : Heap} {locs : List Loc} {WC : List va_W} (C : zj_x p s m args meth c M G W0) (hP : va_P G.1 vwCl WW.flatten H) (hD : va_D (zj_A W0 s.heap.size) WW.flatten) (hS : va_S (zj_A W0 s.heap.size) s.heap H locs)
    {is : List Nat} (hsel : is.map (zj_n WW) = WC.map some) (hn : va_nd is = true) (as : List Value) : ∀ U : State, U.heap = H → s.WarmedH U.vm → va_Pc as (zj_Pc G WC H.size) as.toArray U := by
  intro U hU hW
  refine ⟨rfl, by rw [hU], by rw [hU]; exact zj_selP hP hsel, (zj_selD hD hsel hn).weaken (fun _ _ _ _ => trivial), ?_⟩
  rw [hU]
  exact C.2.2.2.2.2.2.1.go hW hS (zj_selA hD hsel hS.1 (fun q h => Or.inr h))
def zj_rm (R : Room) (MC : zj_M) : Bool := Nat.ble (MC.2.2.2.2.1.frames + 1) R.frames && Nat.ble (8 + (MC.2.2.1 + 11) + MC.2.2.2.2.1.locals) R.locals
theorem zj_rm_of {R : Room} {MC : zj_M} (h : zj_rm R MC = true) : MC.2.2.2.2.1.frames + 1 ≤ R.frames ∧ 8 + (MC.2.2.1 + 11) + MC.2.2.2.2.1.locals ≤ R.locals := by
  simp only [zj_rm, Bool.and_eq_true] at h
  exact ⟨Nat.le_of_ble_eq_true h.1, Nat.le_of_ble_eq_true h.2⟩
/-- what a method's name says: no method handle, so many parameters -/
def zj_nm (y : MethodName) (n : Nat) : Prop := y.cls ≠ "java/lang/invoke/MethodHandle" ∧ y.cls ≠ "java/lang/invoke/VarHandle" ∧ (parseMethodDescriptor y.desc).map (fun d => d.parameters.length) = some n
theorem zr_callV {MC : zj_M} {y : MethodName} {WC : List va_W} {rvC : Option Value} {W1C WW' : (Nat → Nat) → List va_W} {As : List Value} {a ci i : Nat} {fs : List Value} (hC : zj_C l G MC y WC (.ref a :: As) rvC W1C) (is : List Nat) (hsel : is.map (zj_n WW) = WC.map some) (hn : va_nd is = true) (hlen : ∀ b, is.length ≤ (W1C b).length) (hrep : ∀ b, zj_rep WW is (W1C b) = WW' b)
    (hstk : stk = As.reverse ++ .ref a :: st) (hst : rvC.toList ++ st = st') (hy : zj_nm y As.length) (w1 : Cond.methodLink M.1 i y ∈ zT) (w2 : Cond.instanceMethod y ∈ zT) (w3 : Cond.selects y.cls y y ∈ zT) (w4 : Cond.initialized y.cls ∈ zT) (w5 : Cond.code y MC.2.1 MC.2.2.1 MC.2.2.2.1 ∈ zT)
    (hrc : zj_c WC 0 0 = some (a, .inr (ci, fs))) (hcl : (zj_n vwCl ci).map (·.1) = some y.cls) (hrm : zj_rm M.2.2.2.2.1 MC = true) (hcat : (st.map fun v => v.category).sum ≤ 8) (hcs : k + MC.2.2.2.2.1.cells ≤ M.2.2.2.2.1.cells ∧ n + MC.2.2.2.2.1.slots ≤ M.2.2.2.2.1.slots)
    (hd : decode M.2.1 pc = .ok (.invokevirtual i, 3)) (kk : ∀ b, zj_J l G M W0 Φ (k + MC.2.2.2.2.1.cells) (n + MC.2.2.2.2.1.slots) (WW' b) lv (pc + 3) st') : zj_J l G M W0 Φ k n WW lv pc stk := by
  intro p e s m args below meth c H locs ls C hP hD hS hl
  subst hstk
  have hT : GoodIn zT (wsV M.1 i y.cls y (.code y MC.2.1 MC.2.2.1 MC.2.2.2.1 :: zT)) := zj_good _ (fun w hw => by
    simp only [wsV, List.cons_append, List.nil_append, List.mem_cons] at hw
    rcases hw with rfl | rfl | rfl | rfl | rfl | hw
    · exact w1
    · exact w2
    · exact w3
    · exact w4
    · exact w5
    · exact hw)
  obtain ⟨Cl, hCl, hCe⟩ : ∃ Cl, zj_n vwCl ci = some Cl ∧ Cl.1 = y.cls := by
    cases hq : zj_n vwCl ci with
    | none => rw [hq] at hcl; cases hcl
    | some Cl => rw [hq] at hcl; exact ⟨Cl, rfl, Option.some.inj hcl⟩
  have hPC := zj_selP hP hsel
  have hrecv := va_recv C.2.2.2.2.2.2.1.K hPC (ci := ci) (q := Cl) (by rw [← zj_n_eq]; exact hCl) (zj_flat_at WC 0 0 hrc)
  rw [hCe] at hrecv
  exact zj_after (MC := MC) C hP hD hS hl is hsel hn hlen hrep hst (va_runV ⟨C.1, C.2.1, C.2.2.1, C.2.2.2.2.1, C.2.2.2.2.2.1⟩ (hC H.size) (cwV (ws' := zT) As.length C.2.2.2.2.2.1 hT rfl rfl rfl ⟨rfl, hy.1, hy.2.1, hy.2.2⟩ (zj_rm_of hrm))
    ⟨zj_PcBlind, hrecv, zj_PcTo C hP hD hS hsel hn _⟩ rfl rfl hl.1.1 rfl (lv_room hcat) hd hcs) kk
theorem zr_callS {MC : zj_M} {y : MethodName} {WC : List va_W} {rvC : Option Value} {W1C WW' : (Nat → Nat) → List va_W} {As : List Value} {i : Nat} (hC : zj_C l G MC y WC As rvC W1C) (is : List Nat) (hsel : is.map (zj_n WW) = WC.map some) (hn : va_nd is = true) (hlen : ∀ b, is.length ≤ (W1C b).length) (hrep : ∀ b, zj_rep WW is (W1C b) = WW' b)
    (hstk : stk = As.reverse ++ st) (hst : rvC.toList ++ st = st') (hy : zj_nm y As.length) (w1 : Cond.methodLink M.1 i y ∈ zT) (w2 : Cond.static y ∈ zT) (w4 : Cond.initialized y.cls ∈ zT) (w5 : Cond.code y MC.2.1 MC.2.2.1 MC.2.2.2.1 ∈ zT)
    (hrm : zj_rm M.2.2.2.2.1 MC = true) (hcat : (st.map fun v => v.category).sum ≤ 8) (hcs : k + MC.2.2.2.2.1.cells ≤ M.2.2.2.2.1.cells ∧ n + MC.2.2.2.2.1.slots ≤ M.2.2.2.2.1.slots)
    (hd : decode M.2.1 pc = .ok (.invokestatic i, 3)) (kk : ∀ b, zj_J l G M W0 Φ (k + MC.2.2.2.2.1.cells) (n + MC.2.2.2.2.1.slots) (WW' b) lv (pc + 3) st') : zj_J l G M W0 Φ k n WW lv pc stk := by
  intro p e s m args below meth c H locs ls C hP hD hS hl
  subst hstk
  have hT : GoodIn zT (va_wsS M.1 i y (.code y MC.2.1 MC.2.2.1 MC.2.2.2.1 :: zT)) := zj_good _ (fun w hw => by
    simp only [va_wsS, List.cons_append, List.nil_append, List.mem_cons] at hw
    rcases hw with rfl | rfl | rfl | rfl | hw
    · exact w1
    · exact w2
    · exact w4
    · exact w5
    · exact hw)
  exact zj_after (MC := MC) C hP hD hS hl is hsel hn hlen hrep hst (va_runS ⟨C.1, C.2.1, C.2.2.1, C.2.2.2.2.1, C.2.2.2.2.2.1⟩ (hC H.size) (va_cwS (ws' := zT) As.length C.2.2.2.2.2.1 hT rfl rfl rfl hy (zj_rm_of hrm))
    ⟨zj_PcBlind, zj_PcTo C hP hD hS hsel hn _⟩ rfl rfl hl.1.1 rfl (lv_room hcat) hd hcs) kk
theorem zj_goodC {y : MethodName} {MC : zj_M} (w5 : Cond.code y MC.2.1 MC.2.2.1 MC.2.2.2.1 ∈ zT) : GoodIn zT (.code y MC.2.1 MC.2.2.1 MC.2.2.2.1 :: zT) := zj_good _ (fun w hw => by
    rcases List.mem_cons.mp hw with rfl | hw
    · exact w5
    · exact hw)
/-- a constructor -/
theorem zr_callI {MC : zj_M} {y : MethodName} {WC : List va_W} {W1C WW' : (Nat → Nat) → List va_W} {As : List Value} {a i : Nat} (hC : zj_C l G MC y WC (.ref a :: As) none W1C) (is : List Nat) (hsel : is.map (zj_n WW) = WC.map some) (hn : va_nd is = true) (hlen : ∀ b, is.length ≤ (W1C b).length) (hrep : ∀ b, zj_rep WW is (W1C b) = WW' b)
    (hstk : stk = As.reverse ++ .ref a :: st) (hy : zj_nm y As.length) (hin : y.name = "<init>") (hret : MC.2.2.2.1 = none) (w1 : Cond.methodLink M.1 i y ∈ zT) (w2 : Cond.instanceMethod y ∈ zT) (w4 : Cond.initialized y.cls ∈ zT) (w5 : Cond.code y MC.2.1 MC.2.2.1 MC.2.2.2.1 ∈ zT)
    (hrm : zj_rm M.2.2.2.2.1 MC = true) (hcat : (st.map fun v => v.category).sum ≤ 8) (hcs : k + MC.2.2.2.2.1.cells ≤ M.2.2.2.2.1.cells ∧ n + MC.2.2.2.2.1.slots ≤ M.2.2.2.2.1.slots)
    (hd : decode M.2.1 pc = .ok (.invokespecial i, 3)) (kk : ∀ b, zj_J l G M W0 Φ (k + MC.2.2.2.2.1.cells) (n + MC.2.2.2.2.1.slots) (WW' b) lv (pc + 3) st) : zj_J l G M W0 Φ k n WW lv pc stk := by
  intro p e s m args below meth c H locs ls C hP hD hS hl
  subst hstk
  have hT := zj_goodC w5
  have hM := hC H.size
  rw [hret] at hT hM
  exact zj_after (MC := MC) (rvC := none) C hP hD hS hl is hsel hn hlen hrep rfl (va_runI ⟨C.1, C.2.1, C.2.2.1, C.2.2.2.2.1, C.2.2.2.2.2.1⟩ hM (cwI (ws' := zT) As.length C.2.2.2.2.2.1 hT rfl rfl rfl (C.2.2.2.2.2.1 _ w4) (C.2.2.2.2.2.1 _ w1) (C.2.2.2.2.2.1 _ w2) hin hy (zj_rm_of hrm))
    ⟨zj_PcBlind, zj_PcTo C hP hD hS hsel hn _⟩ rfl rfl hl.1.1 rfl (lv_room hcat) hd hcs) kk
/-- a nest mate's private constructor -/
theorem zr_callIN {MC : zj_M} {y : MethodName} {WC : List va_W} {W1C WW' : (Nat → Nat) → List va_W} {As : List Value} {a i : Nat} (hC : zj_C l G MC y WC (.ref a :: As) none W1C) (is : List Nat) (hsel : is.map (zj_n WW) = WC.map some) (hn : va_nd is = true) (hlen : ∀ b, is.length ≤ (W1C b).length) (hrep : ∀ b, zj_rep WW is (W1C b) = WW' b)
    (hstk : stk = As.reverse ++ .ref a :: st) (hy : zj_nm y As.length) (hin : y.name = "<init>") (hret : MC.2.2.2.1 = none) (w1 : (M.1, i, y) ∈ zj_nest) (w2 : Cond.instanceMethod y ∈ zT) (w4 : Cond.initialized y.cls ∈ zT) (w5 : Cond.code y MC.2.1 MC.2.2.1 MC.2.2.2.1 ∈ zT)
    (hrm : zj_rm M.2.2.2.2.1 MC = true) (hcat : (st.map fun v => v.category).sum ≤ 8) (hcs : k + MC.2.2.2.2.1.cells ≤ M.2.2.2.2.1.cells ∧ n + MC.2.2.2.2.1.slots ≤ M.2.2.2.2.1.slots)
    (hd : decode M.2.1 pc = .ok (.invokespecial i, 3)) (kk : ∀ b, zj_J l G M W0 Φ (k + MC.2.2.2.2.1.cells) (n + MC.2.2.2.2.1.slots) (WW' b) lv (pc + 3) st) : zj_J l G M W0 Φ k n WW lv pc stk := by
  intro p e s m args below meth c H locs ls C hP hD hS hl
  subst hstk
  have hT := zj_goodC w5
  have hM := hC H.size
  rw [hret] at hT hM
  exact zj_after (MC := MC) (rvC := none) C hP hD hS hl is hsel hn hlen hrep rfl (va_runIN (host := "RoadToPort") ⟨C.1, C.2.1, C.2.2.1, C.2.2.2.2.1, C.2.2.2.2.2.1⟩ hM ⟨va_cnB (ws' := zT) As.length C.2.2.2.2.2.1 hT rfl rfl rfl (C.2.2.2.2.2.2.1.2.1 _ w1) (C.2.2.2.2.2.1 _ w4) hy (zj_rm_of hrm), hin, C.2.2.2.2.2.1 _ w2⟩
    ⟨zj_PcBlind, zj_PcTo C hP hD hS hsel hn _⟩ rfl rfl hl.1.1 rfl (lv_room hcat) hd hcs) kk
theorem zr_callSN {MC : zj_M} {y : MethodName} {WC : List va_W} {rvC : Option Value} {W1C WW' : (Nat → Nat) → List va_W} {As : List Value} {i : Nat} (hC : zj_C l G MC y WC As rvC W1C) (is : List Nat) (hsel : is.map (zj_n WW) = WC.map some) (hn : va_nd is = true) (hlen : ∀ b, is.length ≤ (W1C b).length) (hrep : ∀ b, zj_rep WW is (W1C b) = WW' b)
    (hstk : stk = As.reverse ++ st) (hst : rvC.toList ++ st = st') (hy : zj_nm y As.length) (w1 : (M.1, i, y) ∈ zj_nest) (w2 : Cond.static y ∈ zT) (w4 : Cond.initialized y.cls ∈ zT) (w5 : Cond.code y MC.2.1 MC.2.2.1 MC.2.2.2.1 ∈ zT)
    (hrm : zj_rm M.2.2.2.2.1 MC = true) (hcat : (st.map fun v => v.category).sum ≤ 8) (hcs : k + MC.2.2.2.2.1.cells ≤ M.2.2.2.2.1.cells ∧ n + MC.2.2.2.2.1.slots ≤ M.2.2.2.2.1.slots)
    (hd : decode M.2.1 pc = .ok (.invokestatic i, 3)) (kk : ∀ b, zj_J l G M W0 Φ (k + MC.2.2.2.2.1.cells) (n + MC.2.2.2.2.1.slots) (WW' b) lv (pc + 3) st') : zj_J l G M W0 Φ k n WW lv pc stk := by
  intro p e s m args below meth c H locs ls C hP hD hS hl
  subst hstk
  exact zj_after (MC := MC) C hP hD hS hl is hsel hn hlen hrep hst (va_runSN (host := "RoadToPort") ⟨C.1, C.2.1, C.2.2.1, C.2.2.2.2.1, C.2.2.2.2.2.1⟩ (hC H.size) ⟨va_cnB (ws' := zT) As.length C.2.2.2.2.2.1 (zj_goodC w5) rfl rfl rfl (C.2.2.2.2.2.2.1.2.1 _ w1) (C.2.2.2.2.2.1 _ w4) hy (zj_rm_of hrm), C.2.2.2.2.2.1 _ w2, trivial⟩
    ⟨zj_PcBlind, zj_PcTo C hP hD hS hsel hn _⟩ rfl rfl hl.1.1 rfl (lv_room hcat) hd hcs) kk
/-- Object.<init> -/
theorem zr_objInit {a i : Nat} (w1 : Cond.methodLink M.1 i objectInit ∈ zT) (w2 : Cond.instanceMethod objectInit ∈ zT) (w3 : Cond.code objectInit ⟨#[0xb1]⟩ 1 none ∈ zT) (hf : 1 ≤ M.2.2.2.2.1.frames) (hlo : (st.map fun v => v.category).sum + 12 ≤ M.2.2.2.2.1.locals) (hd : decode M.2.1 pc = .ok (.invokespecial i, 3)) (kk : zj_J l G M W0 Φ k n WW lv (pc + 3) st) : zj_J l G M W0 Φ k n WW lv pc (.ref a :: st) := by
  intro p e s m args below meth c H locs ls C hP hD hS hl
  refine W.objInit C.1 C.2.1 C.2.2.2.2.1 (C.2.2.2.2.2.1 _ w1) (C.2.2.2.2.2.1 _ w2) (C.2.2.2.2.2.1 _ w3) rfl (by rw [C.2.2.1]; exact hl.1.1) rfl hd hf (by show 2 * 0 + _ + 12 ≤ _; omega) ?_
  exact kk p e s m args below meth c H locs ls C hP hD hS hl
/-- a new object, in a bundle of its own -/
theorem zr_new {i ci : Nat} {Cl : vw_C} {t : Nat → FieldType} {fs : List Value} (hC : zj_n vwCl ci = some Cl) (ht : zj_n zj_vty ci = some t) (w1 : Cond.classLink M.1 i Cl.1 ∈ zT) (w2 : Cond.instantiable Cl.1 Cl.2.2 ∈ zT) (w3 : Cond.initialized Cl.1 ∈ zT) (hfs : (List.range Cl.2.2).all (fun j => decide (defaultValue (t j) = vp_V fs j)) = true) (hcs : k + 1 ≤ M.2.2.2.2.1.cells ∧ n + Cl.2.2 ≤ M.2.2.2.2.1.slots) (hd : decode M.2.1 pc = .ok (.new i, 3))
    (kk : ∀ q, zj_J l G M W0 Φ (k + 1) (n + Cl.2.2) (WW ++ [[(q, .inr (ci, fs))]]) lv (pc + 3) (.ref q :: st)) : zj_J l G M W0 Φ k n WW lv pc st := by
  intro p e s m args below meth c H locs ls C hP hD hS hl
  obtain ⟨ht1, ht2⟩ := zj_vty_ok ci Cl t hC ht
  obtain ⟨C1, T1, N1⟩ := Cl
  have hcl : vwCl[ci]? = some (C1, T1, N1) := by rw [← zj_n_eq]; exact hC
  refine va_new (own := M.1) (fs := fs) C.1 C.2.1 C.2.2.2.2.2.1 (zj_lays ci _ hC) t ht1 C.2.2.2.2.1 (C.2.2.2.2.2.1 _ w1) (C.2.2.2.2.2.1 _ w2) (C.2.2.2.2.2.1 _ w3) C.2.2.2.2.2.2.1.K hP hD hS (fun q h => Or.inr h) hcl (fun j hj => ?_) hcs.1 hcs.2 hd (fun q H1 hP1 hD1 hS1 => ?_)
  · have := List.all_eq_true.mp hfs j (List.mem_range.mpr hj)
    exact of_decide_eq_true this
  · refine kk q p e s m args below meth c H1 locs ls C ?_ ?_ hS1 hl
    · rw [List.flatten_append, List.flatten_singleton]; exact hP1
    · rw [List.flatten_append, List.flatten_singleton]; exact hD1
end
