/-! worlds as lists of bundles; locals by place; the judgement zj_J: from here the machine comes to the method's end as told -/
def zj_n {α : Type} : List α → Nat → Option α
  | [], _ => none
  | a :: _, 0 => some a
  | _ :: l, n + 1 => zj_n l n
theorem zj_n_eq {α : Type} : ∀ (l : List α) (n : Nat), zj_n l n = l[n]?
  | [], n => by simp [zj_n]
  | a :: l, 0 => by simp [zj_n]
  | a :: l, n + 1 => by simp [zj_n, zj_n_eq l n]
theorem zj_n_lt {α : Type} {l : List α} {n : Nat} {a : α} (h : zj_n l n = some a) : n < l.length := by
  rw [zj_n_eq] at h; exact (List.getElem?_eq_some_iff.mp h).1
theorem zj_n_mem {α : Type} {l : List α} {n : Nat} {a : α} (h : zj_n l n = some a) : a ∈ l := by
  rw [zj_n_eq] at h; exact List.mem_of_getElem? h
theorem zj_n_of_mem {α : Type} {l : List α} {a : α} (h : a ∈ l) : ∃ n, zj_n l n = some a := by
  obtain ⟨n, hn⟩ := List.getElem?_of_mem h
  exact ⟨n, by rw [zj_n_eq]; exact hn⟩
def zj_c (WW : List va_W) (b c : Nat) : Option (Nat × va_E) := match zj_n WW b with
  | some w => zj_n w c
  | none => none
def zj_set : List va_W → Nat → Nat → Nat × va_E → List va_W
  | [], _, _, _ => []
  | w :: l, 0, c, x => w.set c x :: l
  | w :: l, b + 1, c, x => w :: zj_set l b c x
def zj_off : List va_W → Nat → Nat
  | [], _ => 0
  | _ :: _, 0 => 0
  | w :: l, b + 1 => w.length + zj_off l b
theorem zj_flat_at : ∀ (WW : List va_W) (b c : Nat) {q : Nat × va_E}, zj_c WW b c = some q → WW.flatten[zj_off WW b + c]? = some q
  | [], b, c, q, h => by simp [zj_c, zj_n] at h
  | w :: l, 0, c, q, h => by
    have h1 : zj_n w c = some q := h
    have hl := zj_n_lt h1
    rw [zj_n_eq] at h1
    simp only [List.flatten_cons, zj_off, Nat.zero_add]
    rw [List.getElem?_append_left hl]; exact h1
  | w :: l, b + 1, c, q, h => by
    have h1 : zj_c l b c = some q := h
    simp only [List.flatten_cons, zj_off]
    rw [List.getElem?_append_right (by omega), show w.length + zj_off l b + c - w.length = zj_off l b + c by omega]
    exact zj_flat_at l b c h1
theorem zj_flat_set : ∀ (WW : List va_W) (b c : Nat) (x : Nat × va_E) {q : Nat × va_E}, zj_c WW b c = some q → WW.flatten.set (zj_off WW b + c) x = (zj_set WW b c x).flatten
  | [], b, c, x, q, h => by simp [zj_c, zj_n] at h
  | w :: l, 0, c, x, q, h => by
    have h1 : zj_n w c = some q := h
    have hl := zj_n_lt h1
    simp only [List.flatten_cons, zj_off, Nat.zero_add, zj_set]
    rw [List.set_append_left _ _ hl]
  | w :: l, b + 1, c, x, q, h => by
    have h1 : zj_c l b c = some q := h
    simp only [List.flatten_cons, zj_off, zj_set]
    rw [List.set_append_right _ _ (by omega), show w.length + zj_off l b + c - w.length = zj_off l b + c by omega, zj_flat_set l b c x h1]
/-! locals -/
def zj_as : Nat → List (Option Value) → List (Nat × Value)
  | _, [] => []
  | i, none :: r => zj_as (i + 1) r
  | i, some v :: r => (i, v) :: zj_as (i + 1) r
theorem zj_as_mem : ∀ (lv : List (Option Value)) (b i : Nat) (v : Value), (i, v) ∈ zj_as b lv ↔ ∃ k, i = b + k ∧ zj_n lv k = some (some v)
  | [], b, i, v => by simp [zj_as, zj_n]
  | none :: r, b, i, v => by
    rw [zj_as, zj_as_mem r (b + 1) i v]
    constructor
    · rintro ⟨k, h1, h2⟩; exact ⟨k + 1, by omega, h2⟩
    · rintro ⟨k, h1, h2⟩
      cases k with
      | zero => simp [zj_n] at h2
      | succ k => exact ⟨k, by omega, h2⟩
  | some u :: r, b, i, v => by
    rw [zj_as, List.mem_cons, zj_as_mem r (b + 1) i v]
    constructor
    · rintro (h | ⟨k, h1, h2⟩)
      · cases h; exact ⟨0, rfl, rfl⟩
      · exact ⟨k + 1, by omega, h2⟩
    · rintro ⟨k, h1, h2⟩
      cases k with
      | zero => simp [zj_n] at h2; subst h2; exact Or.inl (by rw [h1]; rfl)
      | succ k => exact Or.inr ⟨k, by omega, h2⟩
def zj_L (ls : Array Slot) (nL : Nat) (lv : List (Option Value)) : Prop := lv_has ls nL (zj_as 0 lv) ∧ lv.length = nL
theorem zj_L.at {ls : Array Slot} {nL : Nat} {lv : List (Option Value)} (h : zj_L ls nL lv) {i : Nat} {v : Value} (hi : zj_n lv i = some (some v)) : ls[i]? = some (.val v) := h.1.2.2 (i, v) ((zj_as_mem lv 0 i v).mpr ⟨i, by omega, hi⟩)
def zj_put : List (Option Value) → Nat → Option Value → List (Option Value)
  | [], _, _ => []
  | _ :: l, 0, x => x :: l
  | a :: l, n + 1, x => a :: zj_put l n x
theorem zj_put_len : ∀ (l : List (Option Value)) (i : Nat) (x : Option Value), (zj_put l i x).length = l.length
  | [], i, x => rfl
  | a :: l, 0, x => rfl
  | a :: l, n + 1, x => by simp [zj_put, zj_put_len l n x]
theorem zj_put_n : ∀ (l : List (Option Value)) (i : Nat) (x : Option Value) (k : Nat) (y : Option Value), zj_n (zj_put l i x) k = some y → (k = i ∧ y = x) ∨ (k ≠ i ∧ zj_n l k = some y)
  | [], i, x, k, y, h => by simp [zj_put, zj_n] at h
  | a :: l, 0, x, 0, y, h => by simp [zj_put, zj_n] at h; exact Or.inl ⟨rfl, h.symm⟩
  | a :: l, 0, x, k + 1, y, h => Or.inr ⟨by omega, h⟩
  | a :: l, i + 1, x, 0, y, h => Or.inr ⟨by omega, h⟩
  | a :: l, i + 1, x, k + 1, y, h => by
    rcases zj_put_n l i x k y h with ⟨h1, h2⟩ | ⟨h1, h2⟩
    · exact Or.inl ⟨by omega, h2⟩
    · exact Or.inr ⟨by omega, h2⟩
def zj_c2 : Option Value → Option Value
  | some (.long _) => none
  | some (.double _) => none
  | a => a
theorem zj_c2_of {a : Option Value} {u : Value} (h : zj_c2 a = some u) : a = some u ∧ ¬ u.category = 2 := by
  cases a with
  | none => simp [zj_c2] at h
  | some v => cases v <;> simp [zj_c2] at h <;> subst h <;> simp [Value.category]
def zj_pre : List (Option Value) → Nat → List (Option Value)
  | [], _ => []
  | a :: l, 0 => a :: l
  | a :: l, 1 => zj_c2 a :: l
  | a :: l, n + 2 => a :: zj_pre l (n + 1)
theorem zj_pre_len : ∀ (l : List (Option Value)) (i : Nat), (zj_pre l i).length = l.length
  | [], i => by simp [zj_pre]
  | a :: l, 0 => by simp [zj_pre]
  | a :: l, 1 => by simp [zj_pre]
  | a :: l, n + 2 => by simp [zj_pre, zj_pre_len l (n + 1)]
theorem zj_pre_n : ∀ (l : List (Option Value)) (i k : Nat) (u : Value), zj_n (zj_pre l i) k = some (some u) → zj_n l k = some (some u) ∧ ¬ (k + 1 = i ∧ u.category = 2)
  | [], i, k, u, h => by simp [zj_pre, zj_n] at h
  | a :: l, 0, k, u, h => ⟨by simpa [zj_pre] using h, by omega⟩
  | a :: l, 1, 0, u, h => by
    have h1 : zj_c2 a = some u := by simpa [zj_pre, zj_n] using h
    obtain ⟨h2, h3⟩ := zj_c2_of h1
    exact ⟨by simp [zj_n, h2], fun q => h3 q.2⟩
  | a :: l, 1, k + 1, u, h => ⟨by simpa [zj_pre, zj_n] using h, by omega⟩
  | a :: l, n + 2, 0, u, h => ⟨by simpa [zj_pre, zj_n] using h, by omega⟩
  | a :: l, n + 2, k + 1, u, h => by
    have h1 : zj_n (zj_pre l (n + 1)) k = some (some u) := by simpa [zj_pre, zj_n] using h
    obtain ⟨h2, h3⟩ := zj_pre_n l (n + 1) k u h1
    exact ⟨h2, fun q => h3 ⟨by omega, q.2⟩⟩
def zj_st1 (lv : List (Option Value)) (i : Nat) (v : Value) : List (Option Value) := zj_put (zj_pre lv i) i (some v)
def zj_st2 (lv : List (Option Value)) (i : Nat) (v : Value) : List (Option Value) := zj_put (zj_put (zj_pre lv i) i (some v)) (i + 1) none
theorem zj_L.weak {ls : Array Slot} {nL : Nat} {l : List (Nat × Value)} {lv : List (Option Value)} (h : lv_has ls nL l) (hn : lv.length = nL) (hs : ∀ i u, zj_n lv i = some (some u) → (i, u) ∈ l) : zj_L ls nL lv := by
  refine ⟨⟨h.1, h.2.1, fun q hq => h.2.2 q ?_⟩, hn⟩
  obtain ⟨i, u⟩ := q
  obtain ⟨k, h1, h2⟩ := (zj_as_mem lv 0 i u).mp hq
  have : i = k := by omega
  subst this
  exact hs i u h2
theorem zj_L.st1 {ls : Array Slot} {nL i : Nat} {v : Value} {lv : List (Option Value)} (hn : lv.length = nL) (h : lv_has ls nL ((i, v) :: (zj_as 0 lv).filter (fun q => !(q.1 == i) && !(q.1 + 1 == i && q.2.category == 2)))) : zj_L ls nL (zj_st1 lv i v) := by
  refine zj_L.weak h (by rw [zj_st1, zj_put_len, zj_pre_len, hn]) (fun k u hk => ?_)
  rcases zj_put_n _ _ _ _ _ hk with ⟨h1, h2⟩ | ⟨h1, h2⟩
  · cases h2; subst h1; exact List.mem_cons_self
  · obtain ⟨h3, h4⟩ := zj_pre_n _ _ _ _ h2
    refine List.mem_cons_of_mem _ (List.mem_filter.mpr ⟨(zj_as_mem lv 0 k u).mpr ⟨k, by omega, h3⟩, ?_⟩)
    simp only [Bool.and_eq_true, Bool.not_eq_true', beq_eq_false_iff_ne, ne_eq, Bool.and_eq_false_iff]
    refine ⟨h1, ?_⟩
    by_cases hq : k + 1 = i
    · exact Or.inr (fun z => h4 ⟨hq, z⟩)
    · exact Or.inl hq
theorem zj_L.st2 {ls : Array Slot} {nL i : Nat} {v : Value} {lv : List (Option Value)} (hn : lv.length = nL) (h : lv_has ls nL ((i, v) :: (zj_as 0 lv).filter (fun q => !(q.1 == i) && (!(q.1 == i + 1) && !(q.1 + 1 == i && q.2.category == 2))))) : zj_L ls nL (zj_st2 lv i v) := by
  refine zj_L.weak h (by rw [zj_st2, zj_put_len, zj_put_len, zj_pre_len, hn]) (fun k u hk => ?_)
  rcases zj_put_n _ _ _ _ _ hk with ⟨h1, h2⟩ | ⟨h0, hk⟩
  · cases h2
  rcases zj_put_n _ _ _ _ _ hk with ⟨h1, h2⟩ | ⟨h1, h2⟩
  · cases h2; subst h1; exact List.mem_cons_self
  · obtain ⟨h3, h4⟩ := zj_pre_n _ _ _ _ h2
    refine List.mem_cons_of_mem _ (List.mem_filter.mpr ⟨(zj_as_mem lv 0 k u).mpr ⟨k, by omega, h3⟩, ?_⟩)
    simp only [Bool.and_eq_true, Bool.not_eq_true', beq_eq_false_iff_ne, ne_eq, Bool.and_eq_false_iff]
    refine ⟨h1, h0, ?_⟩
    by_cases hq : k + 1 = i
    · exact Or.inr (fun z => h4 ⟨hq, z⟩)
    · exact Or.inl hq
def zj_drop : List (Option Value) → List Nat → List (Option Value)
  | lv, [] => lv
  | lv, i :: r => zj_drop (zj_put lv i none) r
theorem zj_drop_n : ∀ (ds : List Nat) (lv : List (Option Value)) (k : Nat) (u : Value), zj_n (zj_drop lv ds) k = some (some u) → zj_n lv k = some (some u)
  | [], lv, k, u, h => h
  | i :: r, lv, k, u, h => by
    rcases zj_put_n _ _ _ _ _ (zj_drop_n r _ k u h) with ⟨h1, h2⟩ | ⟨h1, h2⟩
    · cases h2
    · exact h2
theorem zj_drop_len : ∀ (ds : List Nat) (lv : List (Option Value)), (zj_drop lv ds).length = lv.length
  | [], lv => rfl
  | i :: r, lv => by rw [zj_drop, zj_drop_len r, zj_put_len]
theorem zj_L.drop {ls : Array Slot} {nL : Nat} {lv : List (Option Value)} (h : zj_L ls nL lv) (ds : List Nat) : zj_L ls nL (zj_drop lv ds) :=
  zj_L.weak h.1 (by rw [zj_drop_len]; exact h.2) (fun i u hi => (zj_as_mem lv 0 i u).mpr ⟨i, by omega, zj_drop_n ds lv i u hi⟩)
/-! what is so in every state of the run: D, T (the classes of arrays), the strings' cells -/
abbrev zj_G : Type := va_G × (Nat → ClassId) × (Nat → Nat) × (Nat → Nat)
def zj_tys (T : Nat → ClassId) : List (ClassId × FieldType) := [(T 0, .byte), (T 1, .int), (T 2, .long), (T 3, .boolean), (T 4, .object "RoadToPort$Folk"), (T 5, .object "RoadToPort$Land"), (T 6, .object "RoadToPort$Phrase")]
def zj_nest : List (String × Nat × MethodName) := [("RoadToPort", 18, yX3_init), ("RoadToPort", 28, yX1_init), ("RoadToPort", 38, yX5_init), ("RoadToPort$History", 24, yX1_init), ("RoadToPort", 67, yX4_init), ("RoadToPort", 88, yX0_init), ("RoadToPort", 95, yX8_init), ("RoadToPort", 102, yX10_init), ("RoadToPort$Planner", 76, yX11_commonDivisor)]
def zj_sx : List (String × Nat × String) := [("RoadToPort$Reader", 55, "church inn port road ford man kin swears orders slips enters gets day or and not safe walks waits sailed outlaw slain to at coin days miles number "), ("RoadToPort$Scribe", 35, " in "), ("RoadToPort$Scribe", 44, " to "), ("RoadToPort$Scribe", 46, " "), ("RoadToPort$Scribe", 56, " waits"), ("RoadToPort$Scribe", 58, " sailed"), ("RoadToPort$Scribe", 60, " outlaw"), ("RoadToPort$Scribe", 62, " slain")]
def zj_slen : List Nat := [147, 4, 4, 1, 6, 7, 7, 6]
def zj_sbyt : List (List Int32) := [[99, 104, 117, 114, 99, 104, 32, 105, 110, 110, 32, 112, 111, 114, 116, 32, 114, 111, 97, 100, 32, 102, 111, 114, 100, 32, 109, 97, 110, 32, 107, 105, 110, 32, 115, 119, 101, 97, 114, 115, 32, 111, 114, 100, 101, 114, 115, 32, 115, 108, 105, 112, 115, 32, 101, 110, 116, 101, 114, 115, 32, 103, 101, 116, 115, 32, 100, 97, 121, 32, 111, 114, 32, 97, 110, 100, 32, 110, 111, 116, 32, 115, 97, 102, 101, 32, 119, 97, 108, 107, 115, 32, 119, 97, 105, 116, 115, 32, 115, 97, 105, 108, 101, 100, 32, 111, 117, 116, 108, 97, 119, 32, 115, 108, 97, 105, 110, 32, 116, 111, 32, 97, 116, 32, 99, 111, 105, 110, 32, 100, 97, 121, 115, 32, 109, 105, 108, 101, 115, 32, 110, 117, 109, 98, 101, 114, 32], [32, 105, 110, 32], [32, 116, 111, 32], [32], [32, 119, 97, 105, 116, 115], [32, 115, 97, 105, 108, 101, 100], [32, 111, 117, 116, 108, 97, 119], [32, 115, 108, 97, 105, 110]]
/-- words that do not keep by themselves -/
def zj_xcast : List (String × String) := [("java/util/NoSuchElementException", "java/util/NoSuchElementException")]
def zj_xdecl : List MethodName := [⟨"java/lang/RuntimeException", "<init>", "()V"⟩, ⟨"java/lang/Exception", "<init>", "()V"⟩, ⟨"java/lang/Throwable", "<init>", "()V"⟩]
def zj_E (G : zj_G) (A : Nat → Prop) (U : State) (H : Heap) : Prop := va_K G.1 vwCl (zj_tys G.2.1) U ∧ (∀ q ∈ zj_nest, va_Nw (.methodLinkNest q.1 q.2.1 q.2.2 "RoadToPort") U) ∧ (va_AO "RoadToPort$Folk" U ∧ va_AO "RoadToPort$Land" U ∧ va_AO "RoadToPort$Phrase" U) ∧
  vk_S 8 zj_slen zj_sbyt G.2.2.1 G.2.2.2 A U H ∧ (∀ (i : Nat) (q : String × Nat × String), zj_n zj_sx i = some q → vk_R q.1 q.2.1 q.2.2 (G.2.2.1 i) U) ∧ va_Z "java/lang/String" "COMPACT_STRINGS" "Z" (.int 1) A U H ∧ va_Zq "jdk/internal/util/Preconditions" "SIOOBE_FORMATTER" "Ljava/util/function/BiFunction;" A U H ∧
  vx_Zq Bundle.tN "UNASSIGNED_STACK" Bundle.steD A U H ∧ vx_Zq Bundle.tN "SUPPRESSED_SENTINEL" Bundle.listD A U H ∧ (∀ q ∈ zj_xcast, va_Nw (.castable q.1 q.2) U) ∧ (∀ q ∈ zj_xdecl, va_Nw (.declares q) U)
theorem zj_E.K {G : zj_G} {A : Nat → Prop} {U : State} {H : Heap} (h : zj_E G A U H) : va_K G.1 vwCl (zj_tys G.2.1) U := h.1
/-- to a callee -/
theorem zj_E.go {G : zj_G} {A B : Nat → Prop} {s U : State} {H : Heap} {locs : List Loc} (h : zj_E G A s s.heap) (hW : s.WarmedH U.vm) (hS : va_S A s.heap H locs) (hB : ∀ q, B q → A q) : zj_E G B U H := by
  obtain ⟨h1, h2, h3, h4, h5, h6, h7, h8, h9, h10, h11⟩ := h
  exact ⟨va_K.moved hW.alike h1, fun q hq => va_Nw.warmM hW (h2 q hq), ⟨va_AO.moved hW.alike h3.1, va_AO.moved hW.alike h3.2.1, va_AO.moved hW.alike h3.2.2⟩,
    ((h4.moved hW.alike).kept hS.2.1).narrow hB, fun i q hq => (h5 i q hq).warm hW, ((va_Z.moved hW.alike h6).kept hS.2.1).narrow hB, ((va_Zq.moved hW.alike h7).kept hS.2.1).narrow hB, ((vx_Zq.moved hW.alike h8).kept hS.2.1).narrow hB, ((vx_Zq.moved hW.alike h9).kept hS.2.1).narrow hB, fun q hq => va_Nw.warmC hW (h10 q hq), fun q hq => va_Nw.warmD hW (h11 q hq)⟩
theorem zj_E.calling {G : zj_G} {A : Nat → Prop} {U : State} {H : Heap} {g : JFrame} {mk : MethodId} {a : Array Value} (h : zj_E G A U H) : zj_E G A (U.calling g mk a) H := by
  obtain ⟨h1, h2, h3, h4, h5, h6, h7, h8, h9, h10, h11⟩ := h
  have R : U.vm.Alike (U.calling g mk a).vm := Vm.Alike.refl U.vm
  exact ⟨va_K.moved R h1, fun q hq => va_Nw.same rfl (u := U) (U := U.calling g mk a) rfl (h2 q hq), ⟨va_AO.moved R h3.1, va_AO.moved R h3.2.1, va_AO.moved R h3.2.2⟩,
    h4.moved R, fun i q hq => (h5 i q hq).same rfl, va_Z.moved R h6, va_Zq.moved R h7, vx_Zq.moved R h8, vx_Zq.moved R h9, fun q hq => va_Nw.same rfl (u := U) (U := U.calling g mk a) rfl (h10 q hq), fun q hq => va_Nw.same rfl (u := U) (U := U.calling g mk a) rfl (h11 q hq)⟩
/-! a method: own class, code, locals, result, room, whether <init> -/
abbrev zj_M : Type := String × ByteArray × Nat × Option FieldType × Room × Bool
def zj_A (W0 : List va_W) (sz : Nat) : Nat → Prop := va_A W0.flatten sz
def zj_x (p : Program) (s : State) (m : MethodId) (args : Array Value) (meth : Method) (c : Code) (M : zj_M) (G : zj_G) (W0 : List va_W) : Prop :=
  p.tables.exec = Jvm.exec ∧ c.code = M.2.1 ∧ c.maxLocals = M.2.2.1 ∧ meth.sig.returnType = M.2.2.2.1 ∧ s.vm.findClass M.1 = some m.cls ∧ (∀ w ∈ zT, w.before args s = true) ∧ zj_E G (zj_A W0 s.heap.size) s s.heap ∧ meth.locks = false ∧ (M.2.2.2.2.2 = true → meth.name = "<init>") ∧ (∀ x ∈ c.exceptionTable.toList, False)
def zj_Q (G : zj_G) (W0 : List va_W) (sz : Nat) (rv : Option Value) (W1 : (Nat → Nat) → List va_W) : Array Value → State → Outcome → State → Prop := fun _ st oc t =>
  (∃ b : Nat → Nat, oc = .returned rv ∧ va_P G.1 vwCl (W1 b).flatten t.heap ∧ va_D (zj_A W0 sz) (W1 b).flatten) ∧ va_F (zj_A W0 sz) st t
/-- how a method ends: from its start s, its arguments, the frames below, the states at the end -/
abbrev zj_F : Type := State → Array Value → List Frame → State → Prop
def zj_ret (G : zj_G) (M : zj_M) (W0 : List va_W) (rv : Option Value) (W1 : (Nat → Nat) → List va_W) : zj_F := fun s args below => MQ below (zj_Q G W0 s.heap.size rv W1) args s M.2.2.2.2.1.cells M.2.2.2.2.1.slots (zj_A W0 s.heap.size)
def zj_J (l : Launch) (G : zj_G) (M : zj_M) (W0 : List va_W) (Φ : zj_F) (k n : Nat) (WW : List va_W) (lv : List (Option Value)) (pc : Nat) (st : List Value) : Prop :=
  ∀ (p : Program) (e : Env) (s : State) (m : MethodId) (args : Array Value) (below : List Frame) (meth : Method) (c : Code) (H : Heap) (locs : List Loc) (ls : Array Slot),
    zj_x p s m args meth c M G W0 → va_P G.1 vwCl WW.flatten H → va_D (zj_A W0 s.heap.size) WW.flatten → va_S (zj_A W0 s.heap.size) s.heap H locs → zj_L ls M.2.2.1 lv →
    W p l e M.2.2.2.2.1 s m args below meth c H locs k n (Φ s args below) (F0 m pc ls st)
def zj_Pc (G : zj_G) (W0 : List va_W) (sz : Nat) (U : State) : Prop := U.heap.size = sz ∧ va_P G.1 vwCl W0.flatten U.heap ∧ va_D (fun _ => True) W0.flatten ∧ zj_E G (zj_A W0 sz) U U.heap
/-- the contract: from the world W0 with these arguments the method returns rv and leaves the world W1 -/
def zj_C (l : Launch) (G : zj_G) (M : zj_M) (y : MethodName) (W0 : List va_W) (as : List Value) (rv : Option Value) (W1 : (Nat → Nat) → List va_W) : Prop :=
  ∀ sz, Met l y (.code y M.2.1 M.2.2.1 M.2.2.2.1 :: zT) M.2.2.2.2.1 (va_Pc as (zj_Pc G W0 sz)) (zj_Q G W0 sz rv W1) M.2.2.2.2.1.cells M.2.2.2.2.1.slots (zj_A W0 sz)
theorem zj_entry {l : Launch} {G : zj_G} {M : zj_M} {y : MethodName} {W0 : List va_W} {as : List Value} {rv : Option Value} {W1 : (Nat → Nat) → List va_W} (lv : List (Option Value)) (hy : plainName y.cls = true) (ho : y.cls = M.1) (hi : M.2.2.2.2.2 = true → y.name = "<init>") (hlen : (lg_sl as).length ≤ M.2.2.1)
    (hlv : zj_as 0 lv = lv_args 0 as) (hln : lv.length = M.2.2.1) (h : zj_J l G M W0 (zj_ret G M W0 rv W1) 0 0 W0 lv 0 []) : zj_C l G M y W0 as rv W1 := by
  intro sz
  refine Met.ofW (cc := M.2.1) (maxL := M.2.2.1) (ret := M.2.2.2.1) hy rfl ?_
  intro p e s m args below meth c s₁ B hml hv
  obtain ⟨rfl, hsz, hP, hD0, hE⟩ := hv
  have hts := atoms_spec (ws := .code y M.2.1 M.2.2.1 M.2.2.2.1 :: zT) B.pre
  have hown : s.vm.findClass y.cls = some m.cls := findClass_of_methodNamed B.named
  subst hsz
  have hD : va_D (zj_A W0 s.heap.size) W0.flatten := hD0.self (sz := s.heap.size)
  have hl := lv_entry as (n := M.2.2.1) hlen
  rw [lg_entry_eq]
  refine h p e s m as.toArray below meth c s.heap [] _ ⟨B.exec, B.bytes, hml, B.returns, by rw [← ho]; exact hown, fun w hw => hts w (List.mem_cons_of_mem _ hw), hE, B.notSynchronized, fun q => ?_, ?_⟩ hP hD va_S.rf ⟨by rw [hlv]; exact hl, hln⟩
  · rw [← hi q]
    exact (name_of_methodNamed B.named B.method).1
  · obtain ⟨meth9, c9, h1, h2, -, -, -, -, h7, -⟩ := Cond.code_spec B.named (hts _ List.mem_cons_self)
    cases Option.some.inj (h1.symm.trans B.method)
    cases Option.some.inj (h2.symm.trans (Stand.of_body B).code)
    intro x hx
    rw [Array.isEmpty_iff.mp h7] at hx
    cases hx
/-! methods that may throw -/
def zj_Qx (G : zj_G) (W0 : List va_W) (sz : Nat) (ro : Option (Option Value)) (W1 : (Nat → Nat) → List va_W) : Array Value → State → Outcome → State → Prop := match ro with
  | some rv => zj_Q G W0 sz rv W1
  | none => fun _ _ _ _ => False
def zj_XC (G : zj_G) (W0 : List va_W) (sz : Nat) (ro : Option (Option Value)) (W1 : (Nat → Nat) → List va_W) : String → State → State → Prop := match ro with
  | some _ => fun _ _ _ => False
  | none => fun E st t => E = "java/util/NoSuchElementException" ∧ (∃ b, va_P G.1 vwCl (W1 b).flatten t.heap ∧ va_D (zj_A W0 sz) (W1 b).flatten) ∧ va_F (zj_A W0 sz) st t
def zj_thr (G : zj_G) (M : zj_M) (W0 : List va_W) (ro : Option (Option Value)) (W1 : (Nat → Nat) → List va_W) : zj_F := fun s args below => vx_MQ below (zj_Qx G W0 s.heap.size ro W1) (zj_XC G W0 s.heap.size ro W1) args s M.2.2.2.2.1.cells M.2.2.2.2.1.slots (zj_A W0 s.heap.size)
def zj_CX (l : Launch) (G : zj_G) (M : zj_M) (y : MethodName) (W0 : List va_W) (as : List Value) (ro : Option (Option Value)) (W1 : (Nat → Nat) → List va_W) : Prop :=
  ∀ sz, vx_Met l y (.code y M.2.1 M.2.2.1 M.2.2.2.1 :: zT) M.2.2.2.2.1 (va_Pc as (zj_Pc G W0 sz)) (zj_Qx G W0 sz ro W1) (zj_XC G W0 sz ro W1) M.2.2.2.2.1.cells M.2.2.2.2.1.slots (zj_A W0 sz)
theorem zj_toX {l : Launch} {G : zj_G} {M : zj_M} {W0 : List va_W} {rv : Option Value} {W1 : (Nat → Nat) → List va_W} {k n : Nat} {WW : List va_W} {lv : List (Option Value)} {pc : Nat} {st : List Value} (h : zj_J l G M W0 (zj_ret G M W0 rv W1) k n WW lv pc st) : zj_J l G M W0 (zj_thr G M W0 (some rv) W1) k n WW lv pc st := by
  intro p e s m args below meth c H locs ls C hP hD hS hl
  exact vx_ret (h p e s m args below meth c H locs ls C hP hD hS hl)
theorem zj_entryX {l : Launch} {G : zj_G} {M : zj_M} {y : MethodName} {W0 : List va_W} {as : List Value} {ro : Option (Option Value)} {W1 : (Nat → Nat) → List va_W} (lv : List (Option Value)) (hy : plainName y.cls = true) (ho : y.cls = M.1) (hi : M.2.2.2.2.2 = true → y.name = "<init>") (hlen : (lg_sl as).length ≤ M.2.2.1)
    (hlv : zj_as 0 lv = lv_args 0 as) (hln : lv.length = M.2.2.1) (h : zj_J l G M W0 (zj_thr G M W0 ro W1) 0 0 W0 lv 0 []) : zj_CX l G M y W0 as ro W1 := by
  intro sz
  refine vx_ofW (cc := M.2.1) (maxL := M.2.2.1) (ret := M.2.2.2.1) hy rfl ?_
  intro p e s m args below meth c s₁ B hml ht hv
  obtain ⟨rfl, hsz, hP, hD0, hE⟩ := hv
  have hts := atoms_spec (ws := .code y M.2.1 M.2.2.1 M.2.2.2.1 :: zT) B.pre
  have hown : s.vm.findClass y.cls = some m.cls := findClass_of_methodNamed B.named
  subst hsz
  have hD : va_D (zj_A W0 s.heap.size) W0.flatten := hD0.self (sz := s.heap.size)
  have hl := lv_entry as (n := M.2.2.1) hlen
  rw [lg_entry_eq]
  refine h p e s m as.toArray below meth c s.heap [] _ ⟨B.exec, B.bytes, hml, B.returns, by rw [← ho]; exact hown, fun w hw => hts w (List.mem_cons_of_mem _ hw), hE, B.notSynchronized, fun q => ?_, ht⟩ hP hD va_S.rf ⟨by rw [hlv]; exact hl, hln⟩
  rw [← hi q]
  exact (name_of_methodNamed B.named B.method).1
/-- the words of the exception's making -/
def zj_xL : List Cond := vx_at0 RX11 180 "java/util/NoSuchElementException" ["java/lang/RuntimeException", "java/lang/Exception"]
def zj_xB : List Cond := zj_xcast.map (fun q => .castable q.1 q.2) ++ zj_xdecl.map (fun q => .declares q)
theorem zj_xL_good : ∀ w ∈ zj_xL.filter goodWord, w ∈ zT := fun w hw => List.mem_filter.mpr ⟨(show ∀ w ∈ zj_xL.filter goodWord, w ∈ lw_tbl by decide +kernel) w hw, (List.mem_filter.mp hw).2⟩
theorem zj_xL_rest : ∀ w ∈ zj_xL.filter (fun w => !goodWord w), w ∈ zj_xB := by decide +kernel
theorem zj_xL_ot : ∀ w ∈ Cond.classLink RX11 178 "java/util/NoSuchElementException" :: Cond.initialized "java/util/NoSuchElementException" :: zj_xL, vx_ot w = true := by decide +kernel
theorem zr_throw {l : Launch} {G : zj_G} {M : zj_M} {W0 : List va_W} {W1 : (Nat → Nat) → List va_W} {b0 : Nat → Nat} {k n : Nat} {WW : List va_W} {lv : List (Option Value)} {pc : Nat} {st : List Value} (hl : l.stackTraces = false) (hM : M.1 = RX11) (w1 : Cond.classLink RX11 178 "java/util/NoSuchElementException" ∈ zT) (w2 : Cond.initialized "java/util/NoSuchElementException" ∈ zT)
    (d0 : decode M.2.1 pc = .ok (.new 178, 3)) (d3 : decode M.2.1 (pc + 3) = .ok (.dup, 1)) (d4 : decode M.2.1 (pc + 4) = .ok (.invokespecial 180, 3)) (d7 : decode M.2.1 (pc + 7) = .ok (.athrow, 1)) (hf : 5 < M.2.2.2.2.1.frames) (hlo : (st.map fun v => v.category).sum + 81 ≤ M.2.2.2.2.1.locals) (hc : k + 1 ≤ M.2.2.2.2.1.cells ∧ n + 6 ≤ M.2.2.2.2.1.slots) (hW : W1 b0 = WW) : zj_J l G M W0 (zj_thr G M W0 none W1) k n WW lv pc st := by
  intro p e s m args below meth c H locs ls C hP hD hS hl2
  subst hW
  have hE := C.2.2.2.2.2.2.1
  obtain ⟨h1, h2, h3, h4, h5, h6, h7, h8, h9, h10, h11⟩ := id hE
  have hat : ∀ w ∈ zj_xL, w.before args s = true := vx_hat (fun w hw => C.2.2.2.2.2.1 w (zj_xL_good w hw)) zj_xL_rest (fun w hw => by
    rcases List.mem_append.mp hw with hw | hw
    · obtain ⟨q, hq, rfl⟩ := List.mem_map.mp hw
      exact va_Nw.use rfl (h10 q hq)
    · obtain ⟨q, hq, rfl⟩ := List.mem_map.mp hw
      exact va_Nw.use rfl (h11 q hq))
  exact vx_throw0 (own := RX11) (cls := "java/util/NoSuchElementException") (names := ["java/lang/RuntimeException", "java/lang/Exception"]) C.1 C.2.1 hl (by rw [← hM]; exact C.2.2.2.2.1) (by decide +kernel) (by decide +kernel) (C.2.2.2.2.2.1 _ w1) (C.2.2.2.2.2.1 _ w2) hat zj_xL_ot h8 h9 hS (hl2.1.1.trans C.2.2.1.symm) d0 d3 d4 d7 (fun x hx => (C.2.2.2.2.2.2.2.2.2 x hx).elim)
    hf hlo hc.1 hc.2 C.2.2.2.2.2.2.2.1 (fun t _ hz hk => ⟨rfl, ⟨b0, va_P.kept hP (fun i q hq => hk q.1 ((hP i q hq).lt)), hD⟩, Nat.le_trans hS.1 hz, fun q h1 h2 => (hk q (Nat.lt_of_lt_of_le h1 hS.1)).trans (hS.2.1 q h1 h2)⟩) hS.2.2 hc.1 hc.2
