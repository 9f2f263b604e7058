/-! the base: global names of one run, what never changes, contracts of one shape, calls of them -/
/-- class ids, slots, array classes (char, int, long, EditState), texts' cells and bytes -/
abbrev GT : Type := (Nat → ClassId) × (Nat → Nat → Nat) × ClassId × ClassId × ClassId × ClassId × (Nat → Nat) × (Nat → Nat)
abbrev gD (G : GT) : va_G := (G.1, G.2.1)
abbrev gC (G : GT) : ClassId := G.2.2.1
abbrev gI (G : GT) : ClassId := G.2.2.2.1
abbrev gJ (G : GT) : ClassId := G.2.2.2.2.1
abbrev gE (G : GT) : ClassId := G.2.2.2.2.2.1
abbrev gK (G : GT) : Nat → Nat := G.2.2.2.2.2.2.1
abbrev gV (G : GT) : Nat → Nat := G.2.2.2.2.2.2.2
abbrev TYS (G : GT) : List (ClassId × FieldType) := [(gC G, .char), (gI G, .int), (gJ G, .long), (gE G, .object "DisambiguationBench$EditState")]
def tx0 : String := "op+4l;op-4l;op*6l;op<2n;expra-b*c+d<e;"
def txt (i : Nat) : List Int32 := match i with
  | 0 => [111, 112, 43, 52, 108, 59, 111, 112, 45, 52, 108, 59, 111, 112, 42, 54, 108, 59, 111, 112, 60, 50, 110, 59, 101, 120, 112, 114, 97, 45, 98, 42, 99, 43, 100, 60, 101, 59]
  | 1 => [43, 45, 42, 47, 37, 38, 124, 60, 61]
  | 2 => [108, 114, 110]
  | 3 => [111, 112]
  | _ => [101, 120, 112, 114]
abbrev bytS : List (List Int32) := [txt 0, txt 1, txt 2, txt 3, txt 4]
abbrev lenS : List Nat := [38, 9, 3, 2, 4]
/-- what never changes: tables of the classes, the nest's words, the texts, two statics of the JDK -/
def ENV (G : GT) (A : Nat → Prop) (U : State) (H : Heap) : Prop :=
  va_K (gD G) vwCl (TYS G) U ∧ (∀ w ∈ gn, va_Nw w U) ∧ vk_S 5 lenS bytS (gK G) (gV G) A U H ∧
  (vk_R RX7 58 tx0 (gK G 0) U ∧ vk_R RX5 51 "+-*/%&|<=" (gK G 1) U ∧ vk_R RX4 44 "+-*/%&|<=" (gK G 1) U ∧ vk_R RX5 57 "lrn" (gK G 2) U ∧ vk_R RX5 28 "op" (gK G 3) U ∧ vk_R RX5 37 "expr" (gK G 4) U) ∧
  va_Z "java/lang/String" "COMPACT_STRINGS" "Z" (.int 1) A U H ∧ va_Zq "jdk/internal/util/Preconditions" "SIOOBE_FORMATTER" "Ljava/util/function/BiFunction;" A U H ∧ va_AO "DisambiguationBench$EditState" U
theorem gn_warm {s U : State} (hW : s.WarmedH U.vm) (h : ∀ w ∈ gn, va_Nw w s) : ∀ w ∈ gn, va_Nw w U := by
  intro w hw
  have h1 := h w hw
  have h2 := (List.mem_filter.mp hw).2
  cases w <;> first | (simp [nestW] at h2; done) | exact va_Nw.warmM hW h1 | exact va_Nw.warmF hW h1
theorem gn_same {s U : State} (hv : s.vm = U.vm) (h : ∀ w ∈ gn, va_Nw w s) : ∀ w ∈ gn, va_Nw w U := by
  intro w hw
  have h1 := h w hw
  have h2 := (List.mem_filter.mp hw).2
  cases w <;> first | (simp [nestW] at h2; done) | exact va_Nw.same rfl hv h1
theorem ENV.pass {G : GT} {A B : Nat → Prop} {s U : State} {H : Heap} {locs : List Loc} (hE : ENV G A s s.heap) (hS : va_S A s.heap H locs) (hW : s.WarmedH U.vm) (hU : U.heap = H) (hB : ∀ q, B q → A q) : ENV G B U U.heap := by
  obtain ⟨h1, h2, h3, ⟨r1, r2, r3, r4, r5, r6⟩, h5, h6, h7⟩ := hE
  rw [hU]
  exact ⟨va_K.moved hW.alike h1, gn_warm hW h2, ((h3.kept hS.2.1).moved hW.alike).narrow hB, ⟨r1.warm hW, r2.warm hW, r3.warm hW, r4.warm hW, r5.warm hW, r6.warm hW⟩, ((h5.kept hS.2.1).moved hW.alike).narrow hB, ((h6.kept hS.2.1).moved hW.alike).narrow hB, h7.moved hW.alike⟩
theorem ENV.same {G : GT} {A : Nat → Prop} {u U : State} {H : Heap} (hv : u.vm = U.vm) (hE : ENV G A u H) : ENV G A U H := by
  obtain ⟨h1, h2, h3, ⟨r1, r2, r3, r4, r5, r6⟩, h5, h6, h7⟩ := hE
  have al : u.vm.Alike U.vm := by rw [hv]; exact Vm.Alike.refl U.vm
  exact ⟨va_K.moved al h1, gn_same hv h2, h3.moved al, ⟨r1.same hv.symm, r2.same hv.symm, r3.same hv.symm, r4.same hv.symm, r5.same hv.symm, r6.same hv.symm⟩, h5.moved al, h6.moved al, h7.moved al⟩
/-- a method's start -/
def CPre (G : GT) (av : List Value) (W1 : va_W) (sz : Nat) : Array Value → State → Prop := va_Pc av (fun U => U.heap.size = sz ∧ va_P (gD G) vwCl W1 U.heap ∧ va_D (fun _ => True) W1 ∧ ENV G (va_A W1 sz) U U.heap)
theorem CPre.blind {G : GT} {av : List Value} {W1 : va_W} {sz : Nat} : FrameBlind (CPre G av W1 sz) := by
  intro a U g mk h
  obtain ⟨h0, h1, h2, h3, h4⟩ := h
  exact ⟨h0, h1, h2, h3, ENV.same (u := U) (U := U.calling g mk a) rfl h4⟩
/-- a method's end: its world, with the addresses z of what it made or moved -/
abbrev CPost (G : GT) (A : Nat → Prop) (W2 : (Nat → Nat) → va_W) : Unit → State → Prop := fun _ t => ∃ z : Nat → Nat, va_P (gD G) vwCl (W2 z) t.heap ∧ va_D A (W2 z)
/-- contracts: int, long, void -/
def Ci (G : GT) (l : Launch) (y : MethodName) (cc : ByteArray) (maxL : Nat) (ret : Option FieldType) (rm : Room) (av : List Value) (W1 : va_W) (sz : Nat) (r : Int32) (W2 : (Nat → Nat) → va_W) : Prop :=
  Met l y (Cond.code y cc maxL ret :: gw) rm (CPre G av W1 sz) (va_Qi (fun r' _ => r' = r) (CPost G (va_A W1 sz) W2) (va_A W1 sz)) rm.cells rm.slots (va_A W1 sz)
def Cl (G : GT) (l : Launch) (y : MethodName) (cc : ByteArray) (maxL : Nat) (ret : Option FieldType) (rm : Room) (av : List Value) (W1 : va_W) (sz : Nat) (r : Int64) (W2 : (Nat → Nat) → va_W) : Prop :=
  Met l y (Cond.code y cc maxL ret :: gw) rm (CPre G av W1 sz) (va_Ql (fun r' _ => r' = r) (CPost G (va_A W1 sz) W2) (va_A W1 sz)) rm.cells rm.slots (va_A W1 sz)
def Cv (G : GT) (l : Launch) (y : MethodName) (cc : ByteArray) (maxL : Nat) (ret : Option FieldType) (rm : Room) (av : List Value) (W1 : va_W) (sz : Nat) (W2 : (Nat → Nat) → va_W) : Prop :=
  Met l y (Cond.code y cc maxL ret :: gw) rm (CPre G av W1 sz) (va_Qv (fun _ => True) (CPost G (va_A W1 sz) W2) (va_A W1 sz)) rm.cells rm.slots (va_A W1 sz)
/-- what holds in a body, all along -/
abbrev BD (p : Program) (e : Env) (s : State) (m : MethodId) (args : Array Value) (below : List Frame) (meth : Method) (c : Code) (G : GT) (y : MethodName) (cc : ByteArray) (maxL : Nat) (ret : Option FieldType) (A : Nat → Prop) : Prop :=
  p.tables.exec = Jvm.exec ∧ c.code = cc ∧ c.maxLocals = maxL ∧ meth.sig.returnType = ret ∧ s.vm.findClass y.cls = some m.cls ∧ (∀ w ∈ gw, w.before args s = true) ∧ meth.locks = false ∧ meth.name = y.name ∧ (∀ q, s.heap.size ≤ q → A q) ∧ ENV G A s s.heap
theorem gw_hts {y : MethodName} {cc : ByteArray} {maxL : Nat} {ret : Option FieldType} {args : Array Value} {s : State} (h : ∀ w ∈ Cond.code y cc maxL ret :: gw, w.before args s = true) : ∀ w ∈ gw, w.before args s = true := fun w hw => h w (List.mem_cons_of_mem _ hw)
theorem Ci.start {G : GT} {l : Launch} {y : MethodName} {cc : ByteArray} {maxL : Nat} {ret : Option FieldType} {rm : Room} {av : List Value} {W1 : va_W} {sz : Nat} {r : Int32} {W2 : (Nat → Nat) → va_W} {ty : FieldType} (hret : ret = some ty)
    (hy : plainName y.cls = true) (hn : (lg_sl av).length ≤ maxL)
    (body : ∀ (p : Program) (e : Env) (s : State) (m : MethodId) (args : Array Value) (below : List Frame) (meth : Method) (c : Code) (A : Nat → Prop) (Q : State → Prop) (H : Heap) (locs : List Loc) (ls : Array Slot), BD p e s m args below meth c G y cc maxL ret A → va_P (gD G) vwCl W1 H → va_D A W1 → va_S A s.heap H locs → lv_has ls maxL (lv_args 0 av) →
      (∀ (z : Nat → Nat) (H : Heap) (locs : List Loc) (pc : Nat) (ls : Array Slot), va_P (gD G) vwCl (W2 z) H → va_D A (W2 z) → va_S A s.heap H locs → narrow ty (.int r) = .int r → decode cc pc = .ok (.ireturn, 1) → W p l e rm s m args below meth c H locs rm.cells rm.slots Q (F0 m pc ls [.int r])) →
      W p l e rm s m args below meth c H locs 0 0 Q (F0 m 0 ls [])) : Ci G l y cc maxL ret rm av W1 sz r W2 := by
  refine Met.ofW (cc := cc) (maxL := maxL) (ret := ret) hy rfl ?_
  intro p e s m args below meth c s₁ B hml hv
  obtain ⟨rfl, hsz, hP, hD0, hE⟩ := hv
  have hx := B.exec
  have hb := B.bytes
  have hr := B.returns
  have hts := atoms_spec (ws := Cond.code y cc maxL ret :: gw) B.pre
  have hown : s.vm.findClass y.cls = some m.cls := findClass_of_methodNamed B.named
  have hlocks := B.notSynchronized
  have hnm : meth.name = y.name := (name_of_methodNamed B.named B.method).1
  subst hsz
  have hD := hD0.self (sz := s.heap.size)
  generalize hAe : va_A W1 s.heap.size = A at hD hE ⊢
  have hA : ∀ q : Nat, s.heap.size ≤ q → A q := fun q h => by rw [← hAe]; exact Or.inr h
  have hl := lv_entry av (n := maxL) hn
  rw [lg_entry_eq]
  generalize (lg_sl av ++ List.replicate (maxL - (lg_sl av).length) Slot.unset).toArray = ls at hl ⊢
  refine body p e s m av.toArray below meth c A _ s.heap [] ls ⟨hx, hb, hml, hr, hown, gw_hts hts, hlocks, hnm, hA, hE⟩ hP hD va_S.rf hl ?_
  intro z H locs pc ls hP hD hS hnar hdg
  exact W.zret (v := r) hx hb (hr.trans hret) hnar (fun t ht hW => ⟨⟨r, (), rfl, rfl, z, by rw [ht]; exact hP, hD⟩, hS.F ht⟩) hS.2.2 hdg
theorem Cl.start {G : GT} {l : Launch} {y : MethodName} {cc : ByteArray} {maxL : Nat} {rm : Room} {av : List Value} {W1 : va_W} {sz : Nat} {r : Int64} {W2 : (Nat → Nat) → va_W}
    (hy : plainName y.cls = true) (hn : (lg_sl av).length ≤ maxL)
    (body : ∀ (p : Program) (e : Env) (s : State) (m : MethodId) (args : Array Value) (below : List Frame) (meth : Method) (c : Code) (A : Nat → Prop) (Q : State → Prop) (H : Heap) (locs : List Loc) (ls : Array Slot), BD p e s m args below meth c G y cc maxL (some .long) A → va_P (gD G) vwCl W1 H → va_D A W1 → va_S A s.heap H locs → lv_has ls maxL (lv_args 0 av) →
      (∀ (z : Nat → Nat) (H : Heap) (locs : List Loc) (pc : Nat) (ls : Array Slot), va_P (gD G) vwCl (W2 z) H → va_D A (W2 z) → va_S A s.heap H locs → decode cc pc = .ok (.lreturn, 1) → W p l e rm s m args below meth c H locs rm.cells rm.slots Q (F0 m pc ls [.long r])) →
      W p l e rm s m args below meth c H locs 0 0 Q (F0 m 0 ls [])) : Cl G l y cc maxL (some .long) rm av W1 sz r W2 := by
  refine Met.ofW (cc := cc) (maxL := maxL) (ret := some .long) hy rfl ?_
  intro p e s m args below meth c s₁ B hml hv
  obtain ⟨rfl, hsz, hP, hD0, hE⟩ := hv
  have hx := B.exec
  have hb := B.bytes
  have hr := B.returns
  have hts := atoms_spec (ws := Cond.code y cc maxL (some .long) :: gw) B.pre
  have hown : s.vm.findClass y.cls = some m.cls := findClass_of_methodNamed B.named
  have hlocks := B.notSynchronized
  have hnm : meth.name = y.name := (name_of_methodNamed B.named B.method).1
  subst hsz
  have hD := hD0.self (sz := s.heap.size)
  generalize hAe : va_A W1 s.heap.size = A at hD hE ⊢
  have hA : ∀ q : Nat, s.heap.size ≤ q → A q := fun q h => by rw [← hAe]; exact Or.inr h
  have hl := lv_entry av (n := maxL) hn
  rw [lg_entry_eq]
  generalize (lg_sl av ++ List.replicate (maxL - (lg_sl av).length) Slot.unset).toArray = ls at hl ⊢
  refine body p e s m av.toArray below meth c A _ s.heap [] ls ⟨hx, hb, hml, hr, hown, gw_hts hts, hlocks, hnm, hA, hE⟩ hP hD va_S.rf hl ?_
  intro z H locs pc ls hP hD hS hdg
  exact W.lret (v := r) hx hb hr (fun t ht hW => ⟨⟨r, (), rfl, rfl, z, by rw [ht]; exact hP, hD⟩, hS.F ht⟩) hS.2.2 hdg
theorem Cv.start {G : GT} {l : Launch} {y : MethodName} {cc : ByteArray} {maxL : Nat} {rm : Room} {av : List Value} {W1 : va_W} {sz : Nat} {W2 : (Nat → Nat) → va_W}
    (hy : plainName y.cls = true) (hn : (lg_sl av).length ≤ maxL)
    (body : ∀ (p : Program) (e : Env) (s : State) (m : MethodId) (args : Array Value) (below : List Frame) (meth : Method) (c : Code) (A : Nat → Prop) (Q : State → Prop) (H : Heap) (locs : List Loc) (ls : Array Slot), BD p e s m args below meth c G y cc maxL none A → va_P (gD G) vwCl W1 H → va_D A W1 → va_S A s.heap H locs → lv_has ls maxL (lv_args 0 av) →
      (∀ (z : Nat → Nat) (H : Heap) (locs : List Loc) (pc : Nat) (ls : Array Slot), va_P (gD G) vwCl (W2 z) H → va_D A (W2 z) → va_S A s.heap H locs → decode cc pc = .ok (.return_, 1) → W p l e rm s m args below meth c H locs rm.cells rm.slots Q (F0 m pc ls [])) →
      W p l e rm s m args below meth c H locs 0 0 Q (F0 m 0 ls [])) : Cv G l y cc maxL none rm av W1 sz W2 := by
  refine Met.ofW (cc := cc) (maxL := maxL) (ret := none) hy rfl ?_
  intro p e s m args below meth c s₁ B hml hv
  obtain ⟨rfl, hsz, hP, hD0, hE⟩ := hv
  have hx := B.exec
  have hb := B.bytes
  have hr := B.returns
  have hts := atoms_spec (ws := Cond.code y cc maxL none :: gw) B.pre
  have hown : s.vm.findClass y.cls = some m.cls := findClass_of_methodNamed B.named
  have hlocks := B.notSynchronized
  have hnm : meth.name = y.name := (name_of_methodNamed B.named B.method).1
  subst hsz
  have hD := hD0.self (sz := s.heap.size)
  generalize hAe : va_A W1 s.heap.size = A at hD hE ⊢
  have hA : ∀ q : Nat, s.heap.size ≤ q → A q := fun q h => by rw [← hAe]; exact Or.inr h
  have hl := lv_entry av (n := maxL) hn
  rw [lg_entry_eq]
  generalize (lg_sl av ++ List.replicate (maxL - (lg_sl av).length) Slot.unset).toArray = ls at hl ⊢
  refine body p e s m av.toArray below meth c A _ s.heap [] ls ⟨hx, hb, hml, hr, hown, gw_hts hts, hlocks, hnm, hA, hE⟩ hP hD va_S.rf hl ?_
  intro z H locs pc ls hP hD hS hdg
  exact W.vret hx hb hr (fun t ht hW => ⟨⟨(), rfl, trivial, z, by rw [ht]; exact hP, hD⟩, hS.F ht⟩) hS.2.2 hdg
/-- what the tables say of a method that is called -/
abbrev KM (y : MethodName) (cc : ByteArray) (maxL : Nat) (ret : Option FieldType) (n : Nat) : Prop := Cond.code y cc maxL ret ∈ gw ∧ Cond.initialized y.cls ∈ gw ∧ (y.cls ≠ "java/lang/invoke/MethodHandle" ∧ y.cls ≠ "java/lang/invoke/VarHandle" ∧ (parseMethodDescriptor y.desc).map (fun d => d.parameters.length) = some n)
theorem good_code {y : MethodName} {cc : ByteArray} {maxL : Nat} {ret : Option FieldType} (h : Cond.code y cc maxL ret ∈ gw) : GoodIn gw (Cond.code y cc maxL ret :: gw) := by
  intro w hw
  have h1 : w ∈ gw := by
    rcases List.mem_cons.mp hw with e | e
    · rw [e]; exact h
    · exact e
  exact ⟨h1, good_of_word (List.mem_filter.mp h1).2⟩
theorem map_filt {α β : Type} (f : α → Option β) : ∀ (is : List α) (w : List β), is.map f = w.map some → is.filterMap f = w := by
  intro is
  induction is with
  | nil => intro w h; cases w with
    | nil => rfl
    | cons a b => cases h
  | cons a is ih =>
    intro w h
    cases w with
    | nil => cases h
    | cons b w =>
      have h1 := (List.cons.inj h).1
      have h2 := (List.cons.inj h).2
      rw [List.filterMap_cons, h1, ih w h2]
/-- cut out, call, join: what a call of any kind gives -/
theorem call_join {G : GT} {A : Nat → Prop} {s : State} {ws W1 wr : va_W} {H : Heap} {locs : List Loc} {B : GT → Prop} (hP : va_P (gD G) vwCl ws H) (hD : va_D A ws) (hS : va_S A s.heap H locs) (hA : ∀ q, s.heap.size ≤ q → A q) (isC isR : List Nat) (hC : isC.map (fun i => ws[i]?) = W1.map some) (hR : isR.map (fun i => ws[i]?) = wr.map some) (hn : va_nd isC = true ∧ va_nd isR = true) (hdis : ∀ i ∈ isR, i ∉ isC)
    {W2 : (Nat → Nat) → va_W} {t : State} {H1 : Heap} (ht : t.heap = H1) (hB : CPost G (va_A W1 H.size) W2 () t) (hk1 : ∀ q : Nat, q < H.size → ¬ va_A W1 H.size q → H1[q]? = H[q]?) : ∃ z : Nat → Nat, va_P (gD G) vwCl (wr ++ W2 z) H1 ∧ va_D A (wr ++ W2 z) := by
  obtain ⟨z, h1, h2⟩ := hB
  rw [ht] at h1
  exact ⟨z, va_join hP hD isC isR hC hR hn.2 hdis hk1 (va_free hD hS hA isC hC) h1 h2⟩
theorem call_pre {G : GT} {A : Nat → Prop} {s : State} {ws W1 : va_W} {H : Heap} {locs : List Loc} {av : List Value} (hE : ENV G A s s.heap) (hP : va_P (gD G) vwCl ws H) (hD : va_D A ws) (hS : va_S A s.heap H locs) (hA : ∀ q, s.heap.size ≤ q → A q) (isC : List Nat) (hC : isC.map (fun i => ws[i]?) = W1.map some) (hn : va_nd isC = true) : ∀ U : State, U.heap = H → s.WarmedH U.vm → CPre G av W1 H.size av.toArray U := by
  intro U hU hW
  refine ⟨rfl, by rw [hU], by rw [hU]; exact hP.sub isC (map_filt _ _ _ hC), (hD.sub isC hn hC).weaken (fun _ _ _ _ => trivial), ?_⟩
  exact hE.pass hS hW hU (va_free hD hS hA isC hC)
section CALLS
variable {p : Program} {l : Launch} {e : Env} {R : Room} {s : State} {m : MethodId} {args : Array Value} {below : List Frame} {meth : Method} {c : Code} {H : Heap} {locs : List Loc} {cells slots : Nat} {Q : State → Prop}
variable {G : GT} {A : Nat → Prop} {y0 y : MethodName} {cc0 cc : ByteArray} {nL maxL : Nat} {ret0 ret : Option FieldType} {rm : Room} {av : List Value} {As rest st0 : List Value} {W1 wr ws : va_W} {W2 : (Nat → Nat) → va_W} {pc index b : Nat} {ls : Array Slot} {lv : List (Nat × Value)}
theorem callB (hB : BD p e s m args below meth c G y0 cc0 nL ret0 A) {n : Nat} (hk : KM y cc maxL ret n) (hml : Cond.methodLink y0.cls index y ∈ gw) (hrm : rm.frames + 1 ≤ R.frames ∧ 8 + (maxL + 11) + rm.locals ≤ R.locals) : CallB R s args y0.cls index y cc maxL ret (Cond.code y cc maxL ret :: gw) rm rm.cells rm.slots n := by
  obtain ⟨-, -, -, -, -, hts, -⟩ := hB
  exact callB_of n hts (good_code hk.1) rfl rfl rfl (hts _ hk.2.1) (hts _ hml) hk.2.2 hrm
theorem callN (hB : BD p e s m args below meth c G y0 cc0 nL ret0 A) {n : Nat} {host : String} (hk : KM y cc maxL ret n) (hml : Cond.methodLinkNest y0.cls index y host ∈ gn) (hrm : rm.frames + 1 ≤ R.frames ∧ 8 + (maxL + 11) + rm.locals ≤ R.locals) : va_CN R s args y0.cls index y host cc maxL ret (Cond.code y cc maxL ret :: gw) rm rm.cells rm.slots n := by
  obtain ⟨-, -, -, -, -, hts, -, -, -, hE⟩ := hB
  exact va_cnB n hts (good_code hk.1) rfl rfl rfl (hE.2.1 _ hml) (hts _ hk.2.1) hk.2.2 hrm
abbrev Cut (ws W1 wr : va_W) (isC isR : List Nat) : Prop := isC.map (fun i => ws[i]?) = W1.map some ∧ isR.map (fun i => ws[i]?) = wr.map some ∧ (va_nd isC = true ∧ va_nd isR = true) ∧ ∀ i ∈ isR, i ∉ isC
abbrev Fits (R rm : Room) (maxL cells slots : Nat) (rest : List Value) : Prop := (rm.frames + 1 ≤ R.frames ∧ 8 + (maxL + 11) + rm.locals ≤ R.locals) ∧ (rest.map fun v => v.category).sum ≤ 8 ∧ cells + rm.cells ≤ R.cells ∧ slots + rm.slots ≤ R.slots
/-- the receiver is a cell of the world -/
abbrev Rcv (W1 : va_W) (b : Nat) (C : String) : Prop := ∃ (k ci : Nat) (fs : List Value) (q : vw_C), W1[k]? = some (b, .inr (ci, fs)) ∧ vwCl[ci]? = some q ∧ q.1 = C
theorem Rcv.go {C : String} (h : Rcv W1 b C) (hE : ENV G A s s.heap) (hP : va_P (gD G) vwCl ws H) (isC : List Nat) (hC : isC.map (fun i => ws[i]?) = W1.map some) : ∃ cell : Cell, H[b]? = some cell ∧ cell.vm.isStatics = false ∧ s.vm.findClass C = some cell.cls := by
  obtain ⟨k, ci, fs, q, h1, h2, rfl⟩ := h
  exact va_recv hE.1 (hP.sub isC (map_filt _ _ _ hC)) h2 h1
theorem Ci.V {r : Int32} (hM : Ci G l y cc maxL ret rm (.ref b :: As) W1 H.size r W2) (hB : BD p e s m args below meth c G y0 cc0 nL ret0 A) (hk : KM y cc maxL ret As.length) (hi : Cond.instanceMethod y ∈ gw ∧ Cond.selects y.cls y y ∈ gw) (hml : Cond.methodLink y0.cls index y ∈ gw) (hP : va_P (gD G) vwCl ws H) (hD : va_D A ws) (hS : va_S A s.heap H locs) (hl : lv_has ls nL lv) (hrc : Rcv W1 b y.cls) (isC isR : List Nat) (hcut : Cut ws W1 wr isC isR) (hfit : Fits R rm maxL cells slots rest) (hst : st0 = As.reverse ++ .ref b :: rest) (hdg : decode cc0 pc = .ok (.invokevirtual index, 3))
    (kk : ∀ (z : Nat → Nat) (H1 : Heap) (locs1 : List Loc), va_P (gD G) vwCl (wr ++ W2 z) H1 → va_D A (wr ++ W2 z) → va_S A s.heap H1 locs1 → W p l e R s m args below meth c H1 locs1 (cells + rm.cells) (slots + rm.slots) Q (F0 m (pc + 3) ls (.int r :: rest))) : W p l e R s m args below meth c H locs cells slots Q (F0 m pc ls st0) := by
  obtain ⟨hx, hb, hmL, hr, hown, hts, hlocks, hnm, hA, hE⟩ := id hB
  obtain ⟨hC, hR, hn, hdis⟩ := hcut
  refine va_calli (va_runV (As := As) (rest := rest) ⟨hx, hb, hmL, hown, hts⟩ hM ⟨callB hB hk hml hfit.1, hts _ hi.1, hts _ hi.2⟩ ⟨CPre.blind, hrc.go hE hP isC hC, call_pre hE hP hD hS hA isC hC hn.1⟩ rfl rfl hl.1 hst (lv_room hfit.2.1) hdg hfit.2.2) hS (fun q _ h => va_free hD hS hA isC hC q h) (va_free hD hS hA isC hC) (fun r' u t H1 locs1 ht hvm hw hBt hz1 hk1 hS1 => ?_)
  subst hw
  obtain ⟨z, hP1, hD1⟩ := call_join (B := fun _ => True) hP hD hS hA isC isR hC hR hn hdis ht hBt hk1
  exact kk z H1 locs1 hP1 hD1 hS1
theorem Ci.VK {r : Int32} (hM : Ci G l y cc maxL ret rm (.ref b :: As) W1 H.size r W2) (hB : BD p e s m args below meth c G y0 cc0 nL ret0 A) (hk : KM y cc maxL ret As.length) (hi : Cond.instanceMethod y ∈ gw ∧ Cond.selects y.cls y y ∈ gw) (hml : Cond.methodLink y0.cls index y ∈ gw) (hP : va_P (gD G) vwCl ws H) (hD : va_D A ws) (hS : va_S A s.heap H locs) (hl : lv_has ls nL lv) (hrc : ∃ cell : Cell, H[b]? = some cell ∧ cell.vm.isStatics = false ∧ s.vm.findClass y.cls = some cell.cls) (isC isR : List Nat) (hcut : Cut ws W1 wr isC isR) (hfit : Fits R rm maxL cells slots rest) (hst : st0 = As.reverse ++ .ref b :: rest) (hdg : decode cc0 pc = .ok (.invokevirtual index, 3))
    (kk : ∀ (z : Nat → Nat) (H1 : Heap) (locs1 : List Loc), va_P (gD G) vwCl (wr ++ W2 z) H1 → va_D A (wr ++ W2 z) → va_S A s.heap H1 locs1 → W p l e R s m args below meth c H1 locs1 (cells + rm.cells) (slots + rm.slots) Q (F0 m (pc + 3) ls (.int r :: rest))) : W p l e R s m args below meth c H locs cells slots Q (F0 m pc ls st0) := by
  obtain ⟨hx, hb, hmL, hr, hown, hts, hlocks, hnm, hA, hE⟩ := id hB
  obtain ⟨hC, hR, hn, hdis⟩ := hcut
  refine va_calli (va_runV (As := As) (rest := rest) ⟨hx, hb, hmL, hown, hts⟩ hM ⟨callB hB hk hml hfit.1, hts _ hi.1, hts _ hi.2⟩ ⟨CPre.blind, hrc, call_pre hE hP hD hS hA isC hC hn.1⟩ rfl rfl hl.1 hst (lv_room hfit.2.1) hdg hfit.2.2) hS (fun q _ h => va_free hD hS hA isC hC q h) (va_free hD hS hA isC hC) (fun r' u t H1 locs1 ht hvm hw hBt hz1 hk1 hS1 => ?_)
  subst hw
  obtain ⟨z, hP1, hD1⟩ := call_join (B := fun _ => True) hP hD hS hA isC isR hC hR hn hdis ht hBt hk1
  exact kk z H1 locs1 hP1 hD1 hS1
theorem Cl.V {r : Int64} (hM : Cl G l y cc maxL ret rm (.ref b :: As) W1 H.size r W2) (hB : BD p e s m args below meth c G y0 cc0 nL ret0 A) (hk : KM y cc maxL ret As.length) (hi : Cond.instanceMethod y ∈ gw ∧ Cond.selects y.cls y y ∈ gw) (hml : Cond.methodLink y0.cls index y ∈ gw) (hP : va_P (gD G) vwCl ws H) (hD : va_D A ws) (hS : va_S A s.heap H locs) (hl : lv_has ls nL lv) (hrc : Rcv W1 b y.cls) (isC isR : List Nat) (hcut : Cut ws W1 wr isC isR) (hfit : Fits R rm maxL cells slots rest) (hst : st0 = As.reverse ++ .ref b :: rest) (hdg : decode cc0 pc = .ok (.invokevirtual index, 3))
    (kk : ∀ (z : Nat → Nat) (H1 : Heap) (locs1 : List Loc), va_P (gD G) vwCl (wr ++ W2 z) H1 → va_D A (wr ++ W2 z) → va_S A s.heap H1 locs1 → W p l e R s m args below meth c H1 locs1 (cells + rm.cells) (slots + rm.slots) Q (F0 m (pc + 3) ls (.long r :: rest))) : W p l e R s m args below meth c H locs cells slots Q (F0 m pc ls st0) := by
  obtain ⟨hx, hb, hmL, hr, hown, hts, hlocks, hnm, hA, hE⟩ := id hB
  obtain ⟨hC, hR, hn, hdis⟩ := hcut
  refine va_calll (va_runV (As := As) (rest := rest) ⟨hx, hb, hmL, hown, hts⟩ hM ⟨callB hB hk hml hfit.1, hts _ hi.1, hts _ hi.2⟩ ⟨CPre.blind, hrc.go hE hP isC hC, call_pre hE hP hD hS hA isC hC hn.1⟩ rfl rfl hl.1 hst (lv_room hfit.2.1) hdg hfit.2.2) hS (fun q _ h => va_free hD hS hA isC hC q h) (va_free hD hS hA isC hC) (fun r' u t H1 locs1 ht hvm hw hBt hz1 hk1 hS1 => ?_)
  subst hw
  obtain ⟨z, hP1, hD1⟩ := call_join (B := fun _ => True) hP hD hS hA isC isR hC hR hn hdis ht hBt hk1
  exact kk z H1 locs1 hP1 hD1 hS1
theorem Cv.V (hM : Cv G l y cc maxL ret rm (.ref b :: As) W1 H.size W2) (hB : BD p e s m args below meth c G y0 cc0 nL ret0 A) (hk : KM y cc maxL ret As.length) (hi : Cond.instanceMethod y ∈ gw ∧ Cond.selects y.cls y y ∈ gw) (hml : Cond.methodLink y0.cls index y ∈ gw) (hP : va_P (gD G) vwCl ws H) (hD : va_D A ws) (hS : va_S A s.heap H locs) (hl : lv_has ls nL lv) (hrc : Rcv W1 b y.cls) (isC isR : List Nat) (hcut : Cut ws W1 wr isC isR) (hfit : Fits R rm maxL cells slots rest) (hst : st0 = As.reverse ++ .ref b :: rest) (hdg : decode cc0 pc = .ok (.invokevirtual index, 3))
    (kk : ∀ (z : Nat → Nat) (H1 : Heap) (locs1 : List Loc), va_P (gD G) vwCl (wr ++ W2 z) H1 → va_D A (wr ++ W2 z) → va_S A s.heap H1 locs1 → W p l e R s m args below meth c H1 locs1 (cells + rm.cells) (slots + rm.slots) Q (F0 m (pc + 3) ls rest)) : W p l e R s m args below meth c H locs cells slots Q (F0 m pc ls st0) := by
  obtain ⟨hx, hb, hmL, hr, hown, hts, hlocks, hnm, hA, hE⟩ := id hB
  obtain ⟨hC, hR, hn, hdis⟩ := hcut
  refine va_callv (va_runV (As := As) (rest := rest) ⟨hx, hb, hmL, hown, hts⟩ hM ⟨callB hB hk hml hfit.1, hts _ hi.1, hts _ hi.2⟩ ⟨CPre.blind, hrc.go hE hP isC hC, call_pre hE hP hD hS hA isC hC hn.1⟩ rfl rfl hl.1 hst (lv_room hfit.2.1) hdg hfit.2.2) hS (fun q _ h => va_free hD hS hA isC hC q h) (va_free hD hS hA isC hC) (fun u t H1 locs1 ht hvm hw hBt hz1 hk1 hS1 => ?_)
  obtain ⟨z, hP1, hD1⟩ := call_join (B := fun _ => True) hP hD hS hA isC isR hC hR hn hdis ht hBt hk1
  exact kk z H1 locs1 hP1 hD1 hS1
theorem Ci.S {r : Int32} (hM : Ci G l y cc maxL ret rm As W1 H.size r W2) (hB : BD p e s m args below meth c G y0 cc0 nL ret0 A) (hk : KM y cc maxL ret As.length) (hi : Cond.static y ∈ gw) (hml : Cond.methodLink y0.cls index y ∈ gw) (hP : va_P (gD G) vwCl ws H) (hD : va_D A ws) (hS : va_S A s.heap H locs) (hl : lv_has ls nL lv) (isC isR : List Nat) (hcut : Cut ws W1 wr isC isR) (hfit : Fits R rm maxL cells slots rest) (hst : st0 = As.reverse ++ rest) (hdg : decode cc0 pc = .ok (.invokestatic index, 3))
    (kk : ∀ (z : Nat → Nat) (H1 : Heap) (locs1 : List Loc), va_P (gD G) vwCl (wr ++ W2 z) H1 → va_D A (wr ++ W2 z) → va_S A s.heap H1 locs1 → W p l e R s m args below meth c H1 locs1 (cells + rm.cells) (slots + rm.slots) Q (F0 m (pc + 3) ls (.int r :: rest))) : W p l e R s m args below meth c H locs cells slots Q (F0 m pc ls st0) := by
  obtain ⟨hx, hb, hmL, hr, hown, hts, hlocks, hnm, hA, hE⟩ := id hB
  obtain ⟨hC, hR, hn, hdis⟩ := hcut
  refine va_calli (va_runS (As := As) (rest := rest) ⟨hx, hb, hmL, hown, hts⟩ hM ⟨callB hB hk hml hfit.1, hts _ hi⟩ ⟨CPre.blind, call_pre hE hP hD hS hA isC hC hn.1⟩ rfl rfl hl.1 hst (lv_room hfit.2.1) hdg hfit.2.2) hS (fun q _ h => va_free hD hS hA isC hC q h) (va_free hD hS hA isC hC) (fun r' u t H1 locs1 ht hvm hw hBt hz1 hk1 hS1 => ?_)
  subst hw
  obtain ⟨z, hP1, hD1⟩ := call_join (B := fun _ => True) hP hD hS hA isC isR hC hR hn hdis ht hBt hk1
  exact kk z H1 locs1 hP1 hD1 hS1
theorem Cl.S {r : Int64} (hM : Cl G l y cc maxL ret rm As W1 H.size r W2) (hB : BD p e s m args below meth c G y0 cc0 nL ret0 A) (hk : KM y cc maxL ret As.length) (hi : Cond.static y ∈ gw) (hml : Cond.methodLink y0.cls index y ∈ gw) (hP : va_P (gD G) vwCl ws H) (hD : va_D A ws) (hS : va_S A s.heap H locs) (hl : lv_has ls nL lv) (isC isR : List Nat) (hcut : Cut ws W1 wr isC isR) (hfit : Fits R rm maxL cells slots rest) (hst : st0 = As.reverse ++ rest) (hdg : decode cc0 pc = .ok (.invokestatic index, 3))
    (kk : ∀ (z : Nat → Nat) (H1 : Heap) (locs1 : List Loc), va_P (gD G) vwCl (wr ++ W2 z) H1 → va_D A (wr ++ W2 z) → va_S A s.heap H1 locs1 → W p l e R s m args below meth c H1 locs1 (cells + rm.cells) (slots + rm.slots) Q (F0 m (pc + 3) ls (.long r :: rest))) : W p l e R s m args below meth c H locs cells slots Q (F0 m pc ls st0) := by
  obtain ⟨hx, hb, hmL, hr, hown, hts, hlocks, hnm, hA, hE⟩ := id hB
  obtain ⟨hC, hR, hn, hdis⟩ := hcut
  refine va_calll (va_runS (As := As) (rest := rest) ⟨hx, hb, hmL, hown, hts⟩ hM ⟨callB hB hk hml hfit.1, hts _ hi⟩ ⟨CPre.blind, call_pre hE hP hD hS hA isC hC hn.1⟩ rfl rfl hl.1 hst (lv_room hfit.2.1) hdg hfit.2.2) hS (fun q _ h => va_free hD hS hA isC hC q h) (va_free hD hS hA isC hC) (fun r' u t H1 locs1 ht hvm hw hBt hz1 hk1 hS1 => ?_)
  subst hw
  obtain ⟨z, hP1, hD1⟩ := call_join (B := fun _ => True) hP hD hS hA isC isR hC hR hn hdis ht hBt hk1
  exact kk z H1 locs1 hP1 hD1 hS1
theorem Cv.S (hM : Cv G l y cc maxL ret rm As W1 H.size W2) (hB : BD p e s m args below meth c G y0 cc0 nL ret0 A) (hk : KM y cc maxL ret As.length) (hi : Cond.static y ∈ gw) (hml : Cond.methodLink y0.cls index y ∈ gw) (hP : va_P (gD G) vwCl ws H) (hD : va_D A ws) (hS : va_S A s.heap H locs) (hl : lv_has ls nL lv) (isC isR : List Nat) (hcut : Cut ws W1 wr isC isR) (hfit : Fits R rm maxL cells slots rest) (hst : st0 = As.reverse ++ rest) (hdg : decode cc0 pc = .ok (.invokestatic index, 3))
    (kk : ∀ (z : Nat → Nat) (H1 : Heap) (locs1 : List Loc), va_P (gD G) vwCl (wr ++ W2 z) H1 → va_D A (wr ++ W2 z) → va_S A s.heap H1 locs1 → W p l e R s m args below meth c H1 locs1 (cells + rm.cells) (slots + rm.slots) Q (F0 m (pc + 3) ls rest)) : W p l e R s m args below meth c H locs cells slots Q (F0 m pc ls st0) := by
  obtain ⟨hx, hb, hmL, hr, hown, hts, hlocks, hnm, hA, hE⟩ := id hB
  obtain ⟨hC, hR, hn, hdis⟩ := hcut
  refine va_callv (va_runS (As := As) (rest := rest) ⟨hx, hb, hmL, hown, hts⟩ hM ⟨callB hB hk hml hfit.1, hts _ hi⟩ ⟨CPre.blind, call_pre hE hP hD hS hA isC hC hn.1⟩ rfl rfl hl.1 hst (lv_room hfit.2.1) hdg hfit.2.2) hS (fun q _ h => va_free hD hS hA isC hC q h) (va_free hD hS hA isC hC) (fun u t H1 locs1 ht hvm hw hBt hz1 hk1 hS1 => ?_)
  obtain ⟨z, hP1, hD1⟩ := call_join (B := fun _ => True) hP hD hS hA isC isR hC hR hn hdis ht hBt hk1
  exact kk z H1 locs1 hP1 hD1 hS1
theorem Ci.SN {r : Int32} {host : String} (hM : Ci G l y cc maxL ret rm As W1 H.size r W2) (hB : BD p e s m args below meth c G y0 cc0 nL ret0 A) (hk : KM y cc maxL ret As.length) (hi : Cond.static y ∈ gw) (hml : Cond.methodLinkNest y0.cls index y host ∈ gn) (hP : va_P (gD G) vwCl ws H) (hD : va_D A ws) (hS : va_S A s.heap H locs) (hl : lv_has ls nL lv) (isC isR : List Nat) (hcut : Cut ws W1 wr isC isR) (hfit : Fits R rm maxL cells slots rest) (hst : st0 = As.reverse ++ rest) (hdg : decode cc0 pc = .ok (.invokestatic index, 3))
    (kk : ∀ (z : Nat → Nat) (H1 : Heap) (locs1 : List Loc), va_P (gD G) vwCl (wr ++ W2 z) H1 → va_D A (wr ++ W2 z) → va_S A s.heap H1 locs1 → W p l e R s m args below meth c H1 locs1 (cells + rm.cells) (slots + rm.slots) Q (F0 m (pc + 3) ls (.int r :: rest))) : W p l e R s m args below meth c H locs cells slots Q (F0 m pc ls st0) := by
  obtain ⟨hx, hb, hmL, hr, hown, hts, hlocks, hnm, hA, hE⟩ := id hB
  obtain ⟨hC, hR, hn, hdis⟩ := hcut
  refine va_calli (va_runSN (As := As) (rest := rest) ⟨hx, hb, hmL, hown, hts⟩ hM ⟨callN hB hk hml hfit.1, hts _ hi, trivial⟩ ⟨CPre.blind, call_pre hE hP hD hS hA isC hC hn.1⟩ rfl rfl hl.1 hst (lv_room hfit.2.1) hdg hfit.2.2) hS (fun q _ h => va_free hD hS hA isC hC q h) (va_free hD hS hA isC hC) (fun r' u t H1 locs1 ht hvm hw hBt hz1 hk1 hS1 => ?_)
  subst hw
  obtain ⟨z, hP1, hD1⟩ := call_join (B := fun _ => True) hP hD hS hA isC isR hC hR hn hdis ht hBt hk1
  exact kk z H1 locs1 hP1 hD1 hS1
theorem Cv.I (hM : Cv G l y cc maxL none rm (.ref b :: As) W1 H.size W2) (hB : BD p e s m args below meth c G y0 cc0 nL ret0 A) (hk : KM y cc maxL none As.length) (hi : y.name = "<init>" ∧ Cond.instanceMethod y ∈ gw) (hml : Cond.methodLink y0.cls index y ∈ gw) (hP : va_P (gD G) vwCl ws H) (hD : va_D A ws) (hS : va_S A s.heap H locs) (hl : lv_has ls nL lv) (isC isR : List Nat) (hcut : Cut ws W1 wr isC isR) (hfit : Fits R rm maxL cells slots rest) (hst : st0 = As.reverse ++ .ref b :: rest) (hdg : decode cc0 pc = .ok (.invokespecial index, 3))
    (kk : ∀ (z : Nat → Nat) (H1 : Heap) (locs1 : List Loc), va_P (gD G) vwCl (wr ++ W2 z) H1 → va_D A (wr ++ W2 z) → va_S A s.heap H1 locs1 → W p l e R s m args below meth c H1 locs1 (cells + rm.cells) (slots + rm.slots) Q (F0 m (pc + 3) ls rest)) : W p l e R s m args below meth c H locs cells slots Q (F0 m pc ls st0) := by
  obtain ⟨hx, hb, hmL, hr, hown, hts, hlocks, hnm, hA, hE⟩ := id hB
  obtain ⟨hC, hR, hn, hdis⟩ := hcut
  refine va_callv (va_runI (As := As) (rest := rest) ⟨hx, hb, hmL, hown, hts⟩ hM ⟨callB hB hk hml hfit.1, hi.1, hts _ hi.2⟩ ⟨CPre.blind, call_pre hE hP hD hS hA isC hC hn.1⟩ rfl rfl hl.1 hst (lv_room hfit.2.1) hdg hfit.2.2) hS (fun q _ h => va_free hD hS hA isC hC q h) (va_free hD hS hA isC hC) (fun u t H1 locs1 ht hvm hw hBt hz1 hk1 hS1 => ?_)
  obtain ⟨z, hP1, hD1⟩ := call_join (B := fun _ => True) hP hD hS hA isC isR hC hR hn hdis ht hBt hk1
  exact kk z H1 locs1 hP1 hD1 hS1
theorem Cv.IN {host : String} (hM : Cv G l y cc maxL none rm (.ref b :: As) W1 H.size W2) (hB : BD p e s m args below meth c G y0 cc0 nL ret0 A) (hk : KM y cc maxL none As.length) (hi : y.name = "<init>" ∧ Cond.instanceMethod y ∈ gw) (hml : Cond.methodLinkNest y0.cls index y host ∈ gn) (hP : va_P (gD G) vwCl ws H) (hD : va_D A ws) (hS : va_S A s.heap H locs) (hl : lv_has ls nL lv) (isC isR : List Nat) (hcut : Cut ws W1 wr isC isR) (hfit : Fits R rm maxL cells slots rest) (hst : st0 = As.reverse ++ .ref b :: rest) (hdg : decode cc0 pc = .ok (.invokespecial index, 3))
    (kk : ∀ (z : Nat → Nat) (H1 : Heap) (locs1 : List Loc), va_P (gD G) vwCl (wr ++ W2 z) H1 → va_D A (wr ++ W2 z) → va_S A s.heap H1 locs1 → W p l e R s m args below meth c H1 locs1 (cells + rm.cells) (slots + rm.slots) Q (F0 m (pc + 3) ls rest)) : W p l e R s m args below meth c H locs cells slots Q (F0 m pc ls st0) := by
  obtain ⟨hx, hb, hmL, hr, hown, hts, hlocks, hnm, hA, hE⟩ := id hB
  obtain ⟨hC, hR, hn, hdis⟩ := hcut
  refine va_callv (va_runIN (As := As) (rest := rest) ⟨hx, hb, hmL, hown, hts⟩ hM ⟨callN hB hk hml hfit.1, hi.1, hts _ hi.2⟩ ⟨CPre.blind, call_pre hE hP hD hS hA isC hC hn.1⟩ rfl rfl hl.1 hst (lv_room hfit.2.1) hdg hfit.2.2) hS (fun q _ h => va_free hD hS hA isC hC q h) (va_free hD hS hA isC hC) (fun u t H1 locs1 ht hvm hw hBt hz1 hk1 hS1 => ?_)
  obtain ⟨z, hP1, hD1⟩ := call_join (B := fun _ => True) hP hD hS hA isC isR hC hR hn hdis ht hBt hk1
  exact kk z H1 locs1 hP1 hD1 hS1
end CALLS
/-! taking the pure functions apart, beside the walk -/
theorem ip {α : Type} {c : Prop} {i : Decidable c} {a b : Option α} {o : Option α} (hc : c) (h : (@ite _ c i a b) = o) : a = o := by rw [if_pos hc] at h; exact h
theorem ing {α : Type} {c : Prop} {i : Decidable c} {a b : Option α} {o : Option α} (hc : ¬ c) (h : (@ite _ c i a b) = o) : b = o := by rw [if_neg hc] at h; exact h
theorem gd {α : Type} {c : Prop} {i : Decidable c} {a : Option α} {o : α} (h : (@ite _ c i a none) = some o) : c ∧ a = some o := by
  by_cases hc : c
  · rw [if_pos hc] at h; exact ⟨hc, h⟩
  · rw [if_neg hc] at h; cases h
theorem bd {α β : Type} {x : Option α} {k : α → Option β} {o : β} (h : x.bind k = some o) : ∃ a, x = some a ∧ k a = some o := by
  cases x with
  | none => cases h
  | some a => exact ⟨a, rfl, h⟩
theorem nz {x : Int32} (h : x = 0 ∨ x = 1) : narrow .boolean (.int x) = .int x := by
  rcases h with rfl | rfl <;> rfl
/-- guards: an index in its row; a divisor; a boolean answer; a char -/
def gar {α : Type} (i : Int32) (n : Nat) (x : Option α) : Option α := if ¬ (i < 0 ∨ n ≤ i.toNatClampNeg) then x else none
theorem gda {α : Type} {i : Int32} {n : Nat} {x : Option α} {o : α} (h : gar i n x = some o) : vp_in i n ∧ x = some o := gd h
theorem gar_ok {α : Type} {i : Int32} {n : Nat} {x : Option α} (h : vp_in i n) : gar i n x = x := if_pos h
def gnz {α β : Type} [DecidableEq β] (y z : β) (x : Option α) : Option α := if ¬ y = z then x else none
theorem gdn {α β : Type} [DecidableEq β] {y z : β} {x : Option α} {o : α} (h : gnz y z x = some o) : ¬ y = z ∧ x = some o := gd h
theorem gnz_ok {α β : Type} [DecidableEq β] {y z : β} {x : Option α} (h : ¬ y = z) : gnz y z x = x := if_pos h
def gbo {α : Type} (y : Int32) (x : Option α) : Option α := if y = 0 ∨ y = 1 then x else none
theorem gdb {α : Type} {y : Int32} {x : Option α} {o : α} (h : gbo y x = some o) : (y = 0 ∨ y = 1) ∧ x = some o := gd h
theorem gbo_ok {α : Type} {y : Int32} {x : Option α} (h : y = 0 ∨ y = 1) : gbo y x = x := if_pos h
def gch {α : Type} (y : Int32) (x : Option α) : Option α := if y = (y.toUInt32 % 65536).toInt32 then x else none
theorem gdc {α : Type} {y : Int32} {x : Option α} {o : α} (h : gch y x = some o) : narrow .char (.int y) = .int y ∧ x = some o := by
  obtain ⟨h1, h2⟩ := gd h
  exact ⟨by rw [h1]; exact pk_nc y, h2⟩
theorem gch_ok {α : Type} {y : Int32} {x : Option α} (h : y = (y.toUInt32 % 65536).toInt32) : gch y x = x := if_pos h
def glt {α : Type} (k n : Nat) (x : Option α) : Option α := if k < n then x else none
theorem gdl {α : Type} {k n : Nat} {x : Option α} {o : α} (h : glt k n x = some o) : k < n ∧ x = some o := gd h
theorem glt_ok {α : Type} {k n : Nat} {x : Option α} (h : k < n) : glt k n x = x := if_pos h
/-- rows of the four snapshots -/
def stf (a b c d : Nat) : Nat → Option Nat := va_up (va_up (va_up (va_up (fun _ => none) 0 (some a)) 1 (some b)) 2 (some c)) 3 (some d)
theorem stf_rot (a b c d : Nat) : va_up (va_up (va_up (va_up (stf a b c d) 0 (some b)) 1 (some c)) 2 (some d)) 3 (some a) = stf b c d a := by
  funext i
  simp only [stf, va_up]
  repeat' split
  all_goals first | rfl | omega
def zl (l : List Nat) : Nat → Nat := fun i => l.getD i 0
section NEWS
variable {p : Program} {l : Launch} {e : Env} {R : Room} {s : State} {m : MethodId} {args : Array Value} {below : List Frame} {meth : Method} {c : Code} {H : Heap} {locs : List Loc} {cells slots : Nat} {Q : State → Prop}
variable {cc : ByteArray} {pc : Nat} {ls : Array Slot} {rest : List Value} {D : va_G} {cl : List vw_C} {A : Nat → Prop} {a : Nat} {tys : List (ClassId × FieldType)} {ws : va_W} {H0 : Heap}
theorem va_newT (hexec : p.tables.exec = Jvm.exec) (hb : c.code = cc) {atype : ArrayType} (harr : (Cond.arrayClass (newarray.typeOf atype)).before args s = true) {ty : FieldType} (hty : newarray.typeOf atype = ty) (hra : ∀ (U : State) (q : ClassId), va_RA U q ty → U.vm.findClass ("[" ++ ty.toString) = some q) (hK : va_K D cl tys s) (t0 : Nat) {cA : ClassId} (ht : tys[t0]? = some (cA, ty)) (hP : va_P D cl ws H) (hD : va_D A ws) (hS : va_S A H0 H locs) (hA : ∀ q, H0.size ≤ q → A q)
    {n : Int32} {N' : Nat} {a0 : vp_A} (ha : ∀ cA : ClassId, vp_cell cA a0 = arrV cA N' (fun _ => defaultValue ty)) (hn : ¬ n < 0) (hN : n.toNatClampNeg = N') (hbytes : N' * componentBytes ty ≤ 536870912) (hcells : cells + 1 ≤ R.cells) (hslots : slots + N' ≤ R.slots) (hdg : decode cc pc = .ok (.newarray atype, 2))
    (kk : ∀ (q : Nat) (H1 : Heap), va_P D cl (ws ++ [(q, .inl (cA, a0))]) H1 → va_D A (ws ++ [(q, .inl (cA, a0))]) → va_S A H0 H1 locs →
      W p l e R s m args below meth c H1 locs (cells + 1) (slots + N') Q (F0 m (pc + 2) ls (.ref q :: rest))) : W p l e R s m args below meth c H locs cells slots Q (F0 m pc ls (.int n :: rest)) := by
  refine va_newa hexec hb harr hty hK hP hD hS hA ha hn hN hbytes hcells hslots hdg (fun q cB H1 hK2 hP2 hD2 hS2 => ?_)
  have h1 := hra s cB (hK2.2 tys.length (cB, ty) (by simp)).2
  have h2 := hra s cA (hK.2 t0 (cA, ty) ht).2
  rw [h1] at h2
  have e9 : cB = cA := Option.some.inj h2
  subst e9
  exact kk q H1 hP2 hD2 hS2
theorem va_newE (hexec : p.tables.exec = Jvm.exec) (hb : c.code = cc) {own C : String} {index : Nat} (hown : s.vm.findClass own = some m.cls) (hclink : (Cond.classLink own index C).before args s = true) (hover : va_AO C s) (hK : va_K D cl tys s) (t0 : Nat) {cA : ClassId} (ht : tys[t0]? = some (cA, .object C)) (hP : va_P D cl ws H) (hD : va_D A ws) (hS : va_S A H0 H locs) (hA : ∀ q, H0.size ≤ q → A q)
    {n : Int32} {N' : Nat} (hn : ¬ n < 0) (hN : n.toNatClampNeg = N') (hbytes : N' * 4 ≤ 536870912) (hcells : cells + 1 ≤ R.cells) (hslots : slots + N' ≤ R.slots) (hdg : decode cc pc = .ok (.anewarray index, 3))
    (kk : ∀ (q : Nat) (H1 : Heap), va_P D cl (ws ++ [(q, .inl (cA, N', .inr (.inr (.inr (.inr (fun _ => none))))))]) H1 → va_D A (ws ++ [(q, .inl (cA, N', .inr (.inr (.inr (.inr (fun _ => none))))))]) → va_S A H0 H1 locs →
      W p l e R s m args below meth c H1 locs (cells + 1) (slots + N') Q (F0 m (pc + 3) ls (.ref q :: rest))) : W p l e R s m args below meth c H locs cells slots Q (F0 m pc ls (.int n :: rest)) := by
  refine va_newq hexec hb hown hclink hover hK hP hD hS hA hn hN hbytes hcells hslots hdg (fun q cB H1 hK2 hP2 hD2 hS2 => ?_)
  obtain ⟨_, _, _, _, _, h1⟩ := (hK2.2 tys.length (cB, .object C) (by simp)).2
  obtain ⟨_, _, _, _, _, h2⟩ := (hK.2 t0 (cA, .object C) ht).2
  rw [h1] at h2
  have e9 : cB = cA := Option.some.inj h2
  subst e9
  exact kk q H1 hP2 hD2 hS2
theorem aldq_at (hexec : p.tables.exec = Jvm.exec) (hb : c.code = cc) (hK : va_K D cl tys s) (hP : va_P D cl ws H) (q0 t0 : Nat) {cA : ClassId} {C : String} {n : Nat} {f : Nat → Option Nat} (ha : ws[q0]? = some (a, .inl (cA, n, .inr (.inr (.inr (.inr f)))))) (ht : tys[t0]? = some (cA, .object C)) {i : Int32} (hin : vp_in i n) (v : Nat) (hv : f i.toNatClampNeg = some v) (hdg : decode cc pc = .ok (.aaload, 1))
    (kk : W p l e R s m args below meth c H locs cells slots Q (F0 m (pc + 1) ls (.ref v :: rest))) : W p l e R s m args below meth c H locs cells slots Q (F0 m pc ls (.int i :: .ref a :: rest)) := by
  refine va_aldq hexec hb hK hP q0 t0 ha ht hin hdg ?_
  rw [hv]
  exact kk
end NEWS
