-- the law's start: what the Statement gives, as ENV
def fl1 : List Cond := flatC (Cond.and given_1 narrow_1)
def tmS (i : Nat) : Term := match i with
  | 0 => .string "DisambiguationBench" 58
  | 1 => .string "DisambiguationBench$SetupText" 51
  | 2 => .string "DisambiguationBench$SetupText" 57
  | 3 => .string "DisambiguationBench$SetupText" 28
  | _ => .string "DisambiguationBench$SetupText" 37
theorem s0_ex : ∀ i, i < 5 → Cond.exactly (tmS i) "java/lang/String" ∈ fl1 := by decide +kernel
theorem s0_co : ∀ i, i < 5 → Cond.eq (.field (tmS i) "java/lang/String" "coder" "B") (.int 0) ∈ fl1 := by decide +kernel
theorem s0_ar : ∀ i, i < 5 → Cond.arrayOf (.field (tmS i) "java/lang/String" "value" "[B") .byte ∈ fl1 := by decide +kernel
theorem s0_le : ∀ i, i < 5 → Cond.eq (.length (.field (tmS i) "java/lang/String" "value" "[B")) (.int (Int32.ofNat (lenS.getD i 0))) ∈ fl1 := by decide +kernel
theorem s0_el : ∀ i, i < 5 → ∀ j, j < lenS.getD i 0 → Cond.eq (.elem (.field (tmS i) "java/lang/String" "value" "[B") (.int (Int32.ofNat j))) (.int ((bytS.getD i []).getD j 0)) ∈ fl1 := by decide +kernel
theorem s0_ne : ∀ i, i < 5 → ∀ j, j < 5 → i ≠ j → Cond.not (Cond.eq (tmS i) (tmS j)) ∈ fl1 ∨ Cond.not (Cond.eq (tmS j) (tmS i)) ∈ fl1 := by decide +kernel
theorem s0_len : ∀ i, i < 5 → lenS.getD i 0 < 2 ^ 31 := by decide
theorem s0_44 : Cond.eq (.string "DisambiguationBench$SetupText" 51) (.string "DisambiguationBench$Setup" 44) ∈ fl1 := by decide +kernel
theorem s0_cs : Cond.eq (.static "java/lang/String" "COMPACT_STRINGS" "Z") (.int 1) ∈ fl1 := by decide +kernel
theorem s0_si : Cond.isRef (.static "jdk/internal/util/Preconditions" "SIOOBE_FORMATTER" "Ljava/util/function/BiFunction;") ∈ fl1 := by decide +kernel
theorem s0_ao : Cond.arrayOver (.object "DisambiguationBench$EditState") ∈ lw_tbl := List.mem_of_getElem? (i := 153) (by decide +kernel)
theorem s0_lc : Cond.laysStatic "java/lang/String" "COMPACT_STRINGS" "Z" ∈ lw_tbl := List.mem_of_getElem? (i := 224) (by decide +kernel)
theorem s0_ls : Cond.laysStatic "jdk/internal/util/Preconditions" "SIOOBE_FORMATTER" "Ljava/util/function/BiFunction;" ∈ lw_tbl := List.mem_of_getElem? (i := 240) (by decide +kernel)
theorem s0_r1 : Cond.stringRef RX7 58 tx0 ∈ lw_tbl := List.mem_of_getElem? (i := 214) (by decide +kernel)
theorem s0_r2 : Cond.stringRef RX5 51 "+-*/%&|<=" ∈ lw_tbl := List.mem_of_getElem? (i := 297) (by decide +kernel)
theorem s0_r3 : Cond.stringRef RX4 44 "+-*/%&|<=" ∈ lw_tbl := List.mem_of_getElem? (i := 375) (by decide +kernel)
theorem s0_r4 : Cond.stringRef RX5 57 "lrn" ∈ lw_tbl := List.mem_of_getElem? (i := 357) (by decide +kernel)
theorem s0_r5 : Cond.stringRef RX5 28 "op" ∈ lw_tbl := List.mem_of_getElem? (i := 286) (by decide +kernel)
theorem s0_r6 : Cond.stringRef RX5 37 "expr" ∈ lw_tbl := List.mem_of_getElem? (i := 358) (by decide +kernel)
theorem arr_of {s : State} {ty : FieldType} {args : Array Value} (h : (Cond.arrayClass ty).before args s = true) (hra : ∀ q : ClassId, s.vm.findClass ("[" ++ ty.toString) = some q → va_RA s q ty) : ∃ cA : ClassId, ArrOfT s cA ty ∧ va_RA s cA ty := by
  obtain ⟨q, k, comp, h1, h2, h3⟩ := Cond.arrayClass_spec h
  exact ⟨q, fun n z => ⟨fun k h => (by cases h), k, h2, comp, h3⟩, hra q h1⟩
set_option maxHeartbeats 4000000 in
theorem env_start {s : State} {b : Nat} (hts : ∀ w ∈ lw_tbl, w.before #[Value.ref b] s = true) (hgv : (Jvm.Cond.and given_1 narrow_1).before #[Value.ref b] s = true) : ∃ G : GT, ENV G (fun q => s.heap.size ≤ q) s s.heap := by
  have hf : ∀ c ∈ fl1, c.before #[Value.ref b] s = true := flat_of_before _ hgv
  have hA : ∀ a : Nat, a < s.heap.size → ¬ (fun q => s.heap.size ≤ q) a := fun a h => Nat.not_le.mpr h
  have hg : ∀ w ∈ gw, w.before #[Value.ref b] s = true := fun w hw => hts w (List.mem_filter.mp hw).1
  obtain ⟨c0, i0, k0⟩ := u_known (C := RX0) (T := TX0) (N := 3) (n := 3) hg lk_X0 (hg _ ib_RX0)
  obtain ⟨c1, i1, k1⟩ := u_known (C := RX2) (T := TX2) (N := 5) (n := 5) hg lk_X2 (hg _ ib_RX2)
  obtain ⟨c2, i2, k2⟩ := u_known (C := RX3) (T := TX3) (N := 2) (n := 2) hg lk_X3 (hg _ ib_RX3)
  obtain ⟨c3, i3, k3⟩ := u_known (C := RX4) (T := TX4) (N := 5) (n := 5) hg lk_X4 (hg _ ib_RX4)
  obtain ⟨c4, i4, k4⟩ := u_known (C := RX5) (T := TX5) (N := 2) (n := 2) hg lk_X5 (hg _ ib_RX5)
  obtain ⟨c5, i5, k5⟩ := u_known (C := RX6) (T := TX6) (N := 6) (n := 6) hg lk_X6 (hg _ ib_RX6)
  obtain ⟨c6, i6, k6⟩ := u_known (C := RX7) (T := TX7) (N := 8) (n := 8) hg lk_X7 (hg _ ib_RX7)
  obtain ⟨c7, i7, k7⟩ := u_known (C := RX8) (T := TX8) (N := 27) (n := 27) hg lk_X8 (hg _ ib_RX8)
  obtain ⟨cyC, aC1, aC2⟩ := arr_of (ty := .char) (hg _ ac_char) (fun _ h => h)
  obtain ⟨cyI, aI1, aI2⟩ := arr_of (ty := .int) (hg _ ac_int) (fun _ h => h)
  obtain ⟨cyJ, aJ1, aJ2⟩ := arr_of (ty := .long) (hg _ ac_long) (fun _ h => h)
  have hao : va_AO "DisambiguationBench$EditState" s := va_AO.of (hts _ s0_ao)
  obtain ⟨comp, cyE, kE, e1, -, e3, e4, e5⟩ := Cond.arrayOver_spec (hts _ s0_ao)
  obtain ⟨adK, adV, hV, hT⟩ := vk_Sof (N := 5) (tm := tmS) (len := lenS) (byt := bytS) (A := fun q => s.heap.size ≤ q) s0_len (fun i h => hf _ (s0_ex i h)) (fun i h => hf _ (s0_co i h)) (fun i h => hf _ (s0_ar i h)) (fun i h => hf _ (s0_le i h)) (fun i h j hj => hf _ (s0_el i h j hj)) (fun i j hi hj n => (s0_ne i hi j hj n).elim (fun q => Or.inl (hf _ q)) (fun q => Or.inr (hf _ q))) hA
  refine ⟨(fun k => match k with | 0 => c0 | 1 => c1 | 2 => c2 | 3 => c3 | 4 => c4 | 5 => c5 | 6 => c6 | _ => c7, fun k => match k with | 0 => i0 | 1 => i1 | 2 => i2 | 3 => i3 | 4 => i4 | 5 => i5 | 6 => i6 | _ => i7, cyC, cyI, cyJ, cyE, adK, adV), ⟨?_, ?_⟩, ?_, hV, ⟨?_, ?_, ?_, ?_, ?_, ?_⟩, ?_, ?_, hao⟩
  · intro k q h
    match k, h with
    | 0, h => cases h; exact k0
    | 1, h => cases h; exact k1
    | 2, h => cases h; exact k2
    | 3, h => cases h; exact k3
    | 4, h => cases h; exact k4
    | 5, h => cases h; exact k5
    | 6, h => cases h; exact k6
    | 7, h => cases h; exact k7
    | k + 8, h => simp [vwCl] at h
  · intro k q h
    match k, h with
    | 0, h => cases h; exact ⟨aC1, aC2⟩
    | 1, h => cases h; exact ⟨aI1, aI2⟩
    | 2, h => cases h; exact ⟨aJ1, aJ2⟩
    | 3, h => cases h; exact ⟨fun n z => ⟨fun k h => (by cases h), kE, e3, comp, e4⟩, kE, comp, e3, e4, e1, e5⟩
    | k + 4, h => simp [TYS] at h
  · intro w hw
    have h1 := hts w (List.mem_filter.mp hw).1
    have h2 := (List.mem_filter.mp hw).2
    cases w <;> first | (simp [nestW] at h2; done) | exact va_Nw.of rfl h1
  · exact vk_R.of (hts _ s0_r1) (hT 0 (by decide))
  · exact vk_R.of (hts _ s0_r2) (hT 1 (by decide))
  · exact vk_R.of (hts _ s0_r3) (va_eqR (hf _ s0_44) (hT 1 (by decide)))
  · exact vk_R.of (hts _ s0_r4) (hT 2 (by decide))
  · exact vk_R.of (hts _ s0_r5) (hT 3 (by decide))
  · exact vk_R.of (hts _ s0_r6) (hT 4 (by decide))
  · exact va_Zof (hts _ s0_lc) (hg _ in_RJ0) (va_eqi (hf _ s0_cs)) hA
  · exact va_Zqof (hts _ s0_ls) (hg _ in_RJ3) (hf _ s0_si) hA
/-- the machine's part of the claim: what is left is a pure fact of f_L_law -/
theorem whole_open {p : Program} {e : Env} {s : State} {m : MethodId} {below : List Frame} {meth : Method} {c : Code} (l : Launch) {b L : Nat} {xs : Nat → Int32} (F : Nat) (hF : f_L_law F L xs = some 1) (C0 : lw_At p s m meth c b L xs) : W p l e room_1 s m #[Value.ref b] below meth c s.heap [] 0 0 (lw_Z below #[Value.ref b] s) (entryFrame m ([Value.ref b] : List Value).toArray 4) := by
  obtain ⟨hx, hb, hr, hml, hown, hts, hX, hbl, hlocks, hgv⟩ := id C0
  obtain ⟨G, hE⟩ := env_start hts hgv
  have hB : BD p e s m #[.ref b] below meth c G ⟨RL, meth.name, ""⟩ code 4 (some .boolean) (fun q => s.heap.size ≤ q) := ⟨hx, hb, hml, hr, hown, fun w hw => hts w (List.mem_filter.mp hw).1, hlocks, rfl, fun _ h => h, hE⟩
  have hl := lv_entry ([.ref b]) (n := 4) (Nat.le_of_ble_eq_true rfl)
  rw [lg_entry_eq]
  generalize (lg_sl ([.ref b]) ++ List.replicate (4 - (lg_sl ([.ref b])).length) Slot.unset).toArray = ls at hl ⊢
  exact c_L_law_start rfl hB hX hbl F s.heap [] ls (fun k q h => by simp at h) ⟨fun i j p q h => by simp at h, fun k q h => by simp at h⟩ va_S.rf hl hF
