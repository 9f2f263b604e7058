abbrev rm_X0_reset : Room := { frames := 0, cells := 0, slots := 0, locals := 0 }
theorem km_X0_reset : KM yX0_reset cX0_reset 2 none 0 := ⟨co_X0_reset, in_RX0, by decide +kernel⟩
set_option maxHeartbeats 4000000 in
set_option maxRecDepth 100000 in
theorem c_X0_reset (F : Nat) (l : Launch) (G : GT) (h_st h_st_filters h_st_variables : Nat) (st_pipelineLength : Int32) (st_variables : Nat → Int32) (sz : Nat) (out : Int32 × (Nat → Int32)) (h : f_X0_reset F st_pipelineLength st_variables = some out) : Cv G l yX0_reset cX0_reset 2 none rm_X0_reset [.ref h_st] [(h_st, .inr (0, [.ref h_st_filters, .ref h_st_variables, .int st_pipelineLength])), (h_st_variables, .inl (gI G, 26, .inl st_variables))] sz (fun _ => [(h_st, .inr (0, [.ref h_st_filters, .ref h_st_variables, .int (out.1)])), (h_st_variables, .inl (gI G, 26, .inl (out.2)))]) := by
  refine Cv.start (by decide) (Nat.le_of_ble_eq_true rfl) ?_
  intro p e s m args below meth c A Q H locs ls hB hP hD hS hl hret
  obtain ⟨hx, hb, hmL, hr, hown, hts, hlocks, hnm, hA, hE⟩ := id hB
  obtain ⟨hK, hN, hV, hR, hZ, hZq, hAO⟩ := id hE
  have hown : s.vm.findClass RX0 = some m.cls := hown
  have hl : lv_has ls 2 [(0, .ref h_st)] := hl
  rw [f_X0_reset] at h
  refine lv_aload_n hx hb dX0_reset_0 rfl (lv_at hl 0 rfl) ?_
  refine lv_iconst (v := 0) hx hb dX0_reset_1 (by decide) ?_
  refine va_put (D := gD G) (ci := 0) (v := .int 0) (ty := .int) (C := RX0) (T := TX0) (N := 3) hx hb hts lk_X0 tyX0 tyX0_ok nmX0 hown hK hP hD hS 0 rfl rfl 2 (by decide) (hts _ fl_RX0_18) (fun _ h9 => h9) rfl (by decide +kernel) rfl rfl (Nat.le_of_ble_eq_true rfl) dX0_reset_2 (fun H locs hP hD hS => ?_)
  have hP : va_P (gD G) vwCl [(h_st, .inr (0, [.ref h_st_filters, .ref h_st_variables, .int 0])), (h_st_variables, .inl (gI G, 26, .inl st_variables))] H := hP
  have hD : va_D A [(h_st, .inr (0, [.ref h_st_filters, .ref h_st_variables, .int 0])), (h_st_variables, .inl (gI G, 26, .inl st_variables))] := hD
  refine lv_iconst (v := 0) hx hb dX0_reset_5 (by decide) ?_
  refine lv_istore_n (lv' := [(1, .int 0), (0, .ref h_st)]) hx hb dX0_reset_6 rfl hl (by decide) rfl (fun ls hl => ?_)
  have Lp7 : ∀ (n : Nat) (st_pipelineLength : Int32) (v1 : Int32) (st_variables : Nat → Int32) (X : (Nat → Int32) → Option (Int32 × (Nat → Int32))) (H : Heap) (locs : List Loc) (ls : Array Slot), va_P (gD G) vwCl [(h_st, .inr (0, [.ref h_st_filters, .ref h_st_variables, .int st_pipelineLength])), (h_st_variables, .inl (gI G, 26, .inl st_variables))] H → va_D A [(h_st, .inr (0, [.ref h_st_filters, .ref h_st_variables, .int st_pipelineLength])), (h_st_variables, .inl (gI G, 26, .inl st_variables))] → va_S A s.heap H locs → lv_has ls 2 [(0, .ref h_st), (1, .int v1)] → f_X0_reset_l7 F  n v1 st_variables X = some out → (∀ (st_variables : Nat → Int32) (H : Heap) (locs : List Loc) (ls : Array Slot), va_P (gD G) vwCl [(h_st, .inr (0, [.ref h_st_filters, .ref h_st_variables, .int st_pipelineLength])), (h_st_variables, .inl (gI G, 26, .inl st_variables))] H → va_D A [(h_st, .inr (0, [.ref h_st_filters, .ref h_st_variables, .int st_pipelineLength])), (h_st_variables, .inl (gI G, 26, .inl st_variables))] → va_S A s.heap H locs → lv_has ls 2 [] → X st_variables = some out → W p l e rm_X0_reset s m args below meth c H locs 0 0 Q (F0 m 28 ls [])) → W p l e rm_X0_reset s m args below meth c H locs 0 0 Q (F0 m 7 ls []) := by
    intro n
    induction n with
    | zero => intro st_pipelineLength v1 st_variables X H locs ls hP hD hS hl h HX; rw [f_X0_reset_l7] at h; cases h
    | succ n ih =>
        intro st_pipelineLength v1 st_variables X H locs ls hP hD hS hl h HX
        rw [f_X0_reset_l7] at h
        refine lv_iload_n hx hb dX0_reset_7 rfl (lv_at hl 1 rfl) ?_
        refine lv_bipush (v := 26) hx hb dX0_reset_8 (by decide) ?_
        refine lv_icmp_ge (tgt := 28) hx hb dX0_reset_10 (by decide) (fun c10 => ?_) (fun c10 => ?_)
        · have h := ip c10 h
          exact HX st_variables H locs ls hP hD hS (lv_sub hl [] rfl) h
        · have h := ing c10 h
          refine lv_aload_n hx hb dX0_reset_13 rfl (lv_at hl 0 rfl) ?_
          refine va_get (D := gD G) (ci := 0) (v := .ref h_st_variables) (C := RX0) (T := TX0) (N := 3) hx hb hts lk_X0 hown hK hP 0 rfl rfl 1 (by decide) (hts _ fl_RX0_15) (fun _ h9 => h9) rfl dX0_reset_14 ?_
          refine lv_iload_n hx hb dX0_reset_17 rfl (lv_at hl 1 rfl) ?_
          refine lv_iload_n hx hb dX0_reset_18 rfl (lv_at hl 1 rfl) ?_
          refine lv_iconst (v := 1) hx hb dX0_reset_19 (by decide) ?_
          refine lv_iadd hx hb dX0_reset_20 ?_
          obtain ⟨g21, h⟩ := gda h
          refine va_iast hx hb hK hP hD hS 1 1 rfl rfl g21 dX0_reset_21 (fun H locs hP hD hS => ?_)
          have hP : va_P (gD G) vwCl [(h_st, .inr (0, [.ref h_st_filters, .ref h_st_variables, .int st_pipelineLength])), (h_st_variables, .inl (gI G, 26, .inl (upd st_variables (Int32.toNatClampNeg v1) (v1 + 1))))] H := hP
          have hD : va_D A [(h_st, .inr (0, [.ref h_st_filters, .ref h_st_variables, .int st_pipelineLength])), (h_st_variables, .inl (gI G, 26, .inl (upd st_variables (Int32.toNatClampNeg v1) (v1 + 1))))] := hD
          refine lv_iinc (v := (v1 + 1)) (lv' := [(1, .int (v1 + 1)), (0, .ref h_st)]) hx hb dX0_reset_22 hl (k := 1) rfl rfl (by decide) rfl (fun ls hl => ?_)
          refine lv_goto (tgt := 7) hx hb dX0_reset_25 (by decide) ?_
          exact ih st_pipelineLength (v1 + 1) (upd st_variables (Int32.toNatClampNeg v1) (v1 + 1)) X H locs ls hP hD hS (lv_sub hl [1, 0] rfl) h HX
  refine Lp7 F 0 0 st_variables _ H locs ls hP hD hS (lv_sub hl [1, 0] rfl) h (fun st_variables H locs ls hP hD hS hl h => ?_)
  cases h
  exact hret (fun _ => 0) _ _ _ _ hP hD hS dX0_reset_28
abbrev rm_X0_copyFrom : Room := { frames := 1, cells := 0, slots := 0, locals := 60 }
theorem km_X0_copyFrom : KM yX0_copyFrom cX0_copyFrom 2 none 1 := ⟨co_X0_copyFrom, in_RX0, by decide +kernel⟩
set_option maxHeartbeats 4000000 in
set_option maxRecDepth 100000 in
theorem c_X0_copyFrom (F : Nat) (l : Launch) (G : GT) (h_ot h_ot_filters h_ot_variables h_st h_st_filters h_st_variables : Nat) (ot_pipelineLength : Int32) (st_pipelineLength : Int32) (ot_filters : Nat → Int32) (ot_variables : Nat → Int32) (st_filters : Nat → Int32) (st_variables : Nat → Int32) (sz : Nat) (out : (Nat → Int32) × Int32 × (Nat → Int32)) (h : f_X0_copyFrom F ot_filters ot_pipelineLength ot_variables st_filters st_pipelineLength st_variables = some out) : Cv G l yX0_copyFrom cX0_copyFrom 2 none rm_X0_copyFrom [.ref h_st, .ref h_ot] [(h_ot, .inr (0, [.ref h_ot_filters, .ref h_ot_variables, .int ot_pipelineLength])), (h_st, .inr (0, [.ref h_st_filters, .ref h_st_variables, .int st_pipelineLength])), (h_ot_filters, .inl (gI G, 6, .inl ot_filters)), (h_ot_variables, .inl (gI G, 26, .inl ot_variables)), (h_st_filters, .inl (gI G, 6, .inl st_filters)), (h_st_variables, .inl (gI G, 26, .inl st_variables))] sz (fun _ => [(h_ot, .inr (0, [.ref h_ot_filters, .ref h_ot_variables, .int ot_pipelineLength])), (h_st, .inr (0, [.ref h_st_filters, .ref h_st_variables, .int (out.2.1)])), (h_ot_filters, .inl (gI G, 6, .inl ot_filters)), (h_ot_variables, .inl (gI G, 26, .inl ot_variables)), (h_st_filters, .inl (gI G, 6, .inl (out.1))), (h_st_variables, .inl (gI G, 26, .inl (out.2.2)))]) := by
  refine Cv.start (by decide) (Nat.le_of_ble_eq_true rfl) ?_
  intro p e s m args below meth c A Q H locs ls hB hP hD hS hl hret
  obtain ⟨hx, hb, hmL, hr, hown, hts, hlocks, hnm, hA, hE⟩ := id hB
  obtain ⟨hK, hN, hV, hR, hZ, hZq, hAO⟩ := id hE
  have hown : s.vm.findClass RX0 = some m.cls := hown
  have hl : lv_has ls 2 [(0, .ref h_st), (1, .ref h_ot)] := hl
  rw [f_X0_copyFrom] at h
  refine lv_aload_n hx hb dX0_copyFrom_0 rfl (lv_at hl 1 rfl) ?_
  refine va_get (D := gD G) (ci := 0) (v := .ref h_ot_filters) (C := RX0) (T := TX0) (N := 3) hx hb hts lk_X0 hown hK hP 0 rfl rfl 0 (by decide) (hts _ fl_RX0_9) (fun _ h9 => h9) rfl dX0_copyFrom_1 ?_
  refine lv_iconst (v := 0) hx hb dX0_copyFrom_4 (by decide) ?_
  refine lv_aload_n hx hb dX0_copyFrom_5 rfl (lv_at hl 0 rfl) ?_
  refine va_get (D := gD G) (ci := 0) (v := .ref h_st_filters) (C := RX0) (T := TX0) (N := 3) hx hb hts lk_X0 hown hK hP 1 rfl rfl 0 (by decide) (hts _ fl_RX0_9) (fun _ h9 => h9) rfl dX0_copyFrom_6 ?_
  refine lv_iconst (v := 0) hx hb dX0_copyFrom_9 (by decide) ?_
  refine lv_bipush (v := 6) hx hb dX0_copyFrom_10 (by decide) ?_
  refine va_copyi hx hb (hmL.trans hl.1.symm) hown (hts _ ml_RX0_22) (hts _ nt_java_lang_Systemarraycopy) (hts _ st_java_lang_Systemarraycopy) (hts _ in_RJ10) hK hP hD hS 2 4 1 1 rfl rfl rfl rfl rfl (by decide) (by decide) (by decide) (Nat.le_of_ble_eq_true rfl) (Nat.le_of_ble_eq_true rfl) (fun _ _ => rfl) (Nat.le_of_ble_eq_true rfl) (Nat.le_of_ble_eq_true rfl) dX0_copyFrom_12 (fun H locs hP hD hS => ?_)
  have hP : va_P (gD G) vwCl [(h_ot, .inr (0, [.ref h_ot_filters, .ref h_ot_variables, .int ot_pipelineLength])), (h_st, .inr (0, [.ref h_st_filters, .ref h_st_variables, .int st_pipelineLength])), (h_ot_filters, .inl (gI G, 6, .inl ot_filters)), (h_ot_variables, .inl (gI G, 26, .inl ot_variables)), (h_st_filters, .inl (gI G, 6, .inl (va_cpy ot_filters st_filters (Int32.toNatClampNeg 0) (Int32.toNatClampNeg 0) (Int32.toNatClampNeg 6)))), (h_st_variables, .inl (gI G, 26, .inl st_variables))] H := hP
  have hD : va_D A [(h_ot, .inr (0, [.ref h_ot_filters, .ref h_ot_variables, .int ot_pipelineLength])), (h_st, .inr (0, [.ref h_st_filters, .ref h_st_variables, .int st_pipelineLength])), (h_ot_filters, .inl (gI G, 6, .inl ot_filters)), (h_ot_variables, .inl (gI G, 26, .inl ot_variables)), (h_st_filters, .inl (gI G, 6, .inl (va_cpy ot_filters st_filters (Int32.toNatClampNeg 0) (Int32.toNatClampNeg 0) (Int32.toNatClampNeg 6)))), (h_st_variables, .inl (gI G, 26, .inl st_variables))] := hD
  refine lv_aload_n hx hb dX0_copyFrom_15 rfl (lv_at hl 1 rfl) ?_
  refine va_get (D := gD G) (ci := 0) (v := .ref h_ot_variables) (C := RX0) (T := TX0) (N := 3) hx hb hts lk_X0 hown hK hP 0 rfl rfl 1 (by decide) (hts _ fl_RX0_15) (fun _ h9 => h9) rfl dX0_copyFrom_16 ?_
  refine lv_iconst (v := 0) hx hb dX0_copyFrom_19 (by decide) ?_
  refine lv_aload_n hx hb dX0_copyFrom_20 rfl (lv_at hl 0 rfl) ?_
  refine va_get (D := gD G) (ci := 0) (v := .ref h_st_variables) (C := RX0) (T := TX0) (N := 3) hx hb hts lk_X0 hown hK hP 1 rfl rfl 1 (by decide) (hts _ fl_RX0_15) (fun _ h9 => h9) rfl dX0_copyFrom_21 ?_
  refine lv_iconst (v := 0) hx hb dX0_copyFrom_24 (by decide) ?_
  refine lv_bipush (v := 26) hx hb dX0_copyFrom_25 (by decide) ?_
  refine va_copyi hx hb (hmL.trans hl.1.symm) hown (hts _ ml_RX0_22) (hts _ nt_java_lang_Systemarraycopy) (hts _ st_java_lang_Systemarraycopy) (hts _ in_RJ10) hK hP hD hS 3 5 1 1 rfl rfl rfl rfl rfl (by decide) (by decide) (by decide) (Nat.le_of_ble_eq_true rfl) (Nat.le_of_ble_eq_true rfl) (fun _ _ => rfl) (Nat.le_of_ble_eq_true rfl) (Nat.le_of_ble_eq_true rfl) dX0_copyFrom_27 (fun H locs hP hD hS => ?_)
  have hP : va_P (gD G) vwCl [(h_ot, .inr (0, [.ref h_ot_filters, .ref h_ot_variables, .int ot_pipelineLength])), (h_st, .inr (0, [.ref h_st_filters, .ref h_st_variables, .int st_pipelineLength])), (h_ot_filters, .inl (gI G, 6, .inl ot_filters)), (h_ot_variables, .inl (gI G, 26, .inl ot_variables)), (h_st_filters, .inl (gI G, 6, .inl (va_cpy ot_filters st_filters (Int32.toNatClampNeg 0) (Int32.toNatClampNeg 0) (Int32.toNatClampNeg 6)))), (h_st_variables, .inl (gI G, 26, .inl (va_cpy ot_variables st_variables (Int32.toNatClampNeg 0) (Int32.toNatClampNeg 0) (Int32.toNatClampNeg 26))))] H := hP
  have hD : va_D A [(h_ot, .inr (0, [.ref h_ot_filters, .ref h_ot_variables, .int ot_pipelineLength])), (h_st, .inr (0, [.ref h_st_filters, .ref h_st_variables, .int st_pipelineLength])), (h_ot_filters, .inl (gI G, 6, .inl ot_filters)), (h_ot_variables, .inl (gI G, 26, .inl ot_variables)), (h_st_filters, .inl (gI G, 6, .inl (va_cpy ot_filters st_filters (Int32.toNatClampNeg 0) (Int32.toNatClampNeg 0) (Int32.toNatClampNeg 6)))), (h_st_variables, .inl (gI G, 26, .inl (va_cpy ot_variables st_variables (Int32.toNatClampNeg 0) (Int32.toNatClampNeg 0) (Int32.toNatClampNeg 26))))] := hD
  refine lv_aload_n hx hb dX0_copyFrom_30 rfl (lv_at hl 0 rfl) ?_
  refine lv_aload_n hx hb dX0_copyFrom_31 rfl (lv_at hl 1 rfl) ?_
  refine va_get (D := gD G) (ci := 0) (v := .int ot_pipelineLength) (C := RX0) (T := TX0) (N := 3) hx hb hts lk_X0 hown hK hP 0 rfl rfl 2 (by decide) (hts _ fl_RX0_18) (fun _ h9 => h9) rfl dX0_copyFrom_32 ?_
  refine va_put (D := gD G) (ci := 0) (v := .int ot_pipelineLength) (ty := .int) (C := RX0) (T := TX0) (N := 3) hx hb hts lk_X0 tyX0 tyX0_ok nmX0 hown hK hP hD hS 1 rfl rfl 2 (by decide) (hts _ fl_RX0_18) (fun _ h9 => h9) rfl (by decide +kernel) rfl rfl (Nat.le_of_ble_eq_true rfl) dX0_copyFrom_35 (fun H locs hP hD hS => ?_)
  have hP : va_P (gD G) vwCl [(h_ot, .inr (0, [.ref h_ot_filters, .ref h_ot_variables, .int ot_pipelineLength])), (h_st, .inr (0, [.ref h_st_filters, .ref h_st_variables, .int ot_pipelineLength])), (h_ot_filters, .inl (gI G, 6, .inl ot_filters)), (h_ot_variables, .inl (gI G, 26, .inl ot_variables)), (h_st_filters, .inl (gI G, 6, .inl (va_cpy ot_filters st_filters (Int32.toNatClampNeg 0) (Int32.toNatClampNeg 0) (Int32.toNatClampNeg 6)))), (h_st_variables, .inl (gI G, 26, .inl (va_cpy ot_variables st_variables (Int32.toNatClampNeg 0) (Int32.toNatClampNeg 0) (Int32.toNatClampNeg 26))))] H := hP
  have hD : va_D A [(h_ot, .inr (0, [.ref h_ot_filters, .ref h_ot_variables, .int ot_pipelineLength])), (h_st, .inr (0, [.ref h_st_filters, .ref h_st_variables, .int ot_pipelineLength])), (h_ot_filters, .inl (gI G, 6, .inl ot_filters)), (h_ot_variables, .inl (gI G, 26, .inl ot_variables)), (h_st_filters, .inl (gI G, 6, .inl (va_cpy ot_filters st_filters (Int32.toNatClampNeg 0) (Int32.toNatClampNeg 0) (Int32.toNatClampNeg 6)))), (h_st_variables, .inl (gI G, 26, .inl (va_cpy ot_variables st_variables (Int32.toNatClampNeg 0) (Int32.toNatClampNeg 0) (Int32.toNatClampNeg 26))))] := hD
  cases h
  exact hret (fun _ => 0) _ _ _ _ hP hD hS dX0_copyFrom_38
abbrev rm_X0_insert : Room := { frames := 0, cells := 0, slots := 0, locals := 0 }
theorem km_X0_insert : KM yX0_insert cX0_insert 4 none 2 := ⟨co_X0_insert, in_RX0, by decide +kernel⟩
set_option maxHeartbeats 4000000 in
set_option maxRecDepth 100000 in
theorem c_X0_insert (F : Nat) (l : Launch) (G : GT) (h_st h_st_filters h_st_variables : Nat) (st_pipelineLength : Int32) (st_filters : Nat → Int32) (p1 : Int32) (p2 : Int32) (sz : Nat) (out : (Nat → Int32) × Int32) (h : f_X0_insert F p1 p2 st_filters st_pipelineLength = some out) : Cv G l yX0_insert cX0_insert 4 none rm_X0_insert [.ref h_st, .int p1, .int p2] [(h_st, .inr (0, [.ref h_st_filters, .ref h_st_variables, .int st_pipelineLength])), (h_st_filters, .inl (gI G, 6, .inl st_filters))] sz (fun _ => [(h_st, .inr (0, [.ref h_st_filters, .ref h_st_variables, .int (out.2)])), (h_st_filters, .inl (gI G, 6, .inl (out.1)))]) := by
  refine Cv.start (by decide) (Nat.le_of_ble_eq_true rfl) ?_
  intro p e s m args below meth c A Q H locs ls hB hP hD hS hl hret
  obtain ⟨hx, hb, hmL, hr, hown, hts, hlocks, hnm, hA, hE⟩ := id hB
  obtain ⟨hK, hN, hV, hR, hZ, hZq, hAO⟩ := id hE
  have hown : s.vm.findClass RX0 = some m.cls := hown
  have hl : lv_has ls 4 [(0, .ref h_st), (1, .int p1), (2, .int p2)] := hl
  rw [f_X0_insert] at h
  refine lv_aload_n hx hb dX0_insert_0 rfl (lv_at hl 0 rfl) ?_
  refine va_get (D := gD G) (ci := 0) (v := .int st_pipelineLength) (C := RX0) (T := TX0) (N := 3) hx hb hts lk_X0 hown hK hP 0 rfl rfl 2 (by decide) (hts _ fl_RX0_18) (fun _ h9 => h9) rfl dX0_insert_1 ?_
  refine lv_istore_n (lv' := [(3, .int st_pipelineLength), (0, .ref h_st), (1, .int p1), (2, .int p2)]) hx hb dX0_insert_4 rfl hl (by decide) rfl (fun ls hl => ?_)
  have Lp5 : ∀ (n : Nat) (v1 : Int32) (v2 : Int32) (st_pipelineLength : Int32) (v3 : Int32) (st_filters : Nat → Int32) (X : (Nat → Int32) → Option ((Nat → Int32) × Int32)) (H : Heap) (locs : List Loc) (ls : Array Slot), va_P (gD G) vwCl [(h_st, .inr (0, [.ref h_st_filters, .ref h_st_variables, .int st_pipelineLength])), (h_st_filters, .inl (gI G, 6, .inl st_filters))] H → va_D A [(h_st, .inr (0, [.ref h_st_filters, .ref h_st_variables, .int st_pipelineLength])), (h_st_filters, .inl (gI G, 6, .inl st_filters))] → va_S A s.heap H locs → lv_has ls 4 [(0, .ref h_st), (1, .int v1), (2, .int v2), (3, .int v3)] → f_X0_insert_l5 F v1 v2 n v3 st_filters X = some out → (∀ (st_filters : Nat → Int32) (H : Heap) (locs : List Loc) (ls : Array Slot), va_P (gD G) vwCl [(h_st, .inr (0, [.ref h_st_filters, .ref h_st_variables, .int st_pipelineLength])), (h_st_filters, .inl (gI G, 6, .inl st_filters))] H → va_D A [(h_st, .inr (0, [.ref h_st_filters, .ref h_st_variables, .int st_pipelineLength])), (h_st_filters, .inl (gI G, 6, .inl st_filters))] → va_S A s.heap H locs → lv_has ls 4 [(0, .ref h_st), (1, .int v1), (2, .int v2)] → X st_filters = some out → W p l e rm_X0_insert s m args below meth c H locs 0 0 Q (F0 m 30 ls [])) → W p l e rm_X0_insert s m args below meth c H locs 0 0 Q (F0 m 5 ls []) := by
    intro n
    induction n with
    | zero => intro v1 v2 st_pipelineLength v3 st_filters X H locs ls hP hD hS hl h HX; rw [f_X0_insert_l5] at h; cases h
    | succ n ih =>
        intro v1 v2 st_pipelineLength v3 st_filters X H locs ls hP hD hS hl h HX
        rw [f_X0_insert_l5] at h
        refine lv_iload_n hx hb dX0_insert_5 rfl (lv_at hl 3 rfl) ?_
        refine lv_iload_n hx hb dX0_insert_6 rfl (lv_at hl 1 rfl) ?_
        refine lv_icmp_le (tgt := 30) hx hb dX0_insert_7 (by decide) (fun c7 => ?_) (fun c7 => ?_)
        · have h := ip c7 h
          exact HX st_filters H locs ls hP hD hS (lv_sub hl [0, 1, 2] rfl) h
        · have h := ing c7 h
          refine lv_aload_n hx hb dX0_insert_10 rfl (lv_at hl 0 rfl) ?_
          refine va_get (D := gD G) (ci := 0) (v := .ref h_st_filters) (C := RX0) (T := TX0) (N := 3) hx hb hts lk_X0 hown hK hP 0 rfl rfl 0 (by decide) (hts _ fl_RX0_9) (fun _ h9 => h9) rfl dX0_insert_11 ?_
          refine lv_iload_n hx hb dX0_insert_14 rfl (lv_at hl 3 rfl) ?_
          refine lv_aload_n hx hb dX0_insert_15 rfl (lv_at hl 0 rfl) ?_
          refine va_get (D := gD G) (ci := 0) (v := .ref h_st_filters) (C := RX0) (T := TX0) (N := 3) hx hb hts lk_X0 hown hK hP 0 rfl rfl 0 (by decide) (hts _ fl_RX0_9) (fun _ h9 => h9) rfl dX0_insert_16 ?_
          refine lv_iload_n hx hb dX0_insert_19 rfl (lv_at hl 3 rfl) ?_
          refine lv_iconst (v := 1) hx hb dX0_insert_20 (by decide) ?_
          refine lv_isub hx hb dX0_insert_21 ?_
          obtain ⟨g22, h⟩ := gda h
          refine va_iald hx hb hK hP 1 1 rfl rfl g22 dX0_insert_22 ?_
          obtain ⟨g23, h⟩ := gda h
          refine va_iast hx hb hK hP hD hS 1 1 rfl rfl g23 dX0_insert_23 (fun H locs hP hD hS => ?_)
          have hP : va_P (gD G) vwCl [(h_st, .inr (0, [.ref h_st_filters, .ref h_st_variables, .int st_pipelineLength])), (h_st_filters, .inl (gI G, 6, .inl (upd st_filters (Int32.toNatClampNeg v3) (st_filters (Int32.toNatClampNeg (v3 - 1))))))] H := hP
          have hD : va_D A [(h_st, .inr (0, [.ref h_st_filters, .ref h_st_variables, .int st_pipelineLength])), (h_st_filters, .inl (gI G, 6, .inl (upd st_filters (Int32.toNatClampNeg v3) (st_filters (Int32.toNatClampNeg (v3 - 1))))))] := hD
          refine lv_iinc (v := (v3 + (-1))) (lv' := [(3, .int (v3 + (-1))), (0, .ref h_st), (1, .int v1), (2, .int v2)]) hx hb dX0_insert_24 hl (k := 3) rfl rfl (by decide) rfl (fun ls hl => ?_)
          refine lv_goto (tgt := 5) hx hb dX0_insert_27 (by decide) ?_
          exact ih v1 v2 st_pipelineLength (v3 + (-1)) (upd st_filters (Int32.toNatClampNeg v3) (st_filters (Int32.toNatClampNeg (v3 - 1)))) X H locs ls hP hD hS (lv_sub hl [1, 2, 3, 0] rfl) h HX
  refine Lp5 F p1 p2 st_pipelineLength st_pipelineLength st_filters _ H locs ls hP hD hS (lv_sub hl [1, 2, 3, 0] rfl) h (fun st_filters H locs ls hP hD hS hl h => ?_)
  refine lv_aload_n hx hb dX0_insert_30 rfl (lv_at hl 0 rfl) ?_
  refine va_get (D := gD G) (ci := 0) (v := .ref h_st_filters) (C := RX0) (T := TX0) (N := 3) hx hb hts lk_X0 hown hK hP 0 rfl rfl 0 (by decide) (hts _ fl_RX0_9) (fun _ h9 => h9) rfl dX0_insert_31 ?_
  refine lv_iload_n hx hb dX0_insert_34 rfl (lv_at hl 1 rfl) ?_
  refine lv_iload_n hx hb dX0_insert_35 rfl (lv_at hl 2 rfl) ?_
  obtain ⟨g36, h⟩ := gda h
  refine va_iast hx hb hK hP hD hS 1 1 rfl rfl g36 dX0_insert_36 (fun H locs hP hD hS => ?_)
  have hP : va_P (gD G) vwCl [(h_st, .inr (0, [.ref h_st_filters, .ref h_st_variables, .int st_pipelineLength])), (h_st_filters, .inl (gI G, 6, .inl (upd st_filters (Int32.toNatClampNeg p1) p2)))] H := hP
  have hD : va_D A [(h_st, .inr (0, [.ref h_st_filters, .ref h_st_variables, .int st_pipelineLength])), (h_st_filters, .inl (gI G, 6, .inl (upd st_filters (Int32.toNatClampNeg p1) p2)))] := hD
  refine lv_aload_n hx hb dX0_insert_37 rfl (lv_at hl 0 rfl) ?_
  refine lv_dup hx hb dX0_insert_38 rfl ?_
  refine va_get (D := gD G) (ci := 0) (v := .int st_pipelineLength) (C := RX0) (T := TX0) (N := 3) hx hb hts lk_X0 hown hK hP 0 rfl rfl 2 (by decide) (hts _ fl_RX0_18) (fun _ h9 => h9) rfl dX0_insert_39 ?_
  refine lv_iconst (v := 1) hx hb dX0_insert_42 (by decide) ?_
  refine lv_iadd hx hb dX0_insert_43 ?_
  refine va_put (D := gD G) (ci := 0) (v := .int (st_pipelineLength + 1)) (ty := .int) (C := RX0) (T := TX0) (N := 3) hx hb hts lk_X0 tyX0 tyX0_ok nmX0 hown hK hP hD hS 0 rfl rfl 2 (by decide) (hts _ fl_RX0_18) (fun _ h9 => h9) rfl (by decide +kernel) rfl rfl (Nat.le_of_ble_eq_true rfl) dX0_insert_44 (fun H locs hP hD hS => ?_)
  have hP : va_P (gD G) vwCl [(h_st, .inr (0, [.ref h_st_filters, .ref h_st_variables, .int (st_pipelineLength + 1)])), (h_st_filters, .inl (gI G, 6, .inl (upd st_filters (Int32.toNatClampNeg p1) p2)))] H := hP
  have hD : va_D A [(h_st, .inr (0, [.ref h_st_filters, .ref h_st_variables, .int (st_pipelineLength + 1)])), (h_st_filters, .inl (gI G, 6, .inl (upd st_filters (Int32.toNatClampNeg p1) p2)))] := hD
  cases h
  exact hret (fun _ => 0) _ _ _ _ hP hD hS dX0_insert_47
abbrev rm_X0_delete : Room := { frames := 0, cells := 0, slots := 0, locals := 0 }
theorem km_X0_delete : KM yX0_delete cX0_delete 3 none 1 := ⟨co_X0_delete, in_RX0, by decide +kernel⟩
set_option maxHeartbeats 4000000 in
set_option maxRecDepth 100000 in
theorem c_X0_delete (F : Nat) (l : Launch) (G : GT) (h_st h_st_filters h_st_variables : Nat) (st_pipelineLength : Int32) (st_filters : Nat → Int32) (p1 : Int32) (sz : Nat) (out : (Nat → Int32) × Int32) (h : f_X0_delete F p1 st_filters st_pipelineLength = some out) : Cv G l yX0_delete cX0_delete 3 none rm_X0_delete [.ref h_st, .int p1] [(h_st, .inr (0, [.ref h_st_filters, .ref h_st_variables, .int st_pipelineLength])), (h_st_filters, .inl (gI G, 6, .inl st_filters))] sz (fun _ => [(h_st, .inr (0, [.ref h_st_filters, .ref h_st_variables, .int (out.2)])), (h_st_filters, .inl (gI G, 6, .inl (out.1)))]) := by
  refine Cv.start (by decide) (Nat.le_of_ble_eq_true rfl) ?_
  intro p e s m args below meth c A Q H locs ls hB hP hD hS hl hret
  obtain ⟨hx, hb, hmL, hr, hown, hts, hlocks, hnm, hA, hE⟩ := id hB
  obtain ⟨hK, hN, hV, hR, hZ, hZq, hAO⟩ := id hE
  have hown : s.vm.findClass RX0 = some m.cls := hown
  have hl : lv_has ls 3 [(0, .ref h_st), (1, .int p1)] := hl
  rw [f_X0_delete] at h
  refine lv_aload_n hx hb dX0_delete_0 rfl (lv_at hl 0 rfl) ?_
  refine lv_dup hx hb dX0_delete_1 rfl ?_
  refine va_get (D := gD G) (ci := 0) (v := .int st_pipelineLength) (C := RX0) (T := TX0) (N := 3) hx hb hts lk_X0 hown hK hP 0 rfl rfl 2 (by decide) (hts _ fl_RX0_18) (fun _ h9 => h9) rfl dX0_delete_2 ?_
  refine lv_iconst (v := 1) hx hb dX0_delete_5 (by decide) ?_
  refine lv_isub hx hb dX0_delete_6 ?_
  refine va_put (D := gD G) (ci := 0) (v := .int (st_pipelineLength - 1)) (ty := .int) (C := RX0) (T := TX0) (N := 3) hx hb hts lk_X0 tyX0 tyX0_ok nmX0 hown hK hP hD hS 0 rfl rfl 2 (by decide) (hts _ fl_RX0_18) (fun _ h9 => h9) rfl (by decide +kernel) rfl rfl (Nat.le_of_ble_eq_true rfl) dX0_delete_7 (fun H locs hP hD hS => ?_)
  have hP : va_P (gD G) vwCl [(h_st, .inr (0, [.ref h_st_filters, .ref h_st_variables, .int (st_pipelineLength - 1)])), (h_st_filters, .inl (gI G, 6, .inl st_filters))] H := hP
  have hD : va_D A [(h_st, .inr (0, [.ref h_st_filters, .ref h_st_variables, .int (st_pipelineLength - 1)])), (h_st_filters, .inl (gI G, 6, .inl st_filters))] := hD
  refine lv_iload_n hx hb dX0_delete_10 rfl (lv_at hl 1 rfl) ?_
  refine lv_istore_n (lv' := [(2, .int p1), (0, .ref h_st), (1, .int p1)]) hx hb dX0_delete_11 rfl hl (by decide) rfl (fun ls hl => ?_)
  have Lp12 : ∀ (n : Nat) (st_pipelineLength : Int32) (v2 : Int32) (st_filters : Nat → Int32) (X : (Nat → Int32) → Option ((Nat → Int32) × Int32)) (H : Heap) (locs : List Loc) (ls : Array Slot), va_P (gD G) vwCl [(h_st, .inr (0, [.ref h_st_filters, .ref h_st_variables, .int st_pipelineLength])), (h_st_filters, .inl (gI G, 6, .inl st_filters))] H → va_D A [(h_st, .inr (0, [.ref h_st_filters, .ref h_st_variables, .int st_pipelineLength])), (h_st_filters, .inl (gI G, 6, .inl st_filters))] → va_S A s.heap H locs → lv_has ls 3 [(0, .ref h_st), (2, .int v2)] → f_X0_delete_l12 F st_pipelineLength n v2 st_filters X = some out → (∀ (st_filters : Nat → Int32) (H : Heap) (locs : List Loc) (ls : Array Slot), va_P (gD G) vwCl [(h_st, .inr (0, [.ref h_st_filters, .ref h_st_variables, .int st_pipelineLength])), (h_st_filters, .inl (gI G, 6, .inl st_filters))] H → va_D A [(h_st, .inr (0, [.ref h_st_filters, .ref h_st_variables, .int st_pipelineLength])), (h_st_filters, .inl (gI G, 6, .inl st_filters))] → va_S A s.heap H locs → lv_has ls 3 [] → X st_filters = some out → W p l e rm_X0_delete s m args below meth c H locs 0 0 Q (F0 m 40 ls [])) → W p l e rm_X0_delete s m args below meth c H locs 0 0 Q (F0 m 12 ls []) := by
    intro n
    induction n with
    | zero => intro st_pipelineLength v2 st_filters X H locs ls hP hD hS hl h HX; rw [f_X0_delete_l12] at h; cases h
    | succ n ih =>
        intro st_pipelineLength v2 st_filters X H locs ls hP hD hS hl h HX
        rw [f_X0_delete_l12] at h
        refine lv_iload_n hx hb dX0_delete_12 rfl (lv_at hl 1 rfl) ?_
        refine lv_aload_n hx hb dX0_delete_13 rfl (lv_at hl 0 rfl) ?_
        refine va_get (D := gD G) (ci := 0) (v := .int st_pipelineLength) (C := RX0) (T := TX0) (N := 3) hx hb hts lk_X0 hown hK hP 0 rfl rfl 2 (by decide) (hts _ fl_RX0_18) (fun _ h9 => h9) rfl dX0_delete_14 ?_
        refine lv_icmp_ge (tgt := 40) hx hb dX0_delete_17 (by decide) (fun c17 => ?_) (fun c17 => ?_)
        · have h := ip c17 h
          exact HX st_filters H locs ls hP hD hS (lv_sub hl [] rfl) h
        · have h := ing c17 h
          refine lv_aload_n hx hb dX0_delete_20 rfl (lv_at hl 0 rfl) ?_
          refine va_get (D := gD G) (ci := 0) (v := .ref h_st_filters) (C := RX0) (T := TX0) (N := 3) hx hb hts lk_X0 hown hK hP 0 rfl rfl 0 (by decide) (hts _ fl_RX0_9) (fun _ h9 => h9) rfl dX0_delete_21 ?_
          refine lv_iload_n hx hb dX0_delete_24 rfl (lv_at hl 1 rfl) ?_
          refine lv_aload_n hx hb dX0_delete_25 rfl (lv_at hl 0 rfl) ?_
          refine va_get (D := gD G) (ci := 0) (v := .ref h_st_filters) (C := RX0) (T := TX0) (N := 3) hx hb hts lk_X0 hown hK hP 0 rfl rfl 0 (by decide) (hts _ fl_RX0_9) (fun _ h9 => h9) rfl dX0_delete_26 ?_
          refine lv_iload_n hx hb dX0_delete_29 rfl (lv_at hl 1 rfl) ?_
          refine lv_iconst (v := 1) hx hb dX0_delete_30 (by decide) ?_
          refine lv_iadd hx hb dX0_delete_31 ?_
          obtain ⟨g32, h⟩ := gda h
          refine va_iald hx hb hK hP 1 1 rfl rfl g32 dX0_delete_32 ?_
          obtain ⟨g33, h⟩ := gda h
          refine va_iast hx hb hK hP hD hS 1 1 rfl rfl g33 dX0_delete_33 (fun H locs hP hD hS => ?_)
          have hP : va_P (gD G) vwCl [(h_st, .inr (0, [.ref h_st_filters, .ref h_st_variables, .int st_pipelineLength])), (h_st_filters, .inl (gI G, 6, .inl (upd st_filters (Int32.toNatClampNeg v2) (st_filters (Int32.toNatClampNeg (v2 + 1))))))] H := hP
          have hD : va_D A [(h_st, .inr (0, [.ref h_st_filters, .ref h_st_variables, .int st_pipelineLength])), (h_st_filters, .inl (gI G, 6, .inl (upd st_filters (Int32.toNatClampNeg v2) (st_filters (Int32.toNatClampNeg (v2 + 1))))))] := hD
          refine lv_iinc (v := (v2 + 1)) (lv' := [(2, .int (v2 + 1)), (0, .ref h_st)]) hx hb dX0_delete_34 hl (k := 1) rfl rfl (by decide) rfl (fun ls hl => ?_)
          refine lv_goto (tgt := 12) hx hb dX0_delete_37 (by decide) ?_
          exact ih st_pipelineLength (v2 + 1) (upd st_filters (Int32.toNatClampNeg v2) (st_filters (Int32.toNatClampNeg (v2 + 1)))) X H locs ls hP hD hS (lv_sub hl [1, 0] rfl) h HX
  refine Lp12 F (st_pipelineLength - 1) p1 st_filters _ H locs ls hP hD hS (lv_sub hl [1, 0] rfl) h (fun st_filters H locs ls hP hD hS hl h => ?_)
  cases h
  exact hret (fun _ => 0) _ _ _ _ hP hD hS dX0_delete_40
abbrev rm_X0_swapWithNext : Room := { frames := 0, cells := 0, slots := 0, locals := 0 }
theorem km_X0_swapWithNext : KM yX0_swapWithNext cX0_swapWithNext 3 none 1 := ⟨co_X0_swapWithNext, in_RX0, by decide +kernel⟩
set_option maxHeartbeats 4000000 in
set_option maxRecDepth 100000 in
theorem c_X0_swapWithNext (F : Nat) (l : Launch) (G : GT) (h_st h_st_filters h_st_variables : Nat) (st_pipelineLength : Int32) (st_filters : Nat → Int32) (p1 : Int32) (sz : Nat) (out : (Nat → Int32)) (h : f_X0_swapWithNext F p1 st_filters = some out) : Cv G l yX0_swapWithNext cX0_swapWithNext 3 none rm_X0_swapWithNext [.ref h_st, .int p1] [(h_st, .inr (0, [.ref h_st_filters, .ref h_st_variables, .int st_pipelineLength])), (h_st_filters, .inl (gI G, 6, .inl st_filters))] sz (fun _ => [(h_st, .inr (0, [.ref h_st_filters, .ref h_st_variables, .int st_pipelineLength])), (h_st_filters, .inl (gI G, 6, .inl out))]) := by
  refine Cv.start (by decide) (Nat.le_of_ble_eq_true rfl) ?_
  intro p e s m args below meth c A Q H locs ls hB hP hD hS hl hret
  obtain ⟨hx, hb, hmL, hr, hown, hts, hlocks, hnm, hA, hE⟩ := id hB
  obtain ⟨hK, hN, hV, hR, hZ, hZq, hAO⟩ := id hE
  have hown : s.vm.findClass RX0 = some m.cls := hown
  have hl : lv_has ls 3 [(0, .ref h_st), (1, .int p1)] := hl
  rw [f_X0_swapWithNext] at h
  refine lv_aload_n hx hb dX0_swapWithNext_0 rfl (lv_at hl 0 rfl) ?_
  refine va_get (D := gD G) (ci := 0) (v := .ref h_st_filters) (C := RX0) (T := TX0) (N := 3) hx hb hts lk_X0 hown hK hP 0 rfl rfl 0 (by decide) (hts _ fl_RX0_9) (fun _ h9 => h9) rfl dX0_swapWithNext_1 ?_
  refine lv_iload_n hx hb dX0_swapWithNext_4 rfl (lv_at hl 1 rfl) ?_
  obtain ⟨g5, h⟩ := gda h
  refine va_iald hx hb hK hP 1 1 rfl rfl g5 dX0_swapWithNext_5 ?_
  refine lv_istore_n (lv' := [(2, .int (st_filters (Int32.toNatClampNeg p1))), (0, .ref h_st), (1, .int p1)]) hx hb dX0_swapWithNext_6 rfl hl (by decide) rfl (fun ls hl => ?_)
  refine lv_aload_n hx hb dX0_swapWithNext_7 rfl (lv_at hl 1 rfl) ?_
  refine va_get (D := gD G) (ci := 0) (v := .ref h_st_filters) (C := RX0) (T := TX0) (N := 3) hx hb hts lk_X0 hown hK hP 0 rfl rfl 0 (by decide) (hts _ fl_RX0_9) (fun _ h9 => h9) rfl dX0_swapWithNext_8 ?_
  refine lv_iload_n hx hb dX0_swapWithNext_11 rfl (lv_at hl 2 rfl) ?_
  refine lv_aload_n hx hb dX0_swapWithNext_12 rfl (lv_at hl 1 rfl) ?_
  refine va_get (D := gD G) (ci := 0) (v := .ref h_st_filters) (C := RX0) (T := TX0) (N := 3) hx hb hts lk_X0 hown hK hP 0 rfl rfl 0 (by decide) (hts _ fl_RX0_9) (fun _ h9 => h9) rfl dX0_swapWithNext_13 ?_
  refine lv_iload_n hx hb dX0_swapWithNext_16 rfl (lv_at hl 2 rfl) ?_
  refine lv_iconst (v := 1) hx hb dX0_swapWithNext_17 (by decide) ?_
  refine lv_iadd hx hb dX0_swapWithNext_18 ?_
  obtain ⟨g19, h⟩ := gda h
  refine va_iald hx hb hK hP 1 1 rfl rfl g19 dX0_swapWithNext_19 ?_
  obtain ⟨g20, h⟩ := gda h
  refine va_iast hx hb hK hP hD hS 1 1 rfl rfl g20 dX0_swapWithNext_20 (fun H locs hP hD hS => ?_)
  have hP : va_P (gD G) vwCl [(h_st, .inr (0, [.ref h_st_filters, .ref h_st_variables, .int st_pipelineLength])), (h_st_filters, .inl (gI G, 6, .inl (upd st_filters (Int32.toNatClampNeg p1) (st_filters (Int32.toNatClampNeg (p1 + 1))))))] H := hP
  have hD : va_D A [(h_st, .inr (0, [.ref h_st_filters, .ref h_st_variables, .int st_pipelineLength])), (h_st_filters, .inl (gI G, 6, .inl (upd st_filters (Int32.toNatClampNeg p1) (st_filters (Int32.toNatClampNeg (p1 + 1))))))] := hD
  refine lv_aload_n hx hb dX0_swapWithNext_21 rfl (lv_at hl 1 rfl) ?_
  refine va_get (D := gD G) (ci := 0) (v := .ref h_st_filters) (C := RX0) (T := TX0) (N := 3) hx hb hts lk_X0 hown hK hP 0 rfl rfl 0 (by decide) (hts _ fl_RX0_9) (fun _ h9 => h9) rfl dX0_swapWithNext_22 ?_
  refine lv_iload_n hx hb dX0_swapWithNext_25 rfl (lv_at hl 2 rfl) ?_
  refine lv_iconst (v := 1) hx hb dX0_swapWithNext_26 (by decide) ?_
  refine lv_iadd hx hb dX0_swapWithNext_27 ?_
  refine lv_iload_n hx hb dX0_swapWithNext_28 rfl (lv_at hl 0 rfl) ?_
  obtain ⟨g29, h⟩ := gda h
  refine va_iast hx hb hK hP hD hS 1 1 rfl rfl g29 dX0_swapWithNext_29 (fun H locs hP hD hS => ?_)
  have hP : va_P (gD G) vwCl [(h_st, .inr (0, [.ref h_st_filters, .ref h_st_variables, .int st_pipelineLength])), (h_st_filters, .inl (gI G, 6, .inl (upd (upd st_filters (Int32.toNatClampNeg p1) (st_filters (Int32.toNatClampNeg (p1 + 1)))) (Int32.toNatClampNeg (p1 + 1)) (st_filters (Int32.toNatClampNeg p1)))))] H := hP
  have hD : va_D A [(h_st, .inr (0, [.ref h_st_filters, .ref h_st_variables, .int st_pipelineLength])), (h_st_filters, .inl (gI G, 6, .inl (upd (upd st_filters (Int32.toNatClampNeg p1) (st_filters (Int32.toNatClampNeg (p1 + 1)))) (Int32.toNatClampNeg (p1 + 1)) (st_filters (Int32.toNatClampNeg p1)))))] := hD
  cases h
  exact hret (fun _ => 0) _ _ _ _ hP hD hS dX0_swapWithNext_30
abbrev rm_X4_reset : Room := { frames := 1, cells := 0, slots := 0, locals := 23 }
theorem km_X4_reset : KM yX4_reset cX4_reset 1 none 0 := ⟨co_X4_reset, in_RX4, by decide +kernel⟩
set_option maxHeartbeats 4000000 in
set_option maxRecDepth 100000 in
theorem c_X4_reset (F : Nat) (l : Launch) (G : GT) (h_se h_se_priorities h_se_associativities h_se_symbols h_se_letters : Nat) (se_operands : Int32) (se_priorities : Nat → Int32) (sz : Nat) (out : Int32 × (Nat → Int32)) (h : f_X4_reset F se_operands se_priorities = some out) : Cv G l yX4_reset cX4_reset 1 none rm_X4_reset [.ref h_se] [(h_se, .inr (3, [.ref h_se_priorities, .ref h_se_associativities, .ref h_se_symbols, .ref h_se_letters, .int se_operands])), (h_se_priorities, .inl (gI G, 9, .inl se_priorities))] sz (fun _ => [(h_se, .inr (3, [.ref h_se_priorities, .ref h_se_associativities, .ref h_se_symbols, .ref h_se_letters, .int (out.1)])), (h_se_priorities, .inl (gI G, 9, .inl (out.2)))]) := by
  refine Cv.start (by decide) (Nat.le_of_ble_eq_true rfl) ?_
  intro p e s m args below meth c A Q H locs ls hB hP hD hS hl hret
  obtain ⟨hx, hb, hmL, hr, hown, hts, hlocks, hnm, hA, hE⟩ := id hB
  obtain ⟨hK, hN, hV, hR, hZ, hZq, hAO⟩ := id hE
  have hown : s.vm.findClass RX4 = some m.cls := hown
  have hl : lv_has ls 1 [(0, .ref h_se)] := hl
  rw [f_X4_reset] at h
  refine lv_aload_n hx hb dX4_reset_0 rfl (lv_at hl 0 rfl) ?_
  refine va_get (D := gD G) (ci := 3) (v := .ref h_se_priorities) (C := RX4) (T := TX4) (N := 5) hx hb hts lk_X4 hown hK hP 0 rfl rfl 0 (by decide) (hts _ fl_RX4_9) (fun _ h9 => h9) rfl dX4_reset_1 ?_
  refine lv_iconst (v := (-1)) hx hb dX4_reset_4 (by decide) ?_
  obtain ⟨o5, e5, h⟩ := bd h
  refine Cv.S (wr := [(h_se, .inr (3, [.ref h_se_priorities, .ref h_se_associativities, .ref h_se_symbols, .ref h_se_letters, .int se_operands]))]) (c_J7_fill_53178 F l G 9 h_se_priorities se_priorities (-1) H.size o5 e5) hB km_J7_fill_53178 st_J7_fill_53178 ml_RX4_28 hP hD hS hl [1] [0] ⟨rfl, rfl, ⟨rfl, rfl⟩, by decide⟩ ⟨⟨Nat.le_of_ble_eq_true rfl, Nat.le_of_ble_eq_true rfl⟩, Nat.le_of_ble_eq_true rfl, Nat.le_of_ble_eq_true rfl, Nat.le_of_ble_eq_true rfl⟩ rfl dX4_reset_5 (fun z H locs hP hD hS => ?_)
  have hP : va_P (gD G) vwCl [(h_se, .inr (3, [.ref h_se_priorities, .ref h_se_associativities, .ref h_se_symbols, .ref h_se_letters, .int se_operands])), (h_se_priorities, .inl (gI G, 9, .inl o5))] H := hP
  have hD : va_D A [(h_se, .inr (3, [.ref h_se_priorities, .ref h_se_associativities, .ref h_se_symbols, .ref h_se_letters, .int se_operands])), (h_se_priorities, .inl (gI G, 9, .inl o5))] := hD
  refine lv_aload_n hx hb dX4_reset_8 rfl (lv_at hl 0 rfl) ?_
  refine lv_iconst (v := 0) hx hb dX4_reset_9 (by decide) ?_
  refine va_put (D := gD G) (ci := 3) (v := .int 0) (ty := .int) (C := RX4) (T := TX4) (N := 5) hx hb hts lk_X4 tyX4 tyX4_ok nmX4 hown hK hP hD hS 0 rfl rfl 4 (by decide) (hts _ fl_RX4_24) (fun _ h9 => h9) rfl (by decide +kernel) rfl rfl (Nat.le_of_ble_eq_true rfl) dX4_reset_10 (fun H locs hP hD hS => ?_)
  have hP : va_P (gD G) vwCl [(h_se, .inr (3, [.ref h_se_priorities, .ref h_se_associativities, .ref h_se_symbols, .ref h_se_letters, .int 0])), (h_se_priorities, .inl (gI G, 9, .inl o5))] H := hP
  have hD : va_D A [(h_se, .inr (3, [.ref h_se_priorities, .ref h_se_associativities, .ref h_se_symbols, .ref h_se_letters, .int 0])), (h_se_priorities, .inl (gI G, 9, .inl o5))] := hD
  cases h
  exact hret (fun _ => 0) _ _ _ _ hP hD hS dX4_reset_13
abbrev rm_X4_copyFrom : Room := { frames := 1, cells := 0, slots := 0, locals := 60 }
theorem km_X4_copyFrom : KM yX4_copyFrom cX4_copyFrom 2 none 1 := ⟨co_X4_copyFrom, in_RX4, by decide +kernel⟩
set_option maxHeartbeats 4000000 in
set_option maxRecDepth 100000 in
theorem c_X4_copyFrom (F : Nat) (l : Launch) (G : GT) (h_ot h_ot_priorities h_ot_associativities h_ot_symbols h_ot_letters h_se h_se_priorities h_se_associativities h_se_symbols h_se_letters : Nat) (ot_operands : Int32) (se_operands : Int32) (ot_associativities : Nat → Int32) (ot_letters : Nat → Int32) (ot_priorities : Nat → Int32) (ot_symbols : Nat → Int32) (se_associativities : Nat → Int32) (se_letters : Nat → Int32) (se_priorities : Nat → Int32) (se_symbols : Nat → Int32) (sz : Nat) (out : (Nat → Int32) × (Nat → Int32) × Int32 × (Nat → Int32) × (Nat → Int32)) (h : f_X4_copyFrom F ot_associativities ot_letters ot_operands ot_priorities ot_symbols se_associativities se_letters se_operands se_priorities se_symbols = some out) : Cv G l yX4_copyFrom cX4_copyFrom 2 none rm_X4_copyFrom [.ref h_se, .ref h_ot] [(h_ot, .inr (3, [.ref h_ot_priorities, .ref h_ot_associativities, .ref h_ot_symbols, .ref h_ot_letters, .int ot_operands])), (h_se, .inr (3, [.ref h_se_priorities, .ref h_se_associativities, .ref h_se_symbols, .ref h_se_letters, .int se_operands])), (h_ot_associativities, .inl (gI G, 9, .inl ot_associativities)), (h_ot_letters, .inl (gI G, 11, .inl ot_letters)), (h_ot_priorities, .inl (gI G, 9, .inl ot_priorities)), (h_ot_symbols, .inl (gI G, 10, .inl ot_symbols)), (h_se_associativities, .inl (gI G, 9, .inl se_associativities)), (h_se_letters, .inl (gI G, 11, .inl se_letters)), (h_se_priorities, .inl (gI G, 9, .inl se_priorities)), (h_se_symbols, .inl (gI G, 10, .inl se_symbols))] sz (fun _ => [(h_ot, .inr (3, [.ref h_ot_priorities, .ref h_ot_associativities, .ref h_ot_symbols, .ref h_ot_letters, .int ot_operands])), (h_se, .inr (3, [.ref h_se_priorities, .ref h_se_associativities, .ref h_se_symbols, .ref h_se_letters, .int (out.2.2.1)])), (h_ot_associativities, .inl (gI G, 9, .inl ot_associativities)), (h_ot_letters, .inl (gI G, 11, .inl ot_letters)), (h_ot_priorities, .inl (gI G, 9, .inl ot_priorities)), (h_ot_symbols, .inl (gI G, 10, .inl ot_symbols)), (h_se_associativities, .inl (gI G, 9, .inl (out.1))), (h_se_letters, .inl (gI G, 11, .inl (out.2.1))), (h_se_priorities, .inl (gI G, 9, .inl (out.2.2.2.1))), (h_se_symbols, .inl (gI G, 10, .inl (out.2.2.2.2)))]) := by
  refine Cv.start (by decide) (Nat.le_of_ble_eq_true rfl) ?_
  intro p e s m args below meth c A Q H locs ls hB hP hD hS hl hret
  obtain ⟨hx, hb, hmL, hr, hown, hts, hlocks, hnm, hA, hE⟩ := id hB
  obtain ⟨hK, hN, hV, hR, hZ, hZq, hAO⟩ := id hE
  have hown : s.vm.findClass RX4 = some m.cls := hown
  have hl : lv_has ls 2 [(0, .ref h_se), (1, .ref h_ot)] := hl
  rw [f_X4_copyFrom] at h
  refine lv_aload_n hx hb dX4_copyFrom_0 rfl (lv_at hl 1 rfl) ?_
  refine va_get (D := gD G) (ci := 3) (v := .ref h_ot_priorities) (C := RX4) (T := TX4) (N := 5) hx hb hts lk_X4 hown hK hP 0 rfl rfl 0 (by decide) (hts _ fl_RX4_9) (fun _ h9 => h9) rfl dX4_copyFrom_1 ?_
  refine lv_iconst (v := 0) hx hb dX4_copyFrom_4 (by decide) ?_
  refine lv_aload_n hx hb dX4_copyFrom_5 rfl (lv_at hl 0 rfl) ?_
  refine va_get (D := gD G) (ci := 3) (v := .ref h_se_priorities) (C := RX4) (T := TX4) (N := 5) hx hb hts lk_X4 hown hK hP 1 rfl rfl 0 (by decide) (hts _ fl_RX4_9) (fun _ h9 => h9) rfl dX4_copyFrom_6 ?_
  refine lv_iconst (v := 0) hx hb dX4_copyFrom_9 (by decide) ?_
  refine lv_bipush (v := 9) hx hb dX4_copyFrom_10 (by decide) ?_
  refine va_copyi hx hb (hmL.trans hl.1.symm) hown (hts _ ml_RX4_34) (hts _ nt_java_lang_Systemarraycopy) (hts _ st_java_lang_Systemarraycopy) (hts _ in_RJ10) hK hP hD hS 4 8 1 1 rfl rfl rfl rfl rfl (by decide) (by decide) (by decide) (Nat.le_of_ble_eq_true rfl) (Nat.le_of_ble_eq_true rfl) (fun _ _ => rfl) (Nat.le_of_ble_eq_true rfl) (Nat.le_of_ble_eq_true rfl) dX4_copyFrom_12 (fun H locs hP hD hS => ?_)
  have hP : va_P (gD G) vwCl [(h_ot, .inr (3, [.ref h_ot_priorities, .ref h_ot_associativities, .ref h_ot_symbols, .ref h_ot_letters, .int ot_operands])), (h_se, .inr (3, [.ref h_se_priorities, .ref h_se_associativities, .ref h_se_symbols, .ref h_se_letters, .int se_operands])), (h_ot_associativities, .inl (gI G, 9, .inl ot_associativities)), (h_ot_letters, .inl (gI G, 11, .inl ot_letters)), (h_ot_priorities, .inl (gI G, 9, .inl ot_priorities)), (h_ot_symbols, .inl (gI G, 10, .inl ot_symbols)), (h_se_associativities, .inl (gI G, 9, .inl se_associativities)), (h_se_letters, .inl (gI G, 11, .inl se_letters)), (h_se_priorities, .inl (gI G, 9, .inl (va_cpy ot_priorities se_priorities (Int32.toNatClampNeg 0) (Int32.toNatClampNeg 0) (Int32.toNatClampNeg 9)))), (h_se_symbols, .inl (gI G, 10, .inl se_symbols))] H := hP
  have hD : va_D A [(h_ot, .inr (3, [.ref h_ot_priorities, .ref h_ot_associativities, .ref h_ot_symbols, .ref h_ot_letters, .int ot_operands])), (h_se, .inr (3, [.ref h_se_priorities, .ref h_se_associativities, .ref h_se_symbols, .ref h_se_letters, .int se_operands])), (h_ot_associativities, .inl (gI G, 9, .inl ot_associativities)), (h_ot_letters, .inl (gI G, 11, .inl ot_letters)), (h_ot_priorities, .inl (gI G, 9, .inl ot_priorities)), (h_ot_symbols, .inl (gI G, 10, .inl ot_symbols)), (h_se_associativities, .inl (gI G, 9, .inl se_associativities)), (h_se_letters, .inl (gI G, 11, .inl se_letters)), (h_se_priorities, .inl (gI G, 9, .inl (va_cpy ot_priorities se_priorities (Int32.toNatClampNeg 0) (Int32.toNatClampNeg 0) (Int32.toNatClampNeg 9)))), (h_se_symbols, .inl (gI G, 10, .inl se_symbols))] := hD
  refine lv_aload_n hx hb dX4_copyFrom_15 rfl (lv_at hl 1 rfl) ?_
  refine va_get (D := gD G) (ci := 3) (v := .ref h_ot_associativities) (C := RX4) (T := TX4) (N := 5) hx hb hts lk_X4 hown hK hP 0 rfl rfl 1 (by decide) (hts _ fl_RX4_15) (fun _ h9 => h9) rfl dX4_copyFrom_16 ?_
  refine lv_iconst (v := 0) hx hb dX4_copyFrom_19 (by decide) ?_
  refine lv_aload_n hx hb dX4_copyFrom_20 rfl (lv_at hl 0 rfl) ?_
  refine va_get (D := gD G) (ci := 3) (v := .ref h_se_associativities) (C := RX4) (T := TX4) (N := 5) hx hb hts lk_X4 hown hK hP 1 rfl rfl 1 (by decide) (hts _ fl_RX4_15) (fun _ h9 => h9) rfl dX4_copyFrom_21 ?_
  refine lv_iconst (v := 0) hx hb dX4_copyFrom_24 (by decide) ?_
  refine lv_bipush (v := 9) hx hb dX4_copyFrom_25 (by decide) ?_
  refine va_copyi hx hb (hmL.trans hl.1.symm) hown (hts _ ml_RX4_34) (hts _ nt_java_lang_Systemarraycopy) (hts _ st_java_lang_Systemarraycopy) (hts _ in_RJ10) hK hP hD hS 2 6 1 1 rfl rfl rfl rfl rfl (by decide) (by decide) (by decide) (Nat.le_of_ble_eq_true rfl) (Nat.le_of_ble_eq_true rfl) (fun _ _ => rfl) (Nat.le_of_ble_eq_true rfl) (Nat.le_of_ble_eq_true rfl) dX4_copyFrom_27 (fun H locs hP hD hS => ?_)
  have hP : va_P (gD G) vwCl [(h_ot, .inr (3, [.ref h_ot_priorities, .ref h_ot_associativities, .ref h_ot_symbols, .ref h_ot_letters, .int ot_operands])), (h_se, .inr (3, [.ref h_se_priorities, .ref h_se_associativities, .ref h_se_symbols, .ref h_se_letters, .int se_operands])), (h_ot_associativities, .inl (gI G, 9, .inl ot_associativities)), (h_ot_letters, .inl (gI G, 11, .inl ot_letters)), (h_ot_priorities, .inl (gI G, 9, .inl ot_priorities)), (h_ot_symbols, .inl (gI G, 10, .inl ot_symbols)), (h_se_associativities, .inl (gI G, 9, .inl (va_cpy ot_associativities se_associativities (Int32.toNatClampNeg 0) (Int32.toNatClampNeg 0) (Int32.toNatClampNeg 9)))), (h_se_letters, .inl (gI G, 11, .inl se_letters)), (h_se_priorities, .inl (gI G, 9, .inl (va_cpy ot_priorities se_priorities (Int32.toNatClampNeg 0) (Int32.toNatClampNeg 0) (Int32.toNatClampNeg 9)))), (h_se_symbols, .inl (gI G, 10, .inl se_symbols))] H := hP
  have hD : va_D A [(h_ot, .inr (3, [.ref h_ot_priorities, .ref h_ot_associativities, .ref h_ot_symbols, .ref h_ot_letters, .int ot_operands])), (h_se, .inr (3, [.ref h_se_priorities, .ref h_se_associativities, .ref h_se_symbols, .ref h_se_letters, .int se_operands])), (h_ot_associativities, .inl (gI G, 9, .inl ot_associativities)), (h_ot_letters, .inl (gI G, 11, .inl ot_letters)), (h_ot_priorities, .inl (gI G, 9, .inl ot_priorities)), (h_ot_symbols, .inl (gI G, 10, .inl ot_symbols)), (h_se_associativities, .inl (gI G, 9, .inl (va_cpy ot_associativities se_associativities (Int32.toNatClampNeg 0) (Int32.toNatClampNeg 0) (Int32.toNatClampNeg 9)))), (h_se_letters, .inl (gI G, 11, .inl se_letters)), (h_se_priorities, .inl (gI G, 9, .inl (va_cpy ot_priorities se_priorities (Int32.toNatClampNeg 0) (Int32.toNatClampNeg 0) (Int32.toNatClampNeg 9)))), (h_se_symbols, .inl (gI G, 10, .inl se_symbols))] := hD
  refine lv_aload_n hx hb dX4_copyFrom_30 rfl (lv_at hl 1 rfl) ?_
  refine va_get (D := gD G) (ci := 3) (v := .ref h_ot_symbols) (C := RX4) (T := TX4) (N := 5) hx hb hts lk_X4 hown hK hP 0 rfl rfl 2 (by decide) (hts _ fl_RX4_18) (fun _ h9 => h9) rfl dX4_copyFrom_31 ?_
  refine lv_iconst (v := 0) hx hb dX4_copyFrom_34 (by decide) ?_
  refine lv_aload_n hx hb dX4_copyFrom_35 rfl (lv_at hl 0 rfl) ?_
  refine va_get (D := gD G) (ci := 3) (v := .ref h_se_symbols) (C := RX4) (T := TX4) (N := 5) hx hb hts lk_X4 hown hK hP 1 rfl rfl 2 (by decide) (hts _ fl_RX4_18) (fun _ h9 => h9) rfl dX4_copyFrom_36 ?_
  refine lv_iconst (v := 0) hx hb dX4_copyFrom_39 (by decide) ?_
  refine lv_bipush (v := 10) hx hb dX4_copyFrom_40 (by decide) ?_
  refine va_copyi hx hb (hmL.trans hl.1.symm) hown (hts _ ml_RX4_34) (hts _ nt_java_lang_Systemarraycopy) (hts _ st_java_lang_Systemarraycopy) (hts _ in_RJ10) hK hP hD hS 5 9 1 1 rfl rfl rfl rfl rfl (by decide) (by decide) (by decide) (Nat.le_of_ble_eq_true rfl) (Nat.le_of_ble_eq_true rfl) (fun _ _ => rfl) (Nat.le_of_ble_eq_true rfl) (Nat.le_of_ble_eq_true rfl) dX4_copyFrom_42 (fun H locs hP hD hS => ?_)
  have hP : va_P (gD G) vwCl [(h_ot, .inr (3, [.ref h_ot_priorities, .ref h_ot_associativities, .ref h_ot_symbols, .ref h_ot_letters, .int ot_operands])), (h_se, .inr (3, [.ref h_se_priorities, .ref h_se_associativities, .ref h_se_symbols, .ref h_se_letters, .int se_operands])), (h_ot_associativities, .inl (gI G, 9, .inl ot_associativities)), (h_ot_letters, .inl (gI G, 11, .inl ot_letters)), (h_ot_priorities, .inl (gI G, 9, .inl ot_priorities)), (h_ot_symbols, .inl (gI G, 10, .inl ot_symbols)), (h_se_associativities, .inl (gI G, 9, .inl (va_cpy ot_associativities se_associativities (Int32.toNatClampNeg 0) (Int32.toNatClampNeg 0) (Int32.toNatClampNeg 9)))), (h_se_letters, .inl (gI G, 11, .inl se_letters)), (h_se_priorities, .inl (gI G, 9, .inl (va_cpy ot_priorities se_priorities (Int32.toNatClampNeg 0) (Int32.toNatClampNeg 0) (Int32.toNatClampNeg 9)))), (h_se_symbols, .inl (gI G, 10, .inl (va_cpy ot_symbols se_symbols (Int32.toNatClampNeg 0) (Int32.toNatClampNeg 0) (Int32.toNatClampNeg 10))))] H := hP
  have hD : va_D A [(h_ot, .inr (3, [.ref h_ot_priorities, .ref h_ot_associativities, .ref h_ot_symbols, .ref h_ot_letters, .int ot_operands])), (h_se, .inr (3, [.ref h_se_priorities, .ref h_se_associativities, .ref h_se_symbols, .ref h_se_letters, .int se_operands])), (h_ot_associativities, .inl (gI G, 9, .inl ot_associativities)), (h_ot_letters, .inl (gI G, 11, .inl ot_letters)), (h_ot_priorities, .inl (gI G, 9, .inl ot_priorities)), (h_ot_symbols, .inl (gI G, 10, .inl ot_symbols)), (h_se_associativities, .inl (gI G, 9, .inl (va_cpy ot_associativities se_associativities (Int32.toNatClampNeg 0) (Int32.toNatClampNeg 0) (Int32.toNatClampNeg 9)))), (h_se_letters, .inl (gI G, 11, .inl se_letters)), (h_se_priorities, .inl (gI G, 9, .inl (va_cpy ot_priorities se_priorities (Int32.toNatClampNeg 0) (Int32.toNatClampNeg 0) (Int32.toNatClampNeg 9)))), (h_se_symbols, .inl (gI G, 10, .inl (va_cpy ot_symbols se_symbols (Int32.toNatClampNeg 0) (Int32.toNatClampNeg 0) (Int32.toNatClampNeg 10))))] := hD
  refine lv_aload_n hx hb dX4_copyFrom_45 rfl (lv_at hl 1 rfl) ?_
  refine va_get (D := gD G) (ci := 3) (v := .ref h_ot_letters) (C := RX4) (T := TX4) (N := 5) hx hb hts lk_X4 hown hK hP 0 rfl rfl 3 (by decide) (hts _ fl_RX4_21) (fun _ h9 => h9) rfl dX4_copyFrom_46 ?_
  refine lv_iconst (v := 0) hx hb dX4_copyFrom_49 (by decide) ?_
  refine lv_aload_n hx hb dX4_copyFrom_50 rfl (lv_at hl 0 rfl) ?_
  refine va_get (D := gD G) (ci := 3) (v := .ref h_se_letters) (C := RX4) (T := TX4) (N := 5) hx hb hts lk_X4 hown hK hP 1 rfl rfl 3 (by decide) (hts _ fl_RX4_21) (fun _ h9 => h9) rfl dX4_copyFrom_51 ?_
  refine lv_iconst (v := 0) hx hb dX4_copyFrom_54 (by decide) ?_
  refine lv_bipush (v := 11) hx hb dX4_copyFrom_55 (by decide) ?_
  refine va_copyi hx hb (hmL.trans hl.1.symm) hown (hts _ ml_RX4_34) (hts _ nt_java_lang_Systemarraycopy) (hts _ st_java_lang_Systemarraycopy) (hts _ in_RJ10) hK hP hD hS 3 7 1 1 rfl rfl rfl rfl rfl (by decide) (by decide) (by decide) (Nat.le_of_ble_eq_true rfl) (Nat.le_of_ble_eq_true rfl) (fun _ _ => rfl) (Nat.le_of_ble_eq_true rfl) (Nat.le_of_ble_eq_true rfl) dX4_copyFrom_57 (fun H locs hP hD hS => ?_)
  have hP : va_P (gD G) vwCl [(h_ot, .inr (3, [.ref h_ot_priorities, .ref h_ot_associativities, .ref h_ot_symbols, .ref h_ot_letters, .int ot_operands])), (h_se, .inr (3, [.ref h_se_priorities, .ref h_se_associativities, .ref h_se_symbols, .ref h_se_letters, .int se_operands])), (h_ot_associativities, .inl (gI G, 9, .inl ot_associativities)), (h_ot_letters, .inl (gI G, 11, .inl ot_letters)), (h_ot_priorities, .inl (gI G, 9, .inl ot_priorities)), (h_ot_symbols, .inl (gI G, 10, .inl ot_symbols)), (h_se_associativities, .inl (gI G, 9, .inl (va_cpy ot_associativities se_associativities (Int32.toNatClampNeg 0) (Int32.toNatClampNeg 0) (Int32.toNatClampNeg 9)))), (h_se_letters, .inl (gI G, 11, .inl (va_cpy ot_letters se_letters (Int32.toNatClampNeg 0) (Int32.toNatClampNeg 0) (Int32.toNatClampNeg 11)))), (h_se_priorities, .inl (gI G, 9, .inl (va_cpy ot_priorities se_priorities (Int32.toNatClampNeg 0) (Int32.toNatClampNeg 0) (Int32.toNatClampNeg 9)))), (h_se_symbols, .inl (gI G, 10, .inl (va_cpy ot_symbols se_symbols (Int32.toNatClampNeg 0) (Int32.toNatClampNeg 0) (Int32.toNatClampNeg 10))))] H := hP
  have hD : va_D A [(h_ot, .inr (3, [.ref h_ot_priorities, .ref h_ot_associativities, .ref h_ot_symbols, .ref h_ot_letters, .int ot_operands])), (h_se, .inr (3, [.ref h_se_priorities, .ref h_se_associativities, .ref h_se_symbols, .ref h_se_letters, .int se_operands])), (h_ot_associativities, .inl (gI G, 9, .inl ot_associativities)), (h_ot_letters, .inl (gI G, 11, .inl ot_letters)), (h_ot_priorities, .inl (gI G, 9, .inl ot_priorities)), (h_ot_symbols, .inl (gI G, 10, .inl ot_symbols)), (h_se_associativities, .inl (gI G, 9, .inl (va_cpy ot_associativities se_associativities (Int32.toNatClampNeg 0) (Int32.toNatClampNeg 0) (Int32.toNatClampNeg 9)))), (h_se_letters, .inl (gI G, 11, .inl (va_cpy ot_letters se_letters (Int32.toNatClampNeg 0) (Int32.toNatClampNeg 0) (Int32.toNatClampNeg 11)))), (h_se_priorities, .inl (gI G, 9, .inl (va_cpy ot_priorities se_priorities (Int32.toNatClampNeg 0) (Int32.toNatClampNeg 0) (Int32.toNatClampNeg 9)))), (h_se_symbols, .inl (gI G, 10, .inl (va_cpy ot_symbols se_symbols (Int32.toNatClampNeg 0) (Int32.toNatClampNeg 0) (Int32.toNatClampNeg 10))))] := hD
  refine lv_aload_n hx hb dX4_copyFrom_60 rfl (lv_at hl 0 rfl) ?_
  refine lv_aload_n hx hb dX4_copyFrom_61 rfl (lv_at hl 1 rfl) ?_
  refine va_get (D := gD G) (ci := 3) (v := .int ot_operands) (C := RX4) (T := TX4) (N := 5) hx hb hts lk_X4 hown hK hP 0 rfl rfl 4 (by decide) (hts _ fl_RX4_24) (fun _ h9 => h9) rfl dX4_copyFrom_62 ?_
  refine va_put (D := gD G) (ci := 3) (v := .int ot_operands) (ty := .int) (C := RX4) (T := TX4) (N := 5) hx hb hts lk_X4 tyX4 tyX4_ok nmX4 hown hK hP hD hS 1 rfl rfl 4 (by decide) (hts _ fl_RX4_24) (fun _ h9 => h9) rfl (by decide +kernel) rfl rfl (Nat.le_of_ble_eq_true rfl) dX4_copyFrom_65 (fun H locs hP hD hS => ?_)
  have hP : va_P (gD G) vwCl [(h_ot, .inr (3, [.ref h_ot_priorities, .ref h_ot_associativities, .ref h_ot_symbols, .ref h_ot_letters, .int ot_operands])), (h_se, .inr (3, [.ref h_se_priorities, .ref h_se_associativities, .ref h_se_symbols, .ref h_se_letters, .int ot_operands])), (h_ot_associativities, .inl (gI G, 9, .inl ot_associativities)), (h_ot_letters, .inl (gI G, 11, .inl ot_letters)), (h_ot_priorities, .inl (gI G, 9, .inl ot_priorities)), (h_ot_symbols, .inl (gI G, 10, .inl ot_symbols)), (h_se_associativities, .inl (gI G, 9, .inl (va_cpy ot_associativities se_associativities (Int32.toNatClampNeg 0) (Int32.toNatClampNeg 0) (Int32.toNatClampNeg 9)))), (h_se_letters, .inl (gI G, 11, .inl (va_cpy ot_letters se_letters (Int32.toNatClampNeg 0) (Int32.toNatClampNeg 0) (Int32.toNatClampNeg 11)))), (h_se_priorities, .inl (gI G, 9, .inl (va_cpy ot_priorities se_priorities (Int32.toNatClampNeg 0) (Int32.toNatClampNeg 0) (Int32.toNatClampNeg 9)))), (h_se_symbols, .inl (gI G, 10, .inl (va_cpy ot_symbols se_symbols (Int32.toNatClampNeg 0) (Int32.toNatClampNeg 0) (Int32.toNatClampNeg 10))))] H := hP
  have hD : va_D A [(h_ot, .inr (3, [.ref h_ot_priorities, .ref h_ot_associativities, .ref h_ot_symbols, .ref h_ot_letters, .int ot_operands])), (h_se, .inr (3, [.ref h_se_priorities, .ref h_se_associativities, .ref h_se_symbols, .ref h_se_letters, .int ot_operands])), (h_ot_associativities, .inl (gI G, 9, .inl ot_associativities)), (h_ot_letters, .inl (gI G, 11, .inl ot_letters)), (h_ot_priorities, .inl (gI G, 9, .inl ot_priorities)), (h_ot_symbols, .inl (gI G, 10, .inl ot_symbols)), (h_se_associativities, .inl (gI G, 9, .inl (va_cpy ot_associativities se_associativities (Int32.toNatClampNeg 0) (Int32.toNatClampNeg 0) (Int32.toNatClampNeg 9)))), (h_se_letters, .inl (gI G, 11, .inl (va_cpy ot_letters se_letters (Int32.toNatClampNeg 0) (Int32.toNatClampNeg 0) (Int32.toNatClampNeg 11)))), (h_se_priorities, .inl (gI G, 9, .inl (va_cpy ot_priorities se_priorities (Int32.toNatClampNeg 0) (Int32.toNatClampNeg 0) (Int32.toNatClampNeg 9)))), (h_se_symbols, .inl (gI G, 10, .inl (va_cpy ot_symbols se_symbols (Int32.toNatClampNeg 0) (Int32.toNatClampNeg 0) (Int32.toNatClampNeg 10))))] := hD
  cases h
  exact hret (fun _ => 0) _ _ _ _ hP hD hS dX4_copyFrom_68
abbrev rm_X3_reset : Room := { frames := 0, cells := 0, slots := 0, locals := 0 }
theorem km_X3_reset : KM yX3_reset cX3_reset 1 none 0 := ⟨co_X3_reset, in_RX3, by decide +kernel⟩
set_option maxHeartbeats 4000000 in
set_option maxRecDepth 100000 in
theorem c_X3_reset (F : Nat) (l : Launch) (G : GT) (h_hi h_hi_states : Nat) (hi_size : Int32) (sz : Nat) (out : Int32) (h : f_X3_reset F hi_size = some out) : Cv G l yX3_reset cX3_reset 1 none rm_X3_reset [.ref h_hi] [(h_hi, .inr (2, [.ref h_hi_states, .int hi_size]))] sz (fun _ => [(h_hi, .inr (2, [.ref h_hi_states, .int out]))]) := by
  refine Cv.start (by decide) (Nat.le_of_ble_eq_true rfl) ?_
  intro p e s m args below meth c A Q H locs ls hB hP hD hS hl hret
  obtain ⟨hx, hb, hmL, hr, hown, hts, hlocks, hnm, hA, hE⟩ := id hB
  obtain ⟨hK, hN, hV, hR, hZ, hZq, hAO⟩ := id hE
  have hown : s.vm.findClass RX3 = some m.cls := hown
  have hl : lv_has ls 1 [(0, .ref h_hi)] := hl
  rw [f_X3_reset] at h
  refine lv_aload_n hx hb dX3_reset_0 rfl (lv_at hl 0 rfl) ?_
  refine lv_iconst (v := 0) hx hb dX3_reset_1 (by decide) ?_
  refine va_put (D := gD G) (ci := 2) (v := .int 0) (ty := .int) (C := RX3) (T := TX3) (N := 2) hx hb hts lk_X3 tyX3 tyX3_ok nmX3 hown hK hP hD hS 0 rfl rfl 1 (by decide) (hts _ fl_RX3_17) (fun _ h9 => h9) rfl (by decide +kernel) rfl rfl (Nat.le_of_ble_eq_true rfl) dX3_reset_2 (fun H locs hP hD hS => ?_)
  have hP : va_P (gD G) vwCl [(h_hi, .inr (2, [.ref h_hi_states, .int 0]))] H := hP
  have hD : va_D A [(h_hi, .inr (2, [.ref h_hi_states, .int 0]))] := hD
  cases h
  exact hret (fun _ => 0) _ _ _ _ hP hD hS dX3_reset_5
