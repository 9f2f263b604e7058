abbrev rm_X4_putOperand : Room := { frames := 0, cells := 0, slots := 0, locals := 0 }
theorem km_X4_putOperand : KM yX4_putOperand cX4_putOperand 3 (some .boolean) 2 := ⟨co_X4_putOperand, in_RX4, by decide +kernel⟩
set_option maxHeartbeats 4000000 in
set_option maxRecDepth 100000 in
theorem c_X4_putOperand (F : Nat) (l : Launch) (G : GT) (h_se h_se_priorities h_se_associativities h_se_symbols h_se_letters : Nat) (se_operands : Int32) (se_letters : Nat → Int32) (p1 : Int32) (p2 : Int32) (sz : Nat) (out : Int32 × (Nat → Int32)) (h : f_X4_putOperand F p1 p2 se_letters = some out) : Ci G l yX4_putOperand cX4_putOperand 3 (some .boolean) rm_X4_putOperand [.ref h_se, .int p1, .int p2] [(h_se, .inr (3, [.ref h_se_priorities, .ref h_se_associativities, .ref h_se_symbols, .ref h_se_letters, .int se_operands])), (h_se_letters, .inl (gI G, 11, .inl se_letters))] sz (out.1) (fun _ => [(h_se, .inr (3, [.ref h_se_priorities, .ref h_se_associativities, .ref h_se_symbols, .ref h_se_letters, .int se_operands])), (h_se_letters, .inl (gI G, 11, .inl (out.2)))]) := by
  refine Ci.start rfl (by decide) (Nat.le_of_ble_eq_true rfl) ?_
  intro p e s m args below meth c A Q H locs ls hB hP hD hS hl hret
  obtain ⟨hx, hb, hmL, hr, hown, hts, hlocks, hnm, hA, hE⟩ := id hB
  obtain ⟨hK, hN, hV, hR, hZ, hZq, hAO⟩ := id hE
  have hown : s.vm.findClass RX4 = some m.cls := hown
  have hl : lv_has ls 3 [(0, .ref h_se), (1, .int p1), (2, .int p2)] := hl
  rw [f_X4_putOperand] at h
  refine lv_iload_n hx hb dX4_putOperand_0 rfl (lv_at hl 2 rfl) ?_
  refine lv_bipush (v := 97) hx hb dX4_putOperand_1 (by decide) ?_
  refine lv_icmp_lt (tgt := 12) hx hb dX4_putOperand_3 (by decide) (fun c3 => ?_) (fun c3 => ?_)
  · have h := ip c3 h
    refine lv_iconst (v := 0) hx hb dX4_putOperand_12 (by decide) ?_
    cases h
    exact hret (fun _ => 0) _ _ _ _ hP hD hS (nz (Or.inl rfl)) dX4_putOperand_13
  · have h := ing c3 h
    refine lv_iload_n hx hb dX4_putOperand_6 rfl (lv_at hl 2 rfl) ?_
    refine lv_bipush (v := 122) hx hb dX4_putOperand_7 (by decide) ?_
    refine lv_icmp_le (tgt := 14) hx hb dX4_putOperand_9 (by decide) (fun c9 => ?_) (fun c9 => ?_)
    · have h := ip c9 h
      refine lv_aload_n hx hb dX4_putOperand_14 rfl (lv_at hl 0 rfl) ?_
      refine va_get (D := gD G) (ci := 3) (v := .ref h_se_letters) (C := RX4) (T := TX4) (N := 5) hx hb hts lk_X4 hown hK hP 0 rfl rfl 3 (by decide) (hts _ fl_RX4_21) (fun _ h9 => h9) rfl dX4_putOperand_15 ?_
      refine lv_iload_n hx hb dX4_putOperand_18 rfl (lv_at hl 1 rfl) ?_
      refine lv_iload_n hx hb dX4_putOperand_19 rfl (lv_at hl 2 rfl) ?_
      refine lv_bipush (v := 97) hx hb dX4_putOperand_20 (by decide) ?_
      refine lv_isub hx hb dX4_putOperand_22 ?_
      obtain ⟨g23, h⟩ := gda h
      refine va_iast hx hb hK hP hD hS 1 1 rfl rfl g23 dX4_putOperand_23 (fun H locs hP hD hS => ?_)
      have hP : va_P (gD G) vwCl [(h_se, .inr (3, [.ref h_se_priorities, .ref h_se_associativities, .ref h_se_symbols, .ref h_se_letters, .int se_operands])), (h_se_letters, .inl (gI G, 11, .inl (upd se_letters (Int32.toNatClampNeg p1) (p2 - 97))))] H := hP
      have hD : va_D A [(h_se, .inr (3, [.ref h_se_priorities, .ref h_se_associativities, .ref h_se_symbols, .ref h_se_letters, .int se_operands])), (h_se_letters, .inl (gI G, 11, .inl (upd se_letters (Int32.toNatClampNeg p1) (p2 - 97))))] := hD
      refine lv_iconst (v := 1) hx hb dX4_putOperand_24 (by decide) ?_
      cases h
      exact hret (fun _ => 0) _ _ _ _ hP hD hS (nz (Or.inr rfl)) dX4_putOperand_25
    · have h := ing c9 h
      refine lv_iconst (v := 0) hx hb dX4_putOperand_12 (by decide) ?_
      cases h
      exact hret (fun _ => 0) _ _ _ _ hP hD hS (nz (Or.inl rfl)) dX4_putOperand_13
abbrev rm_X4_putOperator : Room := { frames := 4, cells := 0, slots := 0, locals := 106 }
theorem km_X4_putOperator : KM yX4_putOperator cX4_putOperator 4 (some .boolean) 2 := ⟨co_X4_putOperator, in_RX4, by decide +kernel⟩
set_option maxHeartbeats 4000000 in
set_option maxRecDepth 100000 in
theorem c_X4_putOperator (F : Nat) (l : Launch) (G : GT) (h_se h_se_priorities h_se_associativities h_se_symbols h_se_letters : Nat) (se_operands : Int32) (se_priorities : Nat → Int32) (se_symbols : Nat → Int32) (p1 : Int32) (p2 : Int32) (sz : Nat) (out : Int32 × (Nat → Int32)) (h : f_X4_putOperator F p1 p2 se_priorities se_symbols = some out) : Ci G l yX4_putOperator cX4_putOperator 4 (some .boolean) rm_X4_putOperator [.ref h_se, .int p1, .int p2] [(h_se, .inr (3, [.ref h_se_priorities, .ref h_se_associativities, .ref h_se_symbols, .ref h_se_letters, .int se_operands])), (h_se_priorities, .inl (gI G, 9, .inl se_priorities)), (h_se_symbols, .inl (gI G, 10, .inl se_symbols))] sz (out.1) (fun _ => [(h_se, .inr (3, [.ref h_se_priorities, .ref h_se_associativities, .ref h_se_symbols, .ref h_se_letters, .int se_operands])), (h_se_priorities, .inl (gI G, 9, .inl se_priorities)), (h_se_symbols, .inl (gI G, 10, .inl (out.2)))]) := by
  refine Ci.start rfl (by decide) (Nat.le_of_ble_eq_true rfl) ?_
  intro p e s m args below meth c A Q H locs ls hB hP hD hS hl hret
  obtain ⟨hx, hb, hmL, hr, hown, hts, hlocks, hnm, hA, hE⟩ := id hB
  obtain ⟨hK, hN, hV, hR, hZ, hZq, hAO⟩ := id hE
  have hown : s.vm.findClass RX4 = some m.cls := hown
  have hl : lv_has ls 4 [(0, .ref h_se), (1, .int p1), (2, .int p2)] := hl
  rw [f_X4_putOperator] at h
  refine va_ldcS hx hb hown hR.2.2.1 dX4_putOperator_0 ?_
  refine lv_iload_n hx hb dX4_putOperator_2 rfl (lv_at hl 2 rfl) ?_
  obtain ⟨o3, e3, h⟩ := bd h
  refine Ci.VK (wr := [(h_se, .inr (3, [.ref h_se_priorities, .ref h_se_associativities, .ref h_se_symbols, .ref h_se_letters, .int se_operands])), (h_se_priorities, .inl (gI G, 9, .inl se_priorities)), (h_se_symbols, .inl (gI G, 10, .inl se_symbols))]) (c_J0_indexOf_0f7a4 F l G 1 p2 H.size o3 e3) hB km_J0_indexOf_0f7a4 ⟨im_J0_indexOf_0f7a4, sl_J0_indexOf_0f7a4⟩ ml_RX4_46 hP hD hS hl (vk_recv hV (by decide : 1 < 5) hS) [] [0, 1, 2] ⟨rfl, rfl, ⟨rfl, rfl⟩, by decide⟩ ⟨⟨Nat.le_of_ble_eq_true rfl, Nat.le_of_ble_eq_true rfl⟩, Nat.le_of_ble_eq_true rfl, Nat.le_of_ble_eq_true rfl, Nat.le_of_ble_eq_true rfl⟩ rfl dX4_putOperator_3 (fun z3 H locs hP hD hS => ?_)
  have hP : va_P (gD G) vwCl [(h_se, .inr (3, [.ref h_se_priorities, .ref h_se_associativities, .ref h_se_symbols, .ref h_se_letters, .int se_operands])), (h_se_priorities, .inl (gI G, 9, .inl se_priorities)), (h_se_symbols, .inl (gI G, 10, .inl se_symbols))] H := hP
  have hD : va_D A [(h_se, .inr (3, [.ref h_se_priorities, .ref h_se_associativities, .ref h_se_symbols, .ref h_se_letters, .int se_operands])), (h_se_priorities, .inl (gI G, 9, .inl se_priorities)), (h_se_symbols, .inl (gI G, 10, .inl se_symbols))] := hD
  refine lv_istore_n (lv' := [(3, .int o3), (0, .ref h_se), (1, .int p1), (2, .int p2)]) hx hb dX4_putOperator_6 rfl hl (by decide) rfl (fun ls hl => ?_)
  refine lv_iload_n hx hb dX4_putOperator_7 rfl (lv_at hl 0 rfl) ?_
  refine lv_if_lt (tgt := 19) hx hb dX4_putOperator_8 (by decide) (fun c8 => ?_) (fun c8 => ?_)
  · have h := ip c8 h
    refine lv_iconst (v := 0) hx hb dX4_putOperator_19 (by decide) ?_
    cases h
    exact hret (fun _ => 0) _ _ _ _ hP hD hS (nz (Or.inl rfl)) dX4_putOperator_20
  · have h := ing c8 h
    refine lv_aload_n hx hb dX4_putOperator_11 rfl (lv_at hl 1 rfl) ?_
    refine lv_iload_n hx hb dX4_putOperator_12 rfl (lv_at hl 0 rfl) ?_
    obtain ⟨o13, e13, h⟩ := bd h
    refine Ci.V (wr := [(h_se_symbols, .inl (gI G, 10, .inl se_symbols))]) (c_X4_isDeclared F l G h_se h_se_priorities h_se_associativities h_se_symbols h_se_letters se_operands se_priorities o3 H.size o13 e13) hB km_X4_isDeclared ⟨im_X4_isDeclared, sl_X4_isDeclared⟩ ml_RX4_52 hP hD hS hl ⟨0, 3, _, _, rfl, rfl, rfl⟩ [0, 1] [2] ⟨rfl, rfl, ⟨rfl, rfl⟩, by decide⟩ ⟨⟨Nat.le_of_ble_eq_true rfl, Nat.le_of_ble_eq_true rfl⟩, Nat.le_of_ble_eq_true rfl, Nat.le_of_ble_eq_true rfl, Nat.le_of_ble_eq_true rfl⟩ rfl dX4_putOperator_13 (fun z H locs hP hD hS => ?_)
    have hP : va_P (gD G) vwCl [(h_se_symbols, .inl (gI G, 10, .inl se_symbols)), (h_se, .inr (3, [.ref h_se_priorities, .ref h_se_associativities, .ref h_se_symbols, .ref h_se_letters, .int se_operands])), (h_se_priorities, .inl (gI G, 9, .inl se_priorities))] H := hP
    have hD : va_D A [(h_se_symbols, .inl (gI G, 10, .inl se_symbols)), (h_se, .inr (3, [.ref h_se_priorities, .ref h_se_associativities, .ref h_se_symbols, .ref h_se_letters, .int se_operands])), (h_se_priorities, .inl (gI G, 9, .inl se_priorities))] := hD
    refine lv_if_ne (tgt := 21) hx hb dX4_putOperator_16 (by decide) (fun c16 => ?_) (fun c16 => ?_)
    · have h := ing c16 h
      refine lv_aload_n hx hb dX4_putOperator_21 rfl (lv_at hl 1 rfl) ?_
      refine va_get (D := gD G) (ci := 3) (v := .ref h_se_symbols) (C := RX4) (T := TX4) (N := 5) hx hb hts lk_X4 hown hK hP 1 rfl rfl 2 (by decide) (hts _ fl_RX4_18) (fun _ h9 => h9) rfl dX4_putOperator_22 ?_
      refine lv_iload_n hx hb dX4_putOperator_25 rfl (lv_at hl 2 rfl) ?_
      refine lv_iload_n hx hb dX4_putOperator_26 rfl (lv_at hl 0 rfl) ?_
      obtain ⟨g27, h⟩ := gda h
      refine va_iast hx hb hK hP hD hS 0 1 rfl rfl g27 dX4_putOperator_27 (fun H locs hP hD hS => ?_)
      have hP : va_P (gD G) vwCl [(h_se_symbols, .inl (gI G, 10, .inl (upd se_symbols (Int32.toNatClampNeg p1) o3))), (h_se, .inr (3, [.ref h_se_priorities, .ref h_se_associativities, .ref h_se_symbols, .ref h_se_letters, .int se_operands])), (h_se_priorities, .inl (gI G, 9, .inl se_priorities))] H := hP
      have hD : va_D A [(h_se_symbols, .inl (gI G, 10, .inl (upd se_symbols (Int32.toNatClampNeg p1) o3))), (h_se, .inr (3, [.ref h_se_priorities, .ref h_se_associativities, .ref h_se_symbols, .ref h_se_letters, .int se_operands])), (h_se_priorities, .inl (gI G, 9, .inl se_priorities))] := hD
      refine lv_iconst (v := 1) hx hb dX4_putOperator_28 (by decide) ?_
      cases h
      exact hret (fun _ => 0) _ _ _ _ (hP.sub [1, 2, 0] rfl) (hD.sub [1, 2, 0] (by decide) rfl) hS (nz (Or.inr rfl)) dX4_putOperator_29
    · have h := ip c16 h
      refine lv_iconst (v := 0) hx hb dX4_putOperator_19 (by decide) ?_
      cases h
      exact hret (fun _ => 0) _ _ _ _ (hP.sub [1, 2, 0] rfl) (hD.sub [1, 2, 0] (by decide) rfl) hS (nz (Or.inl rfl)) dX4_putOperator_20
abbrev rm_X5_hasWord : Room := { frames := 4, cells := 0, slots := 0, locals := 85 }
theorem km_X5_hasWord : KM yX5_hasWord cX5_hasWord 5 (some .boolean) 3 := ⟨co_X5_hasWord, in_RX5, by decide +kernel⟩
set_option maxHeartbeats 4000000 in
set_option maxRecDepth 100000 in
theorem c_X5_hasWord (F : Nat) (l : Launch) (G : GT) (h_te h_te_characters : Nat) (te_length : Int32) (te_characters : Nat → Int32) (p1 : Nat) (p2 : Int32) (p3 : Int32) (sz : Nat) (out : Int32) (h : f_X5_hasWord F p1 p2 p3 te_characters = some out) : Ci G l yX5_hasWord cX5_hasWord 5 (some .boolean) rm_X5_hasWord [.ref h_te, .ref (gK G p1), .int p2, .int p3] [(h_te, .inr (4, [.ref h_te_characters, .int te_length])), (h_te_characters, .inl (gC G, 200, .inl te_characters))] sz out (fun _ => [(h_te, .inr (4, [.ref h_te_characters, .int te_length])), (h_te_characters, .inl (gC G, 200, .inl te_characters))]) := by
  refine Ci.start rfl (by decide) (Nat.le_of_ble_eq_true rfl) ?_
  intro p e s m args below meth c A Q H locs ls hB hP hD hS hl hret
  obtain ⟨hx, hb, hmL, hr, hown, hts, hlocks, hnm, hA, hE⟩ := id hB
  obtain ⟨hK, hN, hV, hR, hZ, hZq, hAO⟩ := id hE
  have hown : s.vm.findClass RX5 = some m.cls := hown
  have hl : lv_has ls 5 [(0, .ref h_te), (1, .ref (gK G p1)), (2, .int p2), (3, .int p3)] := hl
  rw [f_X5_hasWord] at h
  refine lv_iload_n hx hb dX5_hasWord_0 rfl (lv_at hl 3 rfl) ?_
  refine lv_iload_n hx hb dX5_hasWord_1 rfl (lv_at hl 2 rfl) ?_
  refine lv_isub hx hb dX5_hasWord_2 ?_
  refine lv_aload_n hx hb dX5_hasWord_3 rfl (lv_at hl 1 rfl) ?_
  obtain ⟨gk_p1, h⟩ := gdl h
  obtain ⟨o4, e4, h⟩ := bd h
  refine Ci.VK (wr := [(h_te, .inr (4, [.ref h_te_characters, .int te_length])), (h_te_characters, .inl (gC G, 200, .inl te_characters))]) (c_J0_length_8abf5 F l G p1 H.size o4 e4) hB km_J0_length_8abf5 ⟨im_J0_length_8abf5, sl_J0_length_8abf5⟩ ml_RX5_42 hP hD hS hl (vk_recv hV gk_p1 hS) [] [0, 1] ⟨rfl, rfl, ⟨rfl, rfl⟩, by decide⟩ ⟨⟨Nat.le_of_ble_eq_true rfl, Nat.le_of_ble_eq_true rfl⟩, Nat.le_of_ble_eq_true rfl, Nat.le_of_ble_eq_true rfl, Nat.le_of_ble_eq_true rfl⟩ rfl dX5_hasWord_4 (fun z4 H locs hP hD hS => ?_)
  have hP : va_P (gD G) vwCl [(h_te, .inr (4, [.ref h_te_characters, .int te_length])), (h_te_characters, .inl (gC G, 200, .inl te_characters))] H := hP
  have hD : va_D A [(h_te, .inr (4, [.ref h_te_characters, .int te_length])), (h_te_characters, .inl (gC G, 200, .inl te_characters))] := hD
  refine lv_icmp_ge (tgt := 12) hx hb dX5_hasWord_7 (by decide) (fun c7 => ?_) (fun c7 => ?_)
  · have h := ip c7 h
    refine lv_iconst (v := 0) hx hb dX5_hasWord_12 (by decide) ?_
    refine lv_istore (lv' := [(4, .int 0), (0, .ref h_te), (1, .ref (gK G p1)), (2, .int p2), (3, .int p3)]) hx hb dX5_hasWord_13 hl (by decide) rfl (fun ls hl => ?_)
    have Lp15 : ∀ (n : Nat) (v1 : Nat) (v2 : Int32) (v4 : Int32) (X : Option (Int32)) (H : Heap) (locs : List Loc) (ls : Array Slot), va_P (gD G) vwCl [(h_te, .inr (4, [.ref h_te_characters, .int te_length])), (h_te_characters, .inl (gC G, 200, .inl te_characters))] H → va_D A [(h_te, .inr (4, [.ref h_te_characters, .int te_length])), (h_te_characters, .inl (gC G, 200, .inl te_characters))] → va_S A s.heap H locs → lv_has ls 5 [(0, .ref h_te), (1, .ref (gK G v1)), (2, .int v2), (4, .int v4)] → f_X5_hasWord_l15 F v1 v2 te_characters n v4 X = some out → (∀ (_ : True) (H : Heap) (locs : List Loc) (ls : Array Slot), va_P (gD G) vwCl [(h_te, .inr (4, [.ref h_te_characters, .int te_length])), (h_te_characters, .inl (gC G, 200, .inl te_characters))] H → va_D A [(h_te, .inr (4, [.ref h_te_characters, .int te_length])), (h_te_characters, .inl (gC G, 200, .inl te_characters))] → va_S A s.heap H locs → lv_has ls 5 [] → X  = some out → W p l e rm_X5_hasWord s m args below meth c H locs 0 0 Q (F0 m 50 ls [])) → W p l e rm_X5_hasWord s m args below meth c H locs 0 0 Q (F0 m 15 ls []) := by
      intro n
      induction n with
      | zero => intro v1 v2 v4 X H locs ls hP hD hS hl h HX; rw [f_X5_hasWord_l15] at h; cases h
      | succ n ih =>
          intro v1 v2 v4 X H locs ls hP hD hS hl h HX
          rw [f_X5_hasWord_l15] at h
          refine lv_iload hx hb dX5_hasWord_15 (lv_at hl 3 rfl) ?_
          refine lv_aload_n hx hb dX5_hasWord_17 rfl (lv_at hl 1 rfl) ?_
          obtain ⟨gk_v1, h⟩ := gdl h
          obtain ⟨o18, e18, h⟩ := bd h
          refine Ci.VK (wr := [(h_te, .inr (4, [.ref h_te_characters, .int te_length])), (h_te_characters, .inl (gC G, 200, .inl te_characters))]) (c_J0_length_8abf5 F l G v1 H.size o18 e18) hB km_J0_length_8abf5 ⟨im_J0_length_8abf5, sl_J0_length_8abf5⟩ ml_RX5_42 hP hD hS hl (vk_recv hV gk_v1 hS) [] [0, 1] ⟨rfl, rfl, ⟨rfl, rfl⟩, by decide⟩ ⟨⟨Nat.le_of_ble_eq_true rfl, Nat.le_of_ble_eq_true rfl⟩, Nat.le_of_ble_eq_true rfl, Nat.le_of_ble_eq_true rfl, Nat.le_of_ble_eq_true rfl⟩ rfl dX5_hasWord_18 (fun z18 H locs hP hD hS => ?_)
          have hP : va_P (gD G) vwCl [(h_te, .inr (4, [.ref h_te_characters, .int te_length])), (h_te_characters, .inl (gC G, 200, .inl te_characters))] H := hP
          have hD : va_D A [(h_te, .inr (4, [.ref h_te_characters, .int te_length])), (h_te_characters, .inl (gC G, 200, .inl te_characters))] := hD
          refine lv_icmp_ge (tgt := 50) hx hb dX5_hasWord_21 (by decide) (fun c21 => ?_) (fun c21 => ?_)
          · have h := ip c21 h
            exact HX trivial H locs ls hP hD hS (lv_sub hl [] rfl) h
          · have h := ing c21 h
            refine lv_aload_n hx hb dX5_hasWord_24 rfl (lv_at hl 0 rfl) ?_
            refine va_get (D := gD G) (ci := 4) (v := .ref h_te_characters) (C := RX5) (T := TX5) (N := 2) hx hb hts lk_X5 hown hK hP 0 rfl rfl 0 (by decide) (hts _ fl_RX5_9) (fun _ h9 => h9) rfl dX5_hasWord_25 ?_
            refine lv_iload_n hx hb dX5_hasWord_28 rfl (lv_at hl 2 rfl) ?_
            refine lv_iload hx hb dX5_hasWord_29 (lv_at hl 3 rfl) ?_
            refine lv_iadd hx hb dX5_hasWord_31 ?_
            obtain ⟨g32, h⟩ := gda h
            refine va_cald hx hb hK hP 1 0 rfl rfl g32 dX5_hasWord_32 ?_
            refine lv_aload_n hx hb dX5_hasWord_33 rfl (lv_at hl 1 rfl) ?_
            refine lv_iload hx hb dX5_hasWord_34 (lv_at hl 3 rfl) ?_
            obtain ⟨o36, e36, h⟩ := bd h
            refine Ci.VK (wr := [(h_te, .inr (4, [.ref h_te_characters, .int te_length])), (h_te_characters, .inl (gC G, 200, .inl te_characters))]) (c_J0_charAt_5068e F l G v1 v4 H.size o36 e36) hB km_J0_charAt_5068e ⟨im_J0_charAt_5068e, sl_J0_charAt_5068e⟩ ml_RX5_47 hP hD hS hl (vk_recv hV gk_v1 hS) [] [0, 1] ⟨rfl, rfl, ⟨rfl, rfl⟩, by decide⟩ ⟨⟨Nat.le_of_ble_eq_true rfl, Nat.le_of_ble_eq_true rfl⟩, Nat.le_of_ble_eq_true rfl, Nat.le_of_ble_eq_true rfl, Nat.le_of_ble_eq_true rfl⟩ rfl dX5_hasWord_36 (fun z36 H locs hP hD hS => ?_)
            have hP : va_P (gD G) vwCl [(h_te, .inr (4, [.ref h_te_characters, .int te_length])), (h_te_characters, .inl (gC G, 200, .inl te_characters))] H := hP
            have hD : va_D A [(h_te, .inr (4, [.ref h_te_characters, .int te_length])), (h_te_characters, .inl (gC G, 200, .inl te_characters))] := hD
            refine lv_icmp_eq (tgt := 44) hx hb dX5_hasWord_39 (by decide) (fun c39 => ?_) (fun c39 => ?_)
            · have h := ip c39 h
              refine lv_iinc (v := (v4 + 1)) (lv' := [(4, .int (v4 + 1)), (0, .ref h_te), (1, .ref (gK G v1)), (2, .int v2)]) hx hb dX5_hasWord_44 hl (k := 3) rfl rfl (by decide) rfl (fun ls hl => ?_)
              refine lv_goto (tgt := 15) hx hb dX5_hasWord_47 (by decide) ?_
              exact ih v1 v2 (v4 + 1) X H locs ls hP hD hS (lv_sub hl [1, 2, 3, 0] rfl) h HX
            · have h := ing c39 h
              refine lv_iconst (v := 0) hx hb dX5_hasWord_42 (by decide) ?_
              cases h
              exact hret (fun _ => 0) _ _ _ _ hP hD hS (nz (Or.inl rfl)) dX5_hasWord_43
    refine Lp15 F p1 p2 0 _ H locs ls hP hD hS (lv_sub hl [1, 2, 3, 0] rfl) h (fun _ H locs ls hP hD hS hl h => ?_)
    refine lv_iconst (v := 1) hx hb dX5_hasWord_50 (by decide) ?_
    cases h
    exact hret (fun _ => 0) _ _ _ _ hP hD hS (nz (Or.inr rfl)) dX5_hasWord_51
  · have h := ing c7 h
    refine lv_iconst (v := 0) hx hb dX5_hasWord_10 (by decide) ?_
    cases h
    exact hret (fun _ => 0) _ _ _ _ hP hD hS (nz (Or.inl rfl)) dX5_hasWord_11
abbrev rm_X5_parseDeclaration : Room := { frames := 4, cells := 0, slots := 0, locals := 106 }
theorem km_X5_parseDeclaration : KM yX5_parseDeclaration cX5_parseDeclaration 7 (some .boolean) 3 := ⟨co_X5_parseDeclaration, in_RX5, by decide +kernel⟩
set_option maxHeartbeats 4000000 in
set_option maxRecDepth 100000 in
theorem c_X5_parseDeclaration (F : Nat) (l : Launch) (G : GT) (h_se h_se_priorities h_se_associativities h_se_symbols h_se_letters h_te h_te_characters : Nat) (se_operands : Int32) (te_length : Int32) (se_associativities : Nat → Int32) (se_priorities : Nat → Int32) (te_characters : Nat → Int32) (p1 : Int32) (p2 : Int32) (sz : Nat) (out : Int32 × (Nat → Int32) × (Nat → Int32)) (h : f_X5_parseDeclaration F p1 p2 se_associativities se_priorities te_characters = some out) : Ci G l yX5_parseDeclaration cX5_parseDeclaration 7 (some .boolean) rm_X5_parseDeclaration [.ref h_te, .int p1, .int p2, .ref h_se] [(h_se, .inr (3, [.ref h_se_priorities, .ref h_se_associativities, .ref h_se_symbols, .ref h_se_letters, .int se_operands])), (h_te, .inr (4, [.ref h_te_characters, .int te_length])), (h_se_associativities, .inl (gI G, 9, .inl se_associativities)), (h_se_priorities, .inl (gI G, 9, .inl se_priorities)), (h_te_characters, .inl (gC G, 200, .inl te_characters))] sz (out.1) (fun _ => [(h_se, .inr (3, [.ref h_se_priorities, .ref h_se_associativities, .ref h_se_symbols, .ref h_se_letters, .int se_operands])), (h_te, .inr (4, [.ref h_te_characters, .int te_length])), (h_se_associativities, .inl (gI G, 9, .inl (out.2.1))), (h_se_priorities, .inl (gI G, 9, .inl (out.2.2))), (h_te_characters, .inl (gC G, 200, .inl te_characters))]) := by
  refine Ci.start rfl (by decide) (Nat.le_of_ble_eq_true rfl) ?_
  intro p e s m args below meth c A Q H locs ls hB hP hD hS hl hret
  obtain ⟨hx, hb, hmL, hr, hown, hts, hlocks, hnm, hA, hE⟩ := id hB
  obtain ⟨hK, hN, hV, hR, hZ, hZq, hAO⟩ := id hE
  have hown : s.vm.findClass RX5 = some m.cls := hown
  have hl : lv_has ls 7 [(0, .ref h_te), (1, .int p1), (2, .int p2), (3, .ref h_se)] := hl
  rw [f_X5_parseDeclaration] at h
  refine lv_iload_n hx hb dX5_parseDeclaration_0 rfl (lv_at hl 2 rfl) ?_
  refine lv_iload_n hx hb dX5_parseDeclaration_1 rfl (lv_at hl 1 rfl) ?_
  refine lv_isub hx hb dX5_parseDeclaration_2 ?_
  refine lv_iconst (v := 3) hx hb dX5_parseDeclaration_3 (by decide) ?_
  refine lv_icmp_eq (tgt := 9) hx hb dX5_parseDeclaration_4 (by decide) (fun c4 => ?_) (fun c4 => ?_)
  · have h := ip c4 h
    refine va_ldcS hx hb hown hR.2.1 dX5_parseDeclaration_9 ?_
    refine lv_aload_n hx hb dX5_parseDeclaration_11 rfl (lv_at hl 0 rfl) ?_
    refine va_get (D := gD G) (ci := 4) (v := .ref h_te_characters) (C := RX5) (T := TX5) (N := 2) hx hb hts lk_X5 hown hK hP 1 rfl rfl 0 (by decide) (hts _ fl_RX5_9) (fun _ h9 => h9) rfl dX5_parseDeclaration_12 ?_
    refine lv_iload_n hx hb dX5_parseDeclaration_15 rfl (lv_at hl 1 rfl) ?_
    obtain ⟨g16, h⟩ := gda h
    refine va_cald hx hb hK hP 4 0 rfl rfl g16 dX5_parseDeclaration_16 ?_
    obtain ⟨o17, e17, h⟩ := bd h
    refine Ci.VK (wr := [(h_se, .inr (3, [.ref h_se_priorities, .ref h_se_associativities, .ref h_se_symbols, .ref h_se_letters, .int se_operands])), (h_te, .inr (4, [.ref h_te_characters, .int te_length])), (h_se_associativities, .inl (gI G, 9, .inl se_associativities)), (h_se_priorities, .inl (gI G, 9, .inl se_priorities)), (h_te_characters, .inl (gC G, 200, .inl te_characters))]) (c_J0_indexOf_0f7a4 F l G 1 (te_characters (Int32.toNatClampNeg p1)) H.size o17 e17) hB km_J0_indexOf_0f7a4 ⟨im_J0_indexOf_0f7a4, sl_J0_indexOf_0f7a4⟩ ml_RX5_53 hP hD hS hl (vk_recv hV (by decide : 1 < 5) hS) [] [0, 1, 2, 3, 4] ⟨rfl, rfl, ⟨rfl, rfl⟩, by decide⟩ ⟨⟨Nat.le_of_ble_eq_true rfl, Nat.le_of_ble_eq_true rfl⟩, Nat.le_of_ble_eq_true rfl, Nat.le_of_ble_eq_true rfl, Nat.le_of_ble_eq_true rfl⟩ rfl dX5_parseDeclaration_17 (fun z17 H locs hP hD hS => ?_)
    have hP : va_P (gD G) vwCl [(h_se, .inr (3, [.ref h_se_priorities, .ref h_se_associativities, .ref h_se_symbols, .ref h_se_letters, .int se_operands])), (h_te, .inr (4, [.ref h_te_characters, .int te_length])), (h_se_associativities, .inl (gI G, 9, .inl se_associativities)), (h_se_priorities, .inl (gI G, 9, .inl se_priorities)), (h_te_characters, .inl (gC G, 200, .inl te_characters))] H := hP
    have hD : va_D A [(h_se, .inr (3, [.ref h_se_priorities, .ref h_se_associativities, .ref h_se_symbols, .ref h_se_letters, .int se_operands])), (h_te, .inr (4, [.ref h_te_characters, .int te_length])), (h_se_associativities, .inl (gI G, 9, .inl se_associativities)), (h_se_priorities, .inl (gI G, 9, .inl se_priorities)), (h_te_characters, .inl (gC G, 200, .inl te_characters))] := hD
    refine lv_istore (lv' := [(4, .int o17), (0, .ref h_te), (1, .int p1), (2, .int p2), (3, .ref h_se)]) hx hb dX5_parseDeclaration_20 hl (by decide) rfl (fun ls hl => ?_)
    refine lv_aload_n hx hb dX5_parseDeclaration_22 rfl (lv_at hl 1 rfl) ?_
    refine va_get (D := gD G) (ci := 4) (v := .ref h_te_characters) (C := RX5) (T := TX5) (N := 2) hx hb hts lk_X5 hown hK hP 1 rfl rfl 0 (by decide) (hts _ fl_RX5_9) (fun _ h9 => h9) rfl dX5_parseDeclaration_23 ?_
    refine lv_iload_n hx hb dX5_parseDeclaration_26 rfl (lv_at hl 2 rfl) ?_
    refine lv_iconst (v := 1) hx hb dX5_parseDeclaration_27 (by decide) ?_
    refine lv_iadd hx hb dX5_parseDeclaration_28 ?_
    obtain ⟨g29, h⟩ := gda h
    refine va_cald hx hb hK hP 4 0 rfl rfl g29 dX5_parseDeclaration_29 ?_
    refine lv_istore (lv' := [(5, .int (te_characters (Int32.toNatClampNeg (p1 + 1)))), (4, .int o17), (0, .ref h_te), (1, .int p1), (2, .int p2), (3, .ref h_se)]) hx hb dX5_parseDeclaration_30 hl (by decide) rfl (fun ls hl => ?_)
    refine va_ldcS hx hb hown hR.2.2.2.1 dX5_parseDeclaration_32 ?_
    refine lv_aload_n hx hb dX5_parseDeclaration_34 rfl (lv_at hl 2 rfl) ?_
    refine va_get (D := gD G) (ci := 4) (v := .ref h_te_characters) (C := RX5) (T := TX5) (N := 2) hx hb hts lk_X5 hown hK hP 1 rfl rfl 0 (by decide) (hts _ fl_RX5_9) (fun _ h9 => h9) rfl dX5_parseDeclaration_35 ?_
    refine lv_iload_n hx hb dX5_parseDeclaration_38 rfl (lv_at hl 3 rfl) ?_
    refine lv_iconst (v := 2) hx hb dX5_parseDeclaration_39 (by decide) ?_
    refine lv_iadd hx hb dX5_parseDeclaration_40 ?_
    obtain ⟨g41, h⟩ := gda h
    refine va_cald hx hb hK hP 4 0 rfl rfl g41 dX5_parseDeclaration_41 ?_
    obtain ⟨o42, e42, h⟩ := bd h
    refine Ci.VK (wr := [(h_se, .inr (3, [.ref h_se_priorities, .ref h_se_associativities, .ref h_se_symbols, .ref h_se_letters, .int se_operands])), (h_te, .inr (4, [.ref h_te_characters, .int te_length])), (h_se_associativities, .inl (gI G, 9, .inl se_associativities)), (h_se_priorities, .inl (gI G, 9, .inl se_priorities)), (h_te_characters, .inl (gC G, 200, .inl te_characters))]) (c_J0_indexOf_0f7a4 F l G 2 (te_characters (Int32.toNatClampNeg (p1 + 2))) H.size o42 e42) hB km_J0_indexOf_0f7a4 ⟨im_J0_indexOf_0f7a4, sl_J0_indexOf_0f7a4⟩ ml_RX5_53 hP hD hS hl (vk_recv hV (by decide : 2 < 5) hS) [] [0, 1, 2, 3, 4] ⟨rfl, rfl, ⟨rfl, rfl⟩, by decide⟩ ⟨⟨Nat.le_of_ble_eq_true rfl, Nat.le_of_ble_eq_true rfl⟩, Nat.le_of_ble_eq_true rfl, Nat.le_of_ble_eq_true rfl, Nat.le_of_ble_eq_true rfl⟩ rfl dX5_parseDeclaration_42 (fun z42 H locs hP hD hS => ?_)
    have hP : va_P (gD G) vwCl [(h_se, .inr (3, [.ref h_se_priorities, .ref h_se_associativities, .ref h_se_symbols, .ref h_se_letters, .int se_operands])), (h_te, .inr (4, [.ref h_te_characters, .int te_length])), (h_se_associativities, .inl (gI G, 9, .inl se_associativities)), (h_se_priorities, .inl (gI G, 9, .inl se_priorities)), (h_te_characters, .inl (gC G, 200, .inl te_characters))] H := hP
    have hD : va_D A [(h_se, .inr (3, [.ref h_se_priorities, .ref h_se_associativities, .ref h_se_symbols, .ref h_se_letters, .int se_operands])), (h_te, .inr (4, [.ref h_te_characters, .int te_length])), (h_se_associativities, .inl (gI G, 9, .inl se_associativities)), (h_se_priorities, .inl (gI G, 9, .inl se_priorities)), (h_te_characters, .inl (gC G, 200, .inl te_characters))] := hD
    refine lv_istore (lv' := [(6, .int o42), (5, .int (te_characters (Int32.toNatClampNeg (p1 + 1)))), (4, .int o17), (0, .ref h_te), (1, .int p1), (2, .int p2), (3, .ref h_se)]) hx hb dX5_parseDeclaration_45 hl (by decide) rfl (fun ls hl => ?_)
    refine lv_iload hx hb dX5_parseDeclaration_47 (lv_at hl 2 rfl) ?_
    refine lv_if_lt (tgt := 71) hx hb dX5_parseDeclaration_49 (by decide) (fun c49 => ?_) (fun c49 => ?_)
    · have h := ip c49 h
      refine lv_iconst (v := 0) hx hb dX5_parseDeclaration_71 (by decide) ?_
      cases h
      exact hret (fun _ => 0) _ _ _ _ hP hD hS (nz (Or.inl rfl)) dX5_parseDeclaration_72
    · have h := ing c49 h
      refine lv_iload hx hb dX5_parseDeclaration_52 (lv_at hl 1 rfl) ?_
      refine lv_bipush (v := 48) hx hb dX5_parseDeclaration_54 (by decide) ?_
      refine lv_icmp_lt (tgt := 71) hx hb dX5_parseDeclaration_56 (by decide) (fun c56 => ?_) (fun c56 => ?_)
      · have h := ip c56 h
        refine lv_iconst (v := 0) hx hb dX5_parseDeclaration_71 (by decide) ?_
        cases h
        exact hret (fun _ => 0) _ _ _ _ hP hD hS (nz (Or.inl rfl)) dX5_parseDeclaration_72
      · have h := ing c56 h
        refine lv_iload hx hb dX5_parseDeclaration_59 (lv_at hl 1 rfl) ?_
        refine lv_bipush (v := 57) hx hb dX5_parseDeclaration_61 (by decide) ?_
        refine lv_icmp_gt (tgt := 71) hx hb dX5_parseDeclaration_63 (by decide) (fun c63 => ?_) (fun c63 => ?_)
        · have h := ip c63 h
          refine lv_iconst (v := 0) hx hb dX5_parseDeclaration_71 (by decide) ?_
          cases h
          exact hret (fun _ => 0) _ _ _ _ hP hD hS (nz (Or.inl rfl)) dX5_parseDeclaration_72
        · have h := ing c63 h
          refine lv_iload hx hb dX5_parseDeclaration_66 (lv_at hl 0 rfl) ?_
          refine lv_if_ge (tgt := 73) hx hb dX5_parseDeclaration_68 (by decide) (fun c68 => ?_) (fun c68 => ?_)
          · have h := ip c68 h
            refine lv_aload_n hx hb dX5_parseDeclaration_73 rfl (lv_at hl 6 rfl) ?_
            refine va_getN (D := gD G) (ci := 3) (v := .ref h_se_priorities) (C := RX4) (T := TX4) (N := 5) hx hb hts lk_X4 hown hK hP 0 rfl rfl 0 (by decide) (va_Nw.use rfl (hN _ fn_RX5_59)) (fun _ h9 => h9) rfl dX5_parseDeclaration_74 ?_
            refine lv_iload hx hb dX5_parseDeclaration_77 (lv_at hl 2 rfl) ?_
            refine lv_iload hx hb dX5_parseDeclaration_79 (lv_at hl 1 rfl) ?_
            refine lv_bipush (v := 48) hx hb dX5_parseDeclaration_81 (by decide) ?_
            refine lv_isub hx hb dX5_parseDeclaration_83 ?_
            obtain ⟨g84, h⟩ := gda h
            refine va_iast hx hb hK hP hD hS 3 1 rfl rfl g84 dX5_parseDeclaration_84 (fun H locs hP hD hS => ?_)
            have hP : va_P (gD G) vwCl [(h_se, .inr (3, [.ref h_se_priorities, .ref h_se_associativities, .ref h_se_symbols, .ref h_se_letters, .int se_operands])), (h_te, .inr (4, [.ref h_te_characters, .int te_length])), (h_se_associativities, .inl (gI G, 9, .inl se_associativities)), (h_se_priorities, .inl (gI G, 9, .inl (upd se_priorities (Int32.toNatClampNeg o17) ((te_characters (Int32.toNatClampNeg (p1 + 1))) - 48)))), (h_te_characters, .inl (gC G, 200, .inl te_characters))] H := hP
            have hD : va_D A [(h_se, .inr (3, [.ref h_se_priorities, .ref h_se_associativities, .ref h_se_symbols, .ref h_se_letters, .int se_operands])), (h_te, .inr (4, [.ref h_te_characters, .int te_length])), (h_se_associativities, .inl (gI G, 9, .inl se_associativities)), (h_se_priorities, .inl (gI G, 9, .inl (upd se_priorities (Int32.toNatClampNeg o17) ((te_characters (Int32.toNatClampNeg (p1 + 1))) - 48)))), (h_te_characters, .inl (gC G, 200, .inl te_characters))] := hD
            refine lv_aload_n hx hb dX5_parseDeclaration_85 rfl (lv_at hl 6 rfl) ?_
            refine va_getN (D := gD G) (ci := 3) (v := .ref h_se_associativities) (C := RX4) (T := TX4) (N := 5) hx hb hts lk_X4 hown hK hP 0 rfl rfl 1 (by decide) (va_Nw.use rfl (hN _ fn_RX5_63)) (fun _ h9 => h9) rfl dX5_parseDeclaration_86 ?_
            refine lv_iload hx hb dX5_parseDeclaration_89 (lv_at hl 2 rfl) ?_
            refine lv_iload hx hb dX5_parseDeclaration_91 (lv_at hl 0 rfl) ?_
            obtain ⟨g93, h⟩ := gda h
            refine va_iast hx hb hK hP hD hS 2 1 rfl rfl g93 dX5_parseDeclaration_93 (fun H locs hP hD hS => ?_)
            have hP : va_P (gD G) vwCl [(h_se, .inr (3, [.ref h_se_priorities, .ref h_se_associativities, .ref h_se_symbols, .ref h_se_letters, .int se_operands])), (h_te, .inr (4, [.ref h_te_characters, .int te_length])), (h_se_associativities, .inl (gI G, 9, .inl (upd se_associativities (Int32.toNatClampNeg o17) o42))), (h_se_priorities, .inl (gI G, 9, .inl (upd se_priorities (Int32.toNatClampNeg o17) ((te_characters (Int32.toNatClampNeg (p1 + 1))) - 48)))), (h_te_characters, .inl (gC G, 200, .inl te_characters))] H := hP
            have hD : va_D A [(h_se, .inr (3, [.ref h_se_priorities, .ref h_se_associativities, .ref h_se_symbols, .ref h_se_letters, .int se_operands])), (h_te, .inr (4, [.ref h_te_characters, .int te_length])), (h_se_associativities, .inl (gI G, 9, .inl (upd se_associativities (Int32.toNatClampNeg o17) o42))), (h_se_priorities, .inl (gI G, 9, .inl (upd se_priorities (Int32.toNatClampNeg o17) ((te_characters (Int32.toNatClampNeg (p1 + 1))) - 48)))), (h_te_characters, .inl (gC G, 200, .inl te_characters))] := hD
            refine lv_iconst (v := 1) hx hb dX5_parseDeclaration_94 (by decide) ?_
            cases h
            exact hret (fun _ => 0) _ _ _ _ hP hD hS (nz (Or.inr rfl)) dX5_parseDeclaration_95
          · have h := ing c68 h
            refine lv_iconst (v := 0) hx hb dX5_parseDeclaration_71 (by decide) ?_
            cases h
            exact hret (fun _ => 0) _ _ _ _ hP hD hS (nz (Or.inl rfl)) dX5_parseDeclaration_72
  · have h := ing c4 h
    refine lv_iconst (v := 0) hx hb dX5_parseDeclaration_7 (by decide) ?_
    cases h
    exact hret (fun _ => 0) _ _ _ _ hP hD hS (nz (Or.inl rfl)) dX5_parseDeclaration_8
abbrev rm_X5_parseExpression : Room := { frames := 5, cells := 0, slots := 0, locals := 129 }
theorem km_X5_parseExpression : KM yX5_parseExpression cX5_parseExpression 8 (some .boolean) 3 := ⟨co_X5_parseExpression, in_RX5, by decide +kernel⟩
set_option maxHeartbeats 4000000 in
set_option maxRecDepth 100000 in
theorem c_X5_parseExpression (F : Nat) (l : Launch) (G : GT) (h_se h_se_priorities h_se_associativities h_se_symbols h_se_letters h_te h_te_characters : Nat) (se_operands : Int32) (te_length : Int32) (se_letters : Nat → Int32) (se_priorities : Nat → Int32) (se_symbols : Nat → Int32) (te_characters : Nat → Int32) (p1 : Int32) (p2 : Int32) (sz : Nat) (out : Int32 × (Nat → Int32) × Int32 × (Nat → Int32)) (h : f_X5_parseExpression F p1 p2 se_letters se_operands se_priorities se_symbols te_characters = some out) : Ci G l yX5_parseExpression cX5_parseExpression 8 (some .boolean) rm_X5_parseExpression [.ref h_te, .int p1, .int p2, .ref h_se] [(h_se, .inr (3, [.ref h_se_priorities, .ref h_se_associativities, .ref h_se_symbols, .ref h_se_letters, .int se_operands])), (h_te, .inr (4, [.ref h_te_characters, .int te_length])), (h_se_letters, .inl (gI G, 11, .inl se_letters)), (h_se_priorities, .inl (gI G, 9, .inl se_priorities)), (h_se_symbols, .inl (gI G, 10, .inl se_symbols)), (h_te_characters, .inl (gC G, 200, .inl te_characters))] sz (out.1) (fun _ => [(h_se, .inr (3, [.ref h_se_priorities, .ref h_se_associativities, .ref h_se_symbols, .ref h_se_letters, .int (out.2.2.1)])), (h_te, .inr (4, [.ref h_te_characters, .int te_length])), (h_se_letters, .inl (gI G, 11, .inl (out.2.1))), (h_se_priorities, .inl (gI G, 9, .inl se_priorities)), (h_se_symbols, .inl (gI G, 10, .inl (out.2.2.2))), (h_te_characters, .inl (gC G, 200, .inl te_characters))]) := by
  refine Ci.start rfl (by decide) (Nat.le_of_ble_eq_true rfl) ?_
  intro p e s m args below meth c A Q H locs ls hB hP hD hS hl hret
  obtain ⟨hx, hb, hmL, hr, hown, hts, hlocks, hnm, hA, hE⟩ := id hB
  obtain ⟨hK, hN, hV, hR, hZ, hZq, hAO⟩ := id hE
  have hown : s.vm.findClass RX5 = some m.cls := hown
  have hl : lv_has ls 8 [(0, .ref h_te), (1, .int p1), (2, .int p2), (3, .ref h_se)] := hl
  rw [f_X5_parseExpression] at h
  refine lv_iload_n hx hb dX5_parseExpression_0 rfl (lv_at hl 2 rfl) ?_
  refine lv_iload_n hx hb dX5_parseExpression_1 rfl (lv_at hl 1 rfl) ?_
  refine lv_isub hx hb dX5_parseExpression_2 ?_
  refine lv_istore (lv' := [(4, .int (p2 - p1)), (0, .ref h_te), (1, .int p1), (2, .int p2), (3, .ref h_se)]) hx hb dX5_parseExpression_3 hl (by decide) rfl (fun ls hl => ?_)
  refine lv_aload_n hx hb dX5_parseExpression_5 rfl (lv_at hl 4 rfl) ?_
  obtain ⟨o6, e6, h⟩ := bd h
  refine Ci.V (wr := [(h_te, .inr (4, [.ref h_te_characters, .int te_length])), (h_se_letters, .inl (gI G, 11, .inl se_letters)), (h_se_priorities, .inl (gI G, 9, .inl se_priorities)), (h_se_symbols, .inl (gI G, 10, .inl se_symbols)), (h_te_characters, .inl (gC G, 200, .inl te_characters))]) (c_X4_hasExpression F l G h_se h_se_priorities h_se_associativities h_se_symbols h_se_letters se_operands H.size o6 e6) hB km_X4_hasExpression ⟨im_X4_hasExpression, sl_X4_hasExpression⟩ ml_RX5_66 hP hD hS hl ⟨0, 3, _, _, rfl, rfl, rfl⟩ [0] [1, 2, 3, 4, 5] ⟨rfl, rfl, ⟨rfl, rfl⟩, by decide⟩ ⟨⟨Nat.le_of_ble_eq_true rfl, Nat.le_of_ble_eq_true rfl⟩, Nat.le_of_ble_eq_true rfl, Nat.le_of_ble_eq_true rfl, Nat.le_of_ble_eq_true rfl⟩ rfl dX5_parseExpression_6 (fun z H locs hP hD hS => ?_)
  have hP : va_P (gD G) vwCl [(h_te, .inr (4, [.ref h_te_characters, .int te_length])), (h_se_letters, .inl (gI G, 11, .inl se_letters)), (h_se_priorities, .inl (gI G, 9, .inl se_priorities)), (h_se_symbols, .inl (gI G, 10, .inl se_symbols)), (h_te_characters, .inl (gC G, 200, .inl te_characters)), (h_se, .inr (3, [.ref h_se_priorities, .ref h_se_associativities, .ref h_se_symbols, .ref h_se_letters, .int se_operands]))] H := hP
  have hD : va_D A [(h_te, .inr (4, [.ref h_te_characters, .int te_length])), (h_se_letters, .inl (gI G, 11, .inl se_letters)), (h_se_priorities, .inl (gI G, 9, .inl se_priorities)), (h_se_symbols, .inl (gI G, 10, .inl se_symbols)), (h_te_characters, .inl (gC G, 200, .inl te_characters)), (h_se, .inr (3, [.ref h_se_priorities, .ref h_se_associativities, .ref h_se_symbols, .ref h_se_letters, .int se_operands]))] := hD
  refine lv_if_ne (tgt := 26) hx hb dX5_parseExpression_9 (by decide) (fun c9 => ?_) (fun c9 => ?_)
  · have h := ing c9 h
    refine lv_iconst (v := 0) hx hb dX5_parseExpression_26 (by decide) ?_
    cases h
    exact hret (fun _ => 0) _ _ _ _ (hP.sub [5, 0, 1, 2, 3, 4] rfl) (hD.sub [5, 0, 1, 2, 3, 4] (by decide) rfl) hS (nz (Or.inl rfl)) dX5_parseExpression_27
  · have h := ip c9 h
    refine lv_iload hx hb dX5_parseExpression_12 (lv_at hl 0 rfl) ?_
    refine lv_iconst (v := 2) hx hb dX5_parseExpression_14 (by decide) ?_
    refine lv_irem hx hb dX5_parseExpression_15 (by decide) ?_
    refine lv_if_eq (tgt := 26) hx hb dX5_parseExpression_16 (by decide) (fun c16 => ?_) (fun c16 => ?_)
    · have h := ip c16 h
      refine lv_iconst (v := 0) hx hb dX5_parseExpression_26 (by decide) ?_
      cases h
      exact hret (fun _ => 0) _ _ _ _ (hP.sub [5, 0, 1, 2, 3, 4] rfl) (hD.sub [5, 0, 1, 2, 3, 4] (by decide) rfl) hS (nz (Or.inl rfl)) dX5_parseExpression_27
    · have h := ing c16 h
      refine lv_iload hx hb dX5_parseExpression_19 (lv_at hl 0 rfl) ?_
      refine lv_bipush (v := 21) hx hb dX5_parseExpression_21 (by decide) ?_
      refine lv_icmp_le (tgt := 28) hx hb dX5_parseExpression_23 (by decide) (fun c23 => ?_) (fun c23 => ?_)
      · have h := ip c23 h
        refine lv_iconst (v := 0) hx hb dX5_parseExpression_28 (by decide) ?_
        refine lv_istore (lv' := [(5, .int 0), (4, .int (p2 - p1)), (0, .ref h_te), (1, .int p1), (2, .int p2), (3, .ref h_se)]) hx hb dX5_parseExpression_29 hl (by decide) rfl (fun ls hl => ?_)
        have Lp31 : ∀ (n : Nat) (v1 : Int32) (v4 : Int32) (se_operands : Int32) (v5 : Int32) (se_letters : Nat → Int32) (se_symbols : Nat → Int32) (X : (Nat → Int32) → (Nat → Int32) → Option (Int32 × (Nat → Int32) × Int32 × (Nat → Int32))) (H : Heap) (locs : List Loc) (ls : Array Slot), va_P (gD G) vwCl [(h_se, .inr (3, [.ref h_se_priorities, .ref h_se_associativities, .ref h_se_symbols, .ref h_se_letters, .int se_operands])), (h_te, .inr (4, [.ref h_te_characters, .int te_length])), (h_se_letters, .inl (gI G, 11, .inl se_letters)), (h_se_priorities, .inl (gI G, 9, .inl se_priorities)), (h_se_symbols, .inl (gI G, 10, .inl se_symbols)), (h_te_characters, .inl (gC G, 200, .inl te_characters))] H → va_D A [(h_se, .inr (3, [.ref h_se_priorities, .ref h_se_associativities, .ref h_se_symbols, .ref h_se_letters, .int se_operands])), (h_te, .inr (4, [.ref h_te_characters, .int te_length])), (h_se_letters, .inl (gI G, 11, .inl se_letters)), (h_se_priorities, .inl (gI G, 9, .inl se_priorities)), (h_se_symbols, .inl (gI G, 10, .inl se_symbols)), (h_te_characters, .inl (gC G, 200, .inl te_characters))] → va_S A s.heap H locs → lv_has ls 8 [(0, .ref h_te), (1, .int v1), (3, .ref h_se), (4, .int v4), (5, .int v5)] → f_X5_parseExpression_l31 F v1 v4 se_operands se_priorities te_characters n v5 se_letters se_symbols X = some out → (∀ (se_letters : Nat → Int32) (se_symbols : Nat → Int32) (H : Heap) (locs : List Loc) (ls : Array Slot), va_P (gD G) vwCl [(h_se, .inr (3, [.ref h_se_priorities, .ref h_se_associativities, .ref h_se_symbols, .ref h_se_letters, .int se_operands])), (h_te, .inr (4, [.ref h_te_characters, .int te_length])), (h_se_letters, .inl (gI G, 11, .inl se_letters)), (h_se_priorities, .inl (gI G, 9, .inl se_priorities)), (h_se_symbols, .inl (gI G, 10, .inl se_symbols)), (h_te_characters, .inl (gC G, 200, .inl te_characters))] H → va_D A [(h_se, .inr (3, [.ref h_se_priorities, .ref h_se_associativities, .ref h_se_symbols, .ref h_se_letters, .int se_operands])), (h_te, .inr (4, [.ref h_te_characters, .int te_length])), (h_se_letters, .inl (gI G, 11, .inl se_letters)), (h_se_priorities, .inl (gI G, 9, .inl se_priorities)), (h_se_symbols, .inl (gI G, 10, .inl se_symbols)), (h_te_characters, .inl (gC G, 200, .inl te_characters))] → va_S A s.heap H locs → lv_has ls 8 [(3, .ref h_se), (4, .int v4)] → X se_letters se_symbols = some out → W p l e rm_X5_parseExpression s m args below meth c H locs 0 0 Q (F0 m 94 ls [])) → W p l e rm_X5_parseExpression s m args below meth c H locs 0 0 Q (F0 m 31 ls []) := by
          intro n
          induction n with
          | zero => intro v1 v4 se_operands v5 se_letters se_symbols X H locs ls hP hD hS hl h HX; rw [f_X5_parseExpression_l31] at h; cases h
          | succ n ih =>
              intro v1 v4 se_operands v5 se_letters se_symbols X H locs ls hP hD hS hl h HX
              rw [f_X5_parseExpression_l31] at h
              have Bk79 : ∀ (v5 : Int32) (s0 : Int32) (se_letters : Nat → Int32) (se_symbols : Nat → Int32) (H : Heap) (locs : List Loc) (ls : Array Slot), va_P (gD G) vwCl [(h_se, .inr (3, [.ref h_se_priorities, .ref h_se_associativities, .ref h_se_symbols, .ref h_se_letters, .int se_operands])), (h_te, .inr (4, [.ref h_te_characters, .int te_length])), (h_se_letters, .inl (gI G, 11, .inl se_letters)), (h_se_priorities, .inl (gI G, 9, .inl se_priorities)), (h_se_symbols, .inl (gI G, 10, .inl se_symbols)), (h_te_characters, .inl (gC G, 200, .inl te_characters))] H → va_D A [(h_se, .inr (3, [.ref h_se_priorities, .ref h_se_associativities, .ref h_se_symbols, .ref h_se_letters, .int se_operands])), (h_te, .inr (4, [.ref h_te_characters, .int te_length])), (h_se_letters, .inl (gI G, 11, .inl se_letters)), (h_se_priorities, .inl (gI G, 9, .inl se_priorities)), (h_se_symbols, .inl (gI G, 10, .inl se_symbols)), (h_te_characters, .inl (gC G, 200, .inl te_characters))] → va_S A s.heap H locs → lv_has ls 8 [(0, .ref h_te), (1, .int v1), (3, .ref h_se), (4, .int v4), (5, .int v5)] → f_X5_parseExpression_b79 F v1 v4 v5 s0 se_letters se_operands se_symbols (fun v5 se_letters se_symbols => f_X5_parseExpression_l31 F v1 v4 se_operands se_priorities te_characters n v5 se_letters se_symbols X) X = some out → W p l e rm_X5_parseExpression s m args below meth c H locs 0 0 Q (F0 m 79 ls [.int s0]) := by
                intro v5 s0 se_letters se_symbols H locs ls hP hD hS hl h
                rw [f_X5_parseExpression_b79] at h
                refine lv_istore (lv' := [(7, .int s0), (0, .ref h_te), (1, .int v1), (3, .ref h_se), (4, .int v4), (5, .int v5)]) hx hb dX5_parseExpression_79 hl (by decide) rfl (fun ls hl => ?_)
                refine lv_iload hx hb dX5_parseExpression_81 (lv_at hl 0 rfl) ?_
                refine lv_if_ne (tgt := 88) hx hb dX5_parseExpression_83 (by decide) (fun c83 => ?_) (fun c83 => ?_)
                · have h := ing c83 h
                  refine lv_iinc (v := (v5 + 1)) (lv' := [(5, .int (v5 + 1)), (7, .int s0), (0, .ref h_te), (1, .int v1), (3, .ref h_se), (4, .int v4)]) hx hb dX5_parseExpression_88 hl (k := 5) rfl rfl (by decide) rfl (fun ls hl => ?_)
                  refine lv_goto (tgt := 31) hx hb dX5_parseExpression_91 (by decide) ?_
                  exact ih v1 v4 se_operands (v5 + 1) se_letters se_symbols X H locs ls hP hD hS (lv_sub hl [2, 3, 4, 5, 0] rfl) h HX
                · have h := ip c83 h
                  refine lv_iconst (v := 0) hx hb dX5_parseExpression_86 (by decide) ?_
                  cases h
                  exact hret (fun _ => 0) _ _ _ _ hP hD hS (nz (Or.inl rfl)) dX5_parseExpression_87
              refine lv_iload hx hb dX5_parseExpression_31 (lv_at hl 4 rfl) ?_
              refine lv_iload hx hb dX5_parseExpression_33 (lv_at hl 3 rfl) ?_
              refine lv_icmp_ge (tgt := 94) hx hb dX5_parseExpression_35 (by decide) (fun c35 => ?_) (fun c35 => ?_)
              · have h := ip c35 h
                exact HX se_letters se_symbols H locs ls hP hD hS (lv_sub hl [2, 3] rfl) h
              · have h := ing c35 h
                refine lv_aload_n hx hb dX5_parseExpression_38 rfl (lv_at hl 0 rfl) ?_
                refine va_get (D := gD G) (ci := 4) (v := .ref h_te_characters) (C := RX5) (T := TX5) (N := 2) hx hb hts lk_X5 hown hK hP 1 rfl rfl 0 (by decide) (hts _ fl_RX5_9) (fun _ h9 => h9) rfl dX5_parseExpression_39 ?_
                refine lv_iload_n hx hb dX5_parseExpression_42 rfl (lv_at hl 1 rfl) ?_
                refine lv_iload hx hb dX5_parseExpression_43 (lv_at hl 4 rfl) ?_
                refine lv_iadd hx hb dX5_parseExpression_45 ?_
                obtain ⟨g46, h⟩ := gda h
                refine va_cald hx hb hK hP 5 0 rfl rfl g46 dX5_parseExpression_46 ?_
                refine lv_istore (lv' := [(6, .int (te_characters (Int32.toNatClampNeg (v1 + v5)))), (0, .ref h_te), (1, .int v1), (3, .ref h_se), (4, .int v4), (5, .int v5)]) hx hb dX5_parseExpression_47 hl (by decide) rfl (fun ls hl => ?_)
                refine lv_iload hx hb dX5_parseExpression_49 (lv_at hl 5 rfl) ?_
                refine lv_iconst (v := 2) hx hb dX5_parseExpression_51 (by decide) ?_
                refine lv_irem hx hb dX5_parseExpression_52 (by decide) ?_
                refine lv_if_ne (tgt := 69) hx hb dX5_parseExpression_53 (by decide) (fun c53 => ?_) (fun c53 => ?_)
                · have h := ing c53 h
                  refine lv_aload_n hx hb dX5_parseExpression_69 rfl (lv_at hl 3 rfl) ?_
                  refine lv_iload hx hb dX5_parseExpression_70 (lv_at hl 5 rfl) ?_
                  refine lv_iconst (v := 2) hx hb dX5_parseExpression_72 (by decide) ?_
                  refine lv_idiv hx hb dX5_parseExpression_73 (by decide) ?_
                  refine lv_iload hx hb dX5_parseExpression_74 (lv_at hl 0 rfl) ?_
                  obtain ⟨o76, e76, h⟩ := bd h
                  refine Ci.V (wr := [(h_te, .inr (4, [.ref h_te_characters, .int te_length])), (h_se_letters, .inl (gI G, 11, .inl se_letters)), (h_te_characters, .inl (gC G, 200, .inl te_characters))]) (c_X4_putOperator F l G h_se h_se_priorities h_se_associativities h_se_symbols h_se_letters se_operands se_priorities se_symbols (v5 / 2) (te_characters (Int32.toNatClampNeg (v1 + v5))) H.size o76 e76) hB km_X4_putOperator ⟨im_X4_putOperator, sl_X4_putOperator⟩ ml_RX5_74 hP hD hS hl ⟨0, 3, _, _, rfl, rfl, rfl⟩ [0, 3, 4] [1, 2, 5] ⟨rfl, rfl, ⟨rfl, rfl⟩, by decide⟩ ⟨⟨Nat.le_of_ble_eq_true rfl, Nat.le_of_ble_eq_true rfl⟩, Nat.le_of_ble_eq_true rfl, Nat.le_of_ble_eq_true rfl, Nat.le_of_ble_eq_true rfl⟩ rfl dX5_parseExpression_76 (fun z H locs hP hD hS => ?_)
                  have hP : va_P (gD G) vwCl [(h_te, .inr (4, [.ref h_te_characters, .int te_length])), (h_se_letters, .inl (gI G, 11, .inl se_letters)), (h_te_characters, .inl (gC G, 200, .inl te_characters)), (h_se, .inr (3, [.ref h_se_priorities, .ref h_se_associativities, .ref h_se_symbols, .ref h_se_letters, .int se_operands])), (h_se_priorities, .inl (gI G, 9, .inl se_priorities)), (h_se_symbols, .inl (gI G, 10, .inl (o76.2)))] H := hP
                  have hD : va_D A [(h_te, .inr (4, [.ref h_te_characters, .int te_length])), (h_se_letters, .inl (gI G, 11, .inl se_letters)), (h_te_characters, .inl (gC G, 200, .inl te_characters)), (h_se, .inr (3, [.ref h_se_priorities, .ref h_se_associativities, .ref h_se_symbols, .ref h_se_letters, .int se_operands])), (h_se_priorities, .inl (gI G, 9, .inl se_priorities)), (h_se_symbols, .inl (gI G, 10, .inl (o76.2)))] := hD
                  exact Bk79 v5 (o76.1) se_letters (o76.2) H locs ls (hP.sub [3, 0, 1, 4, 5, 2] rfl) (hD.sub [3, 0, 1, 4, 5, 2] (by decide) rfl) hS (lv_sub hl [1, 2, 3, 4, 5] rfl) h
                · have h := ip c53 h
                  refine lv_aload_n hx hb dX5_parseExpression_56 rfl (lv_at hl 3 rfl) ?_
                  refine lv_iload hx hb dX5_parseExpression_57 (lv_at hl 5 rfl) ?_
                  refine lv_iconst (v := 2) hx hb dX5_parseExpression_59 (by decide) ?_
                  refine lv_idiv hx hb dX5_parseExpression_60 (by decide) ?_
                  refine lv_iload hx hb dX5_parseExpression_61 (lv_at hl 0 rfl) ?_
                  obtain ⟨o63, e63, h⟩ := bd h
                  refine Ci.V (wr := [(h_te, .inr (4, [.ref h_te_characters, .int te_length])), (h_se_priorities, .inl (gI G, 9, .inl se_priorities)), (h_se_symbols, .inl (gI G, 10, .inl se_symbols)), (h_te_characters, .inl (gC G, 200, .inl te_characters))]) (c_X4_putOperand F l G h_se h_se_priorities h_se_associativities h_se_symbols h_se_letters se_operands se_letters (v5 / 2) (te_characters (Int32.toNatClampNeg (v1 + v5))) H.size o63 e63) hB km_X4_putOperand ⟨im_X4_putOperand, sl_X4_putOperand⟩ ml_RX5_70 hP hD hS hl ⟨0, 3, _, _, rfl, rfl, rfl⟩ [0, 2] [1, 3, 4, 5] ⟨rfl, rfl, ⟨rfl, rfl⟩, by decide⟩ ⟨⟨Nat.le_of_ble_eq_true rfl, Nat.le_of_ble_eq_true rfl⟩, Nat.le_of_ble_eq_true rfl, Nat.le_of_ble_eq_true rfl, Nat.le_of_ble_eq_true rfl⟩ rfl dX5_parseExpression_63 (fun z H locs hP hD hS => ?_)
                  have hP : va_P (gD G) vwCl [(h_te, .inr (4, [.ref h_te_characters, .int te_length])), (h_se_priorities, .inl (gI G, 9, .inl se_priorities)), (h_se_symbols, .inl (gI G, 10, .inl se_symbols)), (h_te_characters, .inl (gC G, 200, .inl te_characters)), (h_se, .inr (3, [.ref h_se_priorities, .ref h_se_associativities, .ref h_se_symbols, .ref h_se_letters, .int se_operands])), (h_se_letters, .inl (gI G, 11, .inl (o63.2)))] H := hP
                  have hD : va_D A [(h_te, .inr (4, [.ref h_te_characters, .int te_length])), (h_se_priorities, .inl (gI G, 9, .inl se_priorities)), (h_se_symbols, .inl (gI G, 10, .inl se_symbols)), (h_te_characters, .inl (gC G, 200, .inl te_characters)), (h_se, .inr (3, [.ref h_se_priorities, .ref h_se_associativities, .ref h_se_symbols, .ref h_se_letters, .int se_operands])), (h_se_letters, .inl (gI G, 11, .inl (o63.2)))] := hD
                  refine lv_goto (tgt := 79) hx hb dX5_parseExpression_66 (by decide) ?_
                  exact Bk79 v5 (o63.1) (o63.2) se_symbols H locs ls (hP.sub [4, 0, 5, 1, 2, 3] rfl) (hD.sub [4, 0, 5, 1, 2, 3] (by decide) rfl) hS (lv_sub hl [1, 2, 3, 4, 5] rfl) h
        refine Lp31 F p1 (p2 - p1) se_operands 0 se_letters se_symbols _ H locs ls (hP.sub [5, 0, 1, 2, 3, 4] rfl) (hD.sub [5, 0, 1, 2, 3, 4] (by decide) rfl) hS (lv_sub hl [2, 3, 5, 1, 0] rfl) h (fun se_letters se_symbols H locs ls hP hD hS hl h => ?_)
        refine lv_aload_n hx hb dX5_parseExpression_94 rfl (lv_at hl 0 rfl) ?_
        refine lv_iload hx hb dX5_parseExpression_95 (lv_at hl 1 rfl) ?_
        refine lv_iconst (v := 2) hx hb dX5_parseExpression_97 (by decide) ?_
        refine lv_idiv hx hb dX5_parseExpression_98 (by decide) ?_
        refine lv_iconst (v := 1) hx hb dX5_parseExpression_99 (by decide) ?_
        refine lv_iadd hx hb dX5_parseExpression_100 ?_
        refine va_putN (D := gD G) (ci := 3) (v := .int (((p2 - p1) / 2) + 1)) (ty := .int) (C := RX4) (T := TX4) (N := 5) hx hb hts lk_X4 tyX4 tyX4_ok nmX4 hown hK hP hD hS 0 rfl rfl 4 (by decide) (va_Nw.use rfl (hN _ fn_RX5_77)) (fun _ h9 => h9) rfl (by decide +kernel) rfl rfl (Nat.le_of_ble_eq_true rfl) dX5_parseExpression_101 (fun H locs hP hD hS => ?_)
        have hP : va_P (gD G) vwCl [(h_se, .inr (3, [.ref h_se_priorities, .ref h_se_associativities, .ref h_se_symbols, .ref h_se_letters, .int (((p2 - p1) / 2) + 1)])), (h_te, .inr (4, [.ref h_te_characters, .int te_length])), (h_se_letters, .inl (gI G, 11, .inl se_letters)), (h_se_priorities, .inl (gI G, 9, .inl se_priorities)), (h_se_symbols, .inl (gI G, 10, .inl se_symbols)), (h_te_characters, .inl (gC G, 200, .inl te_characters))] H := hP
        have hD : va_D A [(h_se, .inr (3, [.ref h_se_priorities, .ref h_se_associativities, .ref h_se_symbols, .ref h_se_letters, .int (((p2 - p1) / 2) + 1)])), (h_te, .inr (4, [.ref h_te_characters, .int te_length])), (h_se_letters, .inl (gI G, 11, .inl se_letters)), (h_se_priorities, .inl (gI G, 9, .inl se_priorities)), (h_se_symbols, .inl (gI G, 10, .inl se_symbols)), (h_te_characters, .inl (gC G, 200, .inl te_characters))] := hD
        refine lv_iconst (v := 1) hx hb dX5_parseExpression_104 (by decide) ?_
        cases h
        exact hret (fun _ => 0) _ _ _ _ hP hD hS (nz (Or.inr rfl)) dX5_parseExpression_105
      · have h := ing c23 h
        refine lv_iconst (v := 0) hx hb dX5_parseExpression_26 (by decide) ?_
        cases h
        exact hret (fun _ => 0) _ _ _ _ (hP.sub [5, 0, 1, 2, 3, 4] rfl) (hD.sub [5, 0, 1, 2, 3, 4] (by decide) rfl) hS (nz (Or.inl rfl)) dX5_parseExpression_27
abbrev rm_X5_parseStatement : Room := { frames := 6, cells := 0, slots := 0, locals := 156 }
theorem km_X5_parseStatement : KM yX5_parseStatement cX5_parseStatement 4 (some .boolean) 3 := ⟨co_X5_parseStatement, in_RX5, by decide +kernel⟩
set_option maxHeartbeats 4000000 in
set_option maxRecDepth 100000 in
theorem c_X5_parseStatement (F : Nat) (l : Launch) (G : GT) (h_se h_se_priorities h_se_associativities h_se_symbols h_se_letters h_te h_te_characters : Nat) (se_operands : Int32) (te_length : Int32) (se_associativities : Nat → Int32) (se_letters : Nat → Int32) (se_priorities : Nat → Int32) (se_symbols : Nat → Int32) (te_characters : Nat → Int32) (p1 : Int32) (p2 : Int32) (sz : Nat) (out : Int32 × (Nat → Int32) × (Nat → Int32) × Int32 × (Nat → Int32) × (Nat → Int32)) (h : f_X5_parseStatement F p1 p2 se_associativities se_letters se_operands se_priorities se_symbols te_characters = some out) : Ci G l yX5_parseStatement cX5_parseStatement 4 (some .boolean) rm_X5_parseStatement [.ref h_te, .int p1, .int p2, .ref h_se] [(h_se, .inr (3, [.ref h_se_priorities, .ref h_se_associativities, .ref h_se_symbols, .ref h_se_letters, .int se_operands])), (h_te, .inr (4, [.ref h_te_characters, .int te_length])), (h_se_associativities, .inl (gI G, 9, .inl se_associativities)), (h_se_letters, .inl (gI G, 11, .inl se_letters)), (h_se_priorities, .inl (gI G, 9, .inl se_priorities)), (h_se_symbols, .inl (gI G, 10, .inl se_symbols)), (h_te_characters, .inl (gC G, 200, .inl te_characters))] sz (out.1) (fun _ => [(h_se, .inr (3, [.ref h_se_priorities, .ref h_se_associativities, .ref h_se_symbols, .ref h_se_letters, .int (out.2.2.2.1)])), (h_te, .inr (4, [.ref h_te_characters, .int te_length])), (h_se_associativities, .inl (gI G, 9, .inl (out.2.1))), (h_se_letters, .inl (gI G, 11, .inl (out.2.2.1))), (h_se_priorities, .inl (gI G, 9, .inl (out.2.2.2.2.1))), (h_se_symbols, .inl (gI G, 10, .inl (out.2.2.2.2.2))), (h_te_characters, .inl (gC G, 200, .inl te_characters))]) := by
  refine Ci.start rfl (by decide) (Nat.le_of_ble_eq_true rfl) ?_
  intro p e s m args below meth c A Q H locs ls hB hP hD hS hl hret
  obtain ⟨hx, hb, hmL, hr, hown, hts, hlocks, hnm, hA, hE⟩ := id hB
  obtain ⟨hK, hN, hV, hR, hZ, hZq, hAO⟩ := id hE
  have hown : s.vm.findClass RX5 = some m.cls := hown
  have hl : lv_has ls 4 [(0, .ref h_te), (1, .int p1), (2, .int p2), (3, .ref h_se)] := hl
  rw [f_X5_parseStatement] at h
  refine lv_aload_n hx hb dX5_parseStatement_0 rfl (lv_at hl 0 rfl) ?_
  refine va_ldcS hx hb hown hR.2.2.2.2.1 dX5_parseStatement_1 ?_
  refine lv_iload_n hx hb dX5_parseStatement_3 rfl (lv_at hl 1 rfl) ?_
  refine lv_iload_n hx hb dX5_parseStatement_4 rfl (lv_at hl 2 rfl) ?_
  obtain ⟨o5, e5, h⟩ := bd h
  refine Ci.V (wr := [(h_se, .inr (3, [.ref h_se_priorities, .ref h_se_associativities, .ref h_se_symbols, .ref h_se_letters, .int se_operands])), (h_se_associativities, .inl (gI G, 9, .inl se_associativities)), (h_se_letters, .inl (gI G, 11, .inl se_letters)), (h_se_priorities, .inl (gI G, 9, .inl se_priorities)), (h_se_symbols, .inl (gI G, 10, .inl se_symbols))]) (c_X5_hasWord F l G h_te h_te_characters te_length te_characters 3 p1 p2 H.size o5 e5) hB km_X5_hasWord ⟨im_X5_hasWord, sl_X5_hasWord⟩ ml_RX5_30 hP hD hS hl ⟨0, 4, _, _, rfl, rfl, rfl⟩ [1, 6] [0, 2, 3, 4, 5] ⟨rfl, rfl, ⟨rfl, rfl⟩, by decide⟩ ⟨⟨Nat.le_of_ble_eq_true rfl, Nat.le_of_ble_eq_true rfl⟩, Nat.le_of_ble_eq_true rfl, Nat.le_of_ble_eq_true rfl, Nat.le_of_ble_eq_true rfl⟩ rfl dX5_parseStatement_5 (fun z H locs hP hD hS => ?_)
  have hP : va_P (gD G) vwCl [(h_se, .inr (3, [.ref h_se_priorities, .ref h_se_associativities, .ref h_se_symbols, .ref h_se_letters, .int se_operands])), (h_se_associativities, .inl (gI G, 9, .inl se_associativities)), (h_se_letters, .inl (gI G, 11, .inl se_letters)), (h_se_priorities, .inl (gI G, 9, .inl se_priorities)), (h_se_symbols, .inl (gI G, 10, .inl se_symbols)), (h_te, .inr (4, [.ref h_te_characters, .int te_length])), (h_te_characters, .inl (gC G, 200, .inl te_characters))] H := hP
  have hD : va_D A [(h_se, .inr (3, [.ref h_se_priorities, .ref h_se_associativities, .ref h_se_symbols, .ref h_se_letters, .int se_operands])), (h_se_associativities, .inl (gI G, 9, .inl se_associativities)), (h_se_letters, .inl (gI G, 11, .inl se_letters)), (h_se_priorities, .inl (gI G, 9, .inl se_priorities)), (h_se_symbols, .inl (gI G, 10, .inl se_symbols)), (h_te, .inr (4, [.ref h_te_characters, .int te_length])), (h_te_characters, .inl (gC G, 200, .inl te_characters))] := hD
  refine lv_if_eq (tgt := 21) hx hb dX5_parseStatement_8 (by decide) (fun c8 => ?_) (fun c8 => ?_)
  · have h := ip c8 h
    refine lv_aload_n hx hb dX5_parseStatement_21 rfl (lv_at hl 0 rfl) ?_
    refine va_ldcS hx hb hown hR.2.2.2.2.2 dX5_parseStatement_22 ?_
    refine lv_iload_n hx hb dX5_parseStatement_24 rfl (lv_at hl 1 rfl) ?_
    refine lv_iload_n hx hb dX5_parseStatement_25 rfl (lv_at hl 2 rfl) ?_
    obtain ⟨o26, e26, h⟩ := bd h
    refine Ci.V (wr := [(h_se, .inr (3, [.ref h_se_priorities, .ref h_se_associativities, .ref h_se_symbols, .ref h_se_letters, .int se_operands])), (h_se_associativities, .inl (gI G, 9, .inl se_associativities)), (h_se_letters, .inl (gI G, 11, .inl se_letters)), (h_se_priorities, .inl (gI G, 9, .inl se_priorities)), (h_se_symbols, .inl (gI G, 10, .inl se_symbols))]) (c_X5_hasWord F l G h_te h_te_characters te_length te_characters 4 p1 p2 H.size o26 e26) hB km_X5_hasWord ⟨im_X5_hasWord, sl_X5_hasWord⟩ ml_RX5_30 hP hD hS hl ⟨0, 4, _, _, rfl, rfl, rfl⟩ [5, 6] [0, 1, 2, 3, 4] ⟨rfl, rfl, ⟨rfl, rfl⟩, by decide⟩ ⟨⟨Nat.le_of_ble_eq_true rfl, Nat.le_of_ble_eq_true rfl⟩, Nat.le_of_ble_eq_true rfl, Nat.le_of_ble_eq_true rfl, Nat.le_of_ble_eq_true rfl⟩ rfl dX5_parseStatement_26 (fun z H locs hP hD hS => ?_)
    have hP : va_P (gD G) vwCl [(h_se, .inr (3, [.ref h_se_priorities, .ref h_se_associativities, .ref h_se_symbols, .ref h_se_letters, .int se_operands])), (h_se_associativities, .inl (gI G, 9, .inl se_associativities)), (h_se_letters, .inl (gI G, 11, .inl se_letters)), (h_se_priorities, .inl (gI G, 9, .inl se_priorities)), (h_se_symbols, .inl (gI G, 10, .inl se_symbols)), (h_te, .inr (4, [.ref h_te_characters, .int te_length])), (h_te_characters, .inl (gC G, 200, .inl te_characters))] H := hP
    have hD : va_D A [(h_se, .inr (3, [.ref h_se_priorities, .ref h_se_associativities, .ref h_se_symbols, .ref h_se_letters, .int se_operands])), (h_se_associativities, .inl (gI G, 9, .inl se_associativities)), (h_se_letters, .inl (gI G, 11, .inl se_letters)), (h_se_priorities, .inl (gI G, 9, .inl se_priorities)), (h_se_symbols, .inl (gI G, 10, .inl se_symbols)), (h_te, .inr (4, [.ref h_te_characters, .int te_length])), (h_te_characters, .inl (gC G, 200, .inl te_characters))] := hD
    refine lv_if_eq (tgt := 48) hx hb dX5_parseStatement_29 (by decide) (fun c29 => ?_) (fun c29 => ?_)
    · have h := ip c29 h
      refine lv_iconst (v := 0) hx hb dX5_parseStatement_48 (by decide) ?_
      cases h
      exact hret (fun _ => 0) _ _ _ _ (hP.sub [0, 5, 1, 2, 3, 4, 6] rfl) (hD.sub [0, 5, 1, 2, 3, 4, 6] (by decide) rfl) hS (nz (Or.inl rfl)) dX5_parseStatement_49
    · have h := ing c29 h
      refine lv_aload_n hx hb dX5_parseStatement_32 rfl (lv_at hl 0 rfl) ?_
      refine lv_iload_n hx hb dX5_parseStatement_33 rfl (lv_at hl 1 rfl) ?_
      refine lv_iconst (v := 4) hx hb dX5_parseStatement_34 (by decide) ?_
      refine lv_iadd hx hb dX5_parseStatement_35 ?_
      refine lv_iload_n hx hb dX5_parseStatement_36 rfl (lv_at hl 2 rfl) ?_
      refine lv_aload_n hx hb dX5_parseStatement_37 rfl (lv_at hl 3 rfl) ?_
      obtain ⟨o38, e38, h⟩ := bd h
      refine Ci.V (wr := [(h_se_associativities, .inl (gI G, 9, .inl se_associativities))]) (c_X5_parseExpression F l G h_se h_se_priorities h_se_associativities h_se_symbols h_se_letters h_te h_te_characters se_operands te_length se_letters se_priorities se_symbols te_characters (p1 + 4) p2 H.size o38 e38) hB km_X5_parseExpression ⟨im_X5_parseExpression, sl_X5_parseExpression⟩ ml_RX5_39 hP hD hS hl ⟨1, 4, _, _, rfl, rfl, rfl⟩ [0, 5, 2, 3, 4, 6] [1] ⟨rfl, rfl, ⟨rfl, rfl⟩, by decide⟩ ⟨⟨Nat.le_of_ble_eq_true rfl, Nat.le_of_ble_eq_true rfl⟩, Nat.le_of_ble_eq_true rfl, Nat.le_of_ble_eq_true rfl, Nat.le_of_ble_eq_true rfl⟩ rfl dX5_parseStatement_38 (fun z H locs hP hD hS => ?_)
      have hP : va_P (gD G) vwCl [(h_se_associativities, .inl (gI G, 9, .inl se_associativities)), (h_se, .inr (3, [.ref h_se_priorities, .ref h_se_associativities, .ref h_se_symbols, .ref h_se_letters, .int (o38.2.2.1)])), (h_te, .inr (4, [.ref h_te_characters, .int te_length])), (h_se_letters, .inl (gI G, 11, .inl (o38.2.1))), (h_se_priorities, .inl (gI G, 9, .inl se_priorities)), (h_se_symbols, .inl (gI G, 10, .inl (o38.2.2.2))), (h_te_characters, .inl (gC G, 200, .inl te_characters))] H := hP
      have hD : va_D A [(h_se_associativities, .inl (gI G, 9, .inl se_associativities)), (h_se, .inr (3, [.ref h_se_priorities, .ref h_se_associativities, .ref h_se_symbols, .ref h_se_letters, .int (o38.2.2.1)])), (h_te, .inr (4, [.ref h_te_characters, .int te_length])), (h_se_letters, .inl (gI G, 11, .inl (o38.2.1))), (h_se_priorities, .inl (gI G, 9, .inl se_priorities)), (h_se_symbols, .inl (gI G, 10, .inl (o38.2.2.2))), (h_te_characters, .inl (gC G, 200, .inl te_characters))] := hD
      refine lv_if_eq (tgt := 48) hx hb dX5_parseStatement_41 (by decide) (fun c41 => ?_) (fun c41 => ?_)
      · have h := ip c41 h
        refine lv_iconst (v := 0) hx hb dX5_parseStatement_48 (by decide) ?_
        cases h
        exact hret (fun _ => 0) _ _ _ _ (hP.sub [1, 2, 0, 3, 4, 5, 6] rfl) (hD.sub [1, 2, 0, 3, 4, 5, 6] (by decide) rfl) hS (nz (Or.inl rfl)) dX5_parseStatement_49
      · have h := ing c41 h
        refine lv_iconst (v := 1) hx hb dX5_parseStatement_44 (by decide) ?_
        refine lv_goto (tgt := 49) hx hb dX5_parseStatement_45 (by decide) ?_
        cases h
        exact hret (fun _ => 0) _ _ _ _ (hP.sub [1, 2, 0, 3, 4, 5, 6] rfl) (hD.sub [1, 2, 0, 3, 4, 5, 6] (by decide) rfl) hS (nz (Or.inr rfl)) dX5_parseStatement_49
  · have h := ing c8 h
    refine lv_aload_n hx hb dX5_parseStatement_11 rfl (lv_at hl 0 rfl) ?_
    refine lv_iload_n hx hb dX5_parseStatement_12 rfl (lv_at hl 1 rfl) ?_
    refine lv_iconst (v := 2) hx hb dX5_parseStatement_13 (by decide) ?_
    refine lv_iadd hx hb dX5_parseStatement_14 ?_
    refine lv_iload_n hx hb dX5_parseStatement_15 rfl (lv_at hl 2 rfl) ?_
    refine lv_aload_n hx hb dX5_parseStatement_16 rfl (lv_at hl 3 rfl) ?_
    obtain ⟨o17, e17, h⟩ := bd h
    refine Ci.V (wr := [(h_se_letters, .inl (gI G, 11, .inl se_letters)), (h_se_symbols, .inl (gI G, 10, .inl se_symbols))]) (c_X5_parseDeclaration F l G h_se h_se_priorities h_se_associativities h_se_symbols h_se_letters h_te h_te_characters se_operands te_length se_associativities se_priorities te_characters (p1 + 2) p2 H.size o17 e17) hB km_X5_parseDeclaration ⟨im_X5_parseDeclaration, sl_X5_parseDeclaration⟩ ml_RX5_34 hP hD hS hl ⟨1, 4, _, _, rfl, rfl, rfl⟩ [0, 5, 1, 3, 6] [2, 4] ⟨rfl, rfl, ⟨rfl, rfl⟩, by decide⟩ ⟨⟨Nat.le_of_ble_eq_true rfl, Nat.le_of_ble_eq_true rfl⟩, Nat.le_of_ble_eq_true rfl, Nat.le_of_ble_eq_true rfl, Nat.le_of_ble_eq_true rfl⟩ rfl dX5_parseStatement_17 (fun z H locs hP hD hS => ?_)
    have hP : va_P (gD G) vwCl [(h_se_letters, .inl (gI G, 11, .inl se_letters)), (h_se_symbols, .inl (gI G, 10, .inl se_symbols)), (h_se, .inr (3, [.ref h_se_priorities, .ref h_se_associativities, .ref h_se_symbols, .ref h_se_letters, .int se_operands])), (h_te, .inr (4, [.ref h_te_characters, .int te_length])), (h_se_associativities, .inl (gI G, 9, .inl (o17.2.1))), (h_se_priorities, .inl (gI G, 9, .inl (o17.2.2))), (h_te_characters, .inl (gC G, 200, .inl te_characters))] H := hP
    have hD : va_D A [(h_se_letters, .inl (gI G, 11, .inl se_letters)), (h_se_symbols, .inl (gI G, 10, .inl se_symbols)), (h_se, .inr (3, [.ref h_se_priorities, .ref h_se_associativities, .ref h_se_symbols, .ref h_se_letters, .int se_operands])), (h_te, .inr (4, [.ref h_te_characters, .int te_length])), (h_se_associativities, .inl (gI G, 9, .inl (o17.2.1))), (h_se_priorities, .inl (gI G, 9, .inl (o17.2.2))), (h_te_characters, .inl (gC G, 200, .inl te_characters))] := hD
    obtain ⟨gz, h⟩ := gdb h
    cases h
    exact hret (fun _ => 0) _ _ _ _ (hP.sub [2, 3, 4, 0, 5, 1, 6] rfl) (hD.sub [2, 3, 4, 0, 5, 1, 6] (by decide) rfl) hS (nz gz) dX5_parseStatement_20
abbrev rm_X5_parse : Room := { frames := 7, cells := 0, slots := 0, locals := 179 }
theorem km_X5_parse : KM yX5_parse cX5_parse 4 (some .int) 1 := ⟨co_X5_parse, in_RX5, by decide +kernel⟩
set_option maxHeartbeats 4000000 in
set_option maxRecDepth 100000 in
theorem c_X5_parse (F : Nat) (l : Launch) (G : GT) (h_se h_se_priorities h_se_associativities h_se_symbols h_se_letters h_te h_te_characters : Nat) (se_operands : Int32) (te_length : Int32) (se_associativities : Nat → Int32) (se_letters : Nat → Int32) (se_priorities : Nat → Int32) (se_symbols : Nat → Int32) (te_characters : Nat → Int32) (sz : Nat) (out : Int32 × (Nat → Int32) × (Nat → Int32) × Int32 × (Nat → Int32) × (Nat → Int32)) (h : f_X5_parse F se_associativities se_letters se_operands se_priorities se_symbols te_characters te_length = some out) : Ci G l yX5_parse cX5_parse 4 (some .int) rm_X5_parse [.ref h_te, .ref h_se] [(h_se, .inr (3, [.ref h_se_priorities, .ref h_se_associativities, .ref h_se_symbols, .ref h_se_letters, .int se_operands])), (h_te, .inr (4, [.ref h_te_characters, .int te_length])), (h_se_associativities, .inl (gI G, 9, .inl se_associativities)), (h_se_letters, .inl (gI G, 11, .inl se_letters)), (h_se_priorities, .inl (gI G, 9, .inl se_priorities)), (h_se_symbols, .inl (gI G, 10, .inl se_symbols)), (h_te_characters, .inl (gC G, 200, .inl te_characters))] sz (out.1) (fun _ => [(h_se, .inr (3, [.ref h_se_priorities, .ref h_se_associativities, .ref h_se_symbols, .ref h_se_letters, .int (out.2.2.2.1)])), (h_te, .inr (4, [.ref h_te_characters, .int te_length])), (h_se_associativities, .inl (gI G, 9, .inl (out.2.1))), (h_se_letters, .inl (gI G, 11, .inl (out.2.2.1))), (h_se_priorities, .inl (gI G, 9, .inl (out.2.2.2.2.1))), (h_se_symbols, .inl (gI G, 10, .inl (out.2.2.2.2.2))), (h_te_characters, .inl (gC G, 200, .inl te_characters))]) := by
  refine Ci.start rfl (by decide) (Nat.le_of_ble_eq_true rfl) ?_
  intro p e s m args below meth c A Q H locs ls hB hP hD hS hl hret
  obtain ⟨hx, hb, hmL, hr, hown, hts, hlocks, hnm, hA, hE⟩ := id hB
  obtain ⟨hK, hN, hV, hR, hZ, hZq, hAO⟩ := id hE
  have hown : s.vm.findClass RX5 = some m.cls := hown
  have hl : lv_has ls 4 [(0, .ref h_te), (1, .ref h_se)] := hl
  rw [f_X5_parse] at h
  refine lv_aload_n hx hb dX5_parse_0 rfl (lv_at hl 1 rfl) ?_
  obtain ⟨o1, e1, h⟩ := bd h
  refine Cv.V (wr := [(h_te, .inr (4, [.ref h_te_characters, .int te_length])), (h_se_associativities, .inl (gI G, 9, .inl se_associativities)), (h_se_letters, .inl (gI G, 11, .inl se_letters)), (h_se_symbols, .inl (gI G, 10, .inl se_symbols)), (h_te_characters, .inl (gC G, 200, .inl te_characters))]) (c_X4_reset F l G h_se h_se_priorities h_se_associativities h_se_symbols h_se_letters se_operands se_priorities H.size o1 e1) hB km_X4_reset ⟨im_X4_reset, sl_X4_reset⟩ ml_RX5_19 hP hD hS hl ⟨0, 3, _, _, rfl, rfl, rfl⟩ [0, 4] [1, 2, 3, 5, 6] ⟨rfl, rfl, ⟨rfl, rfl⟩, by decide⟩ ⟨⟨Nat.le_of_ble_eq_true rfl, Nat.le_of_ble_eq_true rfl⟩, Nat.le_of_ble_eq_true rfl, Nat.le_of_ble_eq_true rfl, Nat.le_of_ble_eq_true rfl⟩ rfl dX5_parse_1 (fun z H locs hP hD hS => ?_)
  have hP : va_P (gD G) vwCl [(h_te, .inr (4, [.ref h_te_characters, .int te_length])), (h_se_associativities, .inl (gI G, 9, .inl se_associativities)), (h_se_letters, .inl (gI G, 11, .inl se_letters)), (h_se_symbols, .inl (gI G, 10, .inl se_symbols)), (h_te_characters, .inl (gC G, 200, .inl te_characters)), (h_se, .inr (3, [.ref h_se_priorities, .ref h_se_associativities, .ref h_se_symbols, .ref h_se_letters, .int (o1.1)])), (h_se_priorities, .inl (gI G, 9, .inl (o1.2)))] H := hP
  have hD : va_D A [(h_te, .inr (4, [.ref h_te_characters, .int te_length])), (h_se_associativities, .inl (gI G, 9, .inl se_associativities)), (h_se_letters, .inl (gI G, 11, .inl se_letters)), (h_se_symbols, .inl (gI G, 10, .inl se_symbols)), (h_te_characters, .inl (gC G, 200, .inl te_characters)), (h_se, .inr (3, [.ref h_se_priorities, .ref h_se_associativities, .ref h_se_symbols, .ref h_se_letters, .int (o1.1)])), (h_se_priorities, .inl (gI G, 9, .inl (o1.2)))] := hD
  refine lv_iconst (v := 0) hx hb dX5_parse_4 (by decide) ?_
  refine lv_istore_n (lv' := [(2, .int 0), (0, .ref h_te), (1, .ref h_se)]) hx hb dX5_parse_5 rfl hl (by decide) rfl (fun ls hl => ?_)
  refine lv_iconst (v := 0) hx hb dX5_parse_6 (by decide) ?_
  refine lv_istore_n (lv' := [(3, .int 0), (2, .int 0), (0, .ref h_te), (1, .ref h_se)]) hx hb dX5_parse_7 rfl hl (by decide) rfl (fun ls hl => ?_)
  have Lp8 : ∀ (n : Nat) (v2 : Int32) (v3 : Int32) (se_associativities : Nat → Int32) (se_letters : Nat → Int32) (se_operands : Int32) (se_priorities : Nat → Int32) (se_symbols : Nat → Int32) (X : Int32 → (Nat → Int32) → (Nat → Int32) → Int32 → (Nat → Int32) → (Nat → Int32) → Option (Int32 × (Nat → Int32) × (Nat → Int32) × Int32 × (Nat → Int32) × (Nat → Int32))) (H : Heap) (locs : List Loc) (ls : Array Slot), va_P (gD G) vwCl [(h_se, .inr (3, [.ref h_se_priorities, .ref h_se_associativities, .ref h_se_symbols, .ref h_se_letters, .int se_operands])), (h_te, .inr (4, [.ref h_te_characters, .int te_length])), (h_se_associativities, .inl (gI G, 9, .inl se_associativities)), (h_se_letters, .inl (gI G, 11, .inl se_letters)), (h_se_priorities, .inl (gI G, 9, .inl se_priorities)), (h_se_symbols, .inl (gI G, 10, .inl se_symbols)), (h_te_characters, .inl (gC G, 200, .inl te_characters))] H → va_D A [(h_se, .inr (3, [.ref h_se_priorities, .ref h_se_associativities, .ref h_se_symbols, .ref h_se_letters, .int se_operands])), (h_te, .inr (4, [.ref h_te_characters, .int te_length])), (h_se_associativities, .inl (gI G, 9, .inl se_associativities)), (h_se_letters, .inl (gI G, 11, .inl se_letters)), (h_se_priorities, .inl (gI G, 9, .inl se_priorities)), (h_se_symbols, .inl (gI G, 10, .inl se_symbols)), (h_te_characters, .inl (gC G, 200, .inl te_characters))] → va_S A s.heap H locs → lv_has ls 4 [(0, .ref h_te), (1, .ref h_se), (2, .int v2), (3, .int v3)] → f_X5_parse_l8 F te_characters te_length n v2 v3 se_associativities se_letters se_operands se_priorities se_symbols X = some out → (∀ (v2 : Int32) (se_associativities : Nat → Int32) (se_letters : Nat → Int32) (se_operands : Int32) (se_priorities : Nat → Int32) (se_symbols : Nat → Int32) (H : Heap) (locs : List Loc) (ls : Array Slot), va_P (gD G) vwCl [(h_se, .inr (3, [.ref h_se_priorities, .ref h_se_associativities, .ref h_se_symbols, .ref h_se_letters, .int se_operands])), (h_te, .inr (4, [.ref h_te_characters, .int te_length])), (h_se_associativities, .inl (gI G, 9, .inl se_associativities)), (h_se_letters, .inl (gI G, 11, .inl se_letters)), (h_se_priorities, .inl (gI G, 9, .inl se_priorities)), (h_se_symbols, .inl (gI G, 10, .inl se_symbols)), (h_te_characters, .inl (gC G, 200, .inl te_characters))] H → va_D A [(h_se, .inr (3, [.ref h_se_priorities, .ref h_se_associativities, .ref h_se_symbols, .ref h_se_letters, .int se_operands])), (h_te, .inr (4, [.ref h_te_characters, .int te_length])), (h_se_associativities, .inl (gI G, 9, .inl se_associativities)), (h_se_letters, .inl (gI G, 11, .inl se_letters)), (h_se_priorities, .inl (gI G, 9, .inl se_priorities)), (h_se_symbols, .inl (gI G, 10, .inl se_symbols)), (h_te_characters, .inl (gC G, 200, .inl te_characters))] → va_S A s.heap H locs → lv_has ls 4 [(0, .ref h_te), (2, .int v2)] → X v2 se_associativities se_letters se_operands se_priorities se_symbols = some out → W p l e rm_X5_parse s m args below meth c H locs 0 0 Q (F0 m 49 ls [])) → W p l e rm_X5_parse s m args below meth c H locs 0 0 Q (F0 m 8 ls []) := by
    intro n
    induction n with
    | zero => intro v2 v3 se_associativities se_letters se_operands se_priorities se_symbols X H locs ls hP hD hS hl h HX; rw [f_X5_parse_l8] at h; cases h
    | succ n ih =>
        intro v2 v3 se_associativities se_letters se_operands se_priorities se_symbols X H locs ls hP hD hS hl h HX
        rw [f_X5_parse_l8] at h
        refine lv_iload_n hx hb dX5_parse_8 rfl (lv_at hl 3 rfl) ?_
        refine lv_aload_n hx hb dX5_parse_9 rfl (lv_at hl 0 rfl) ?_
        refine va_get (D := gD G) (ci := 4) (v := .int te_length) (C := RX5) (T := TX5) (N := 2) hx hb hts lk_X5 hown hK hP 1 rfl rfl 1 (by decide) (hts _ fl_RX5_15) (fun _ h9 => h9) rfl dX5_parse_10 ?_
        refine lv_icmp_ge (tgt := 49) hx hb dX5_parse_13 (by decide) (fun c13 => ?_) (fun c13 => ?_)
        · have h := ip c13 h
          exact HX v2 se_associativities se_letters se_operands se_priorities se_symbols H locs ls hP hD hS (lv_sub hl [0, 2] rfl) h
        · have h := ing c13 h
          refine lv_aload_n hx hb dX5_parse_16 rfl (lv_at hl 0 rfl) ?_
          refine va_get (D := gD G) (ci := 4) (v := .ref h_te_characters) (C := RX5) (T := TX5) (N := 2) hx hb hts lk_X5 hown hK hP 1 rfl rfl 0 (by decide) (hts _ fl_RX5_9) (fun _ h9 => h9) rfl dX5_parse_17 ?_
          refine lv_iload_n hx hb dX5_parse_20 rfl (lv_at hl 3 rfl) ?_
          obtain ⟨g21, h⟩ := gda h
          refine va_cald hx hb hK hP 6 0 rfl rfl g21 dX5_parse_21 ?_
          refine lv_bipush (v := 59) hx hb dX5_parse_22 (by decide) ?_
          refine lv_icmp_ne (tgt := 43) hx hb dX5_parse_24 (by decide) (fun c24 => ?_) (fun c24 => ?_)
          · have h := ing c24 h
            refine lv_iinc (v := (v3 + 1)) (lv' := [(3, .int (v3 + 1)), (0, .ref h_te), (1, .ref h_se), (2, .int v2)]) hx hb dX5_parse_43 hl (k := 3) rfl rfl (by decide) rfl (fun ls hl => ?_)
            refine lv_goto (tgt := 8) hx hb dX5_parse_46 (by decide) ?_
            exact ih v2 (v3 + 1) se_associativities se_letters se_operands se_priorities se_symbols X H locs ls hP hD hS (lv_sub hl [1, 2, 3, 0] rfl) h HX
          · have h := ip c24 h
            refine lv_aload_n hx hb dX5_parse_27 rfl (lv_at hl 0 rfl) ?_
            refine lv_iload_n hx hb dX5_parse_28 rfl (lv_at hl 2 rfl) ?_
            refine lv_iload_n hx hb dX5_parse_29 rfl (lv_at hl 3 rfl) ?_
            refine lv_aload_n hx hb dX5_parse_30 rfl (lv_at hl 1 rfl) ?_
            obtain ⟨o31, e31, h⟩ := bd h
            refine Ci.V (wr := []) (c_X5_parseStatement F l G h_se h_se_priorities h_se_associativities h_se_symbols h_se_letters h_te h_te_characters se_operands te_length se_associativities se_letters se_priorities se_symbols te_characters v2 v3 H.size o31 e31) hB km_X5_parseStatement ⟨im_X5_parseStatement, sl_X5_parseStatement⟩ ml_RX5_24 hP hD hS hl ⟨1, 4, _, _, rfl, rfl, rfl⟩ [0, 1, 2, 3, 4, 5, 6] [] ⟨rfl, rfl, ⟨rfl, rfl⟩, by decide⟩ ⟨⟨Nat.le_of_ble_eq_true rfl, Nat.le_of_ble_eq_true rfl⟩, Nat.le_of_ble_eq_true rfl, Nat.le_of_ble_eq_true rfl, Nat.le_of_ble_eq_true rfl⟩ rfl dX5_parse_31 (fun z H locs hP hD hS => ?_)
            have hP : va_P (gD G) vwCl [(h_se, .inr (3, [.ref h_se_priorities, .ref h_se_associativities, .ref h_se_symbols, .ref h_se_letters, .int (o31.2.2.2.1)])), (h_te, .inr (4, [.ref h_te_characters, .int te_length])), (h_se_associativities, .inl (gI G, 9, .inl (o31.2.1))), (h_se_letters, .inl (gI G, 11, .inl (o31.2.2.1))), (h_se_priorities, .inl (gI G, 9, .inl (o31.2.2.2.2.1))), (h_se_symbols, .inl (gI G, 10, .inl (o31.2.2.2.2.2))), (h_te_characters, .inl (gC G, 200, .inl te_characters))] H := hP
            have hD : va_D A [(h_se, .inr (3, [.ref h_se_priorities, .ref h_se_associativities, .ref h_se_symbols, .ref h_se_letters, .int (o31.2.2.2.1)])), (h_te, .inr (4, [.ref h_te_characters, .int te_length])), (h_se_associativities, .inl (gI G, 9, .inl (o31.2.1))), (h_se_letters, .inl (gI G, 11, .inl (o31.2.2.1))), (h_se_priorities, .inl (gI G, 9, .inl (o31.2.2.2.2.1))), (h_se_symbols, .inl (gI G, 10, .inl (o31.2.2.2.2.2))), (h_te_characters, .inl (gC G, 200, .inl te_characters))] := hD
            refine lv_if_ne (tgt := 39) hx hb dX5_parse_34 (by decide) (fun c34 => ?_) (fun c34 => ?_)
            · have h := ing c34 h
              refine lv_iload_n hx hb dX5_parse_39 rfl (lv_at hl 3 rfl) ?_
              refine lv_iconst (v := 1) hx hb dX5_parse_40 (by decide) ?_
              refine lv_iadd hx hb dX5_parse_41 ?_
              refine lv_istore_n (lv' := [(2, .int (v3 + 1)), (0, .ref h_te), (1, .ref h_se), (3, .int v3)]) hx hb dX5_parse_42 rfl hl (by decide) rfl (fun ls hl => ?_)
              refine lv_iinc (v := (v3 + 1)) (lv' := [(3, .int (v3 + 1)), (2, .int (v3 + 1)), (0, .ref h_te), (1, .ref h_se)]) hx hb dX5_parse_43 hl (k := 3) rfl rfl (by decide) rfl (fun ls hl => ?_)
              refine lv_goto (tgt := 8) hx hb dX5_parse_46 (by decide) ?_
              exact ih (v3 + 1) (v3 + 1) (o31.2.1) (o31.2.2.1) (o31.2.2.2.1) (o31.2.2.2.2.1) (o31.2.2.2.2.2) X H locs ls hP hD hS (lv_sub hl [2, 3, 1, 0] rfl) h HX
            · have h := ip c34 h
              refine lv_iload_n hx hb dX5_parse_37 rfl (lv_at hl 2 rfl) ?_
              cases h
              exact hret (fun _ => 0) _ _ _ _ hP hD hS rfl dX5_parse_38
  refine Lp8 F 0 0 se_associativities se_letters (o1.1) (o1.2) se_symbols _ H locs ls (hP.sub [5, 0, 1, 2, 6, 3, 4] rfl) (hD.sub [5, 0, 1, 2, 6, 3, 4] (by decide) rfl) hS (lv_sub hl [2, 3, 1, 0] rfl) h (fun v2 se_associativities se_letters se_operands se_priorities se_symbols H locs ls hP hD hS hl h => ?_)
  refine lv_iload_n hx hb dX5_parse_49 rfl (lv_at hl 1 rfl) ?_
  refine lv_aload_n hx hb dX5_parse_50 rfl (lv_at hl 0 rfl) ?_
  refine va_get (D := gD G) (ci := 4) (v := .int te_length) (C := RX5) (T := TX5) (N := 2) hx hb hts lk_X5 hown hK hP 1 rfl rfl 1 (by decide) (hts _ fl_RX5_15) (fun _ h9 => h9) rfl dX5_parse_51 ?_
  refine lv_icmp_ge (tgt := 61) hx hb dX5_parse_54 (by decide) (fun c54 => ?_) (fun c54 => ?_)
  · have h := ip c54 h
    refine lv_bipush (v := (-4)) hx hb dX5_parse_61 (by decide) ?_
    cases h
    exact hret (fun _ => 0) _ _ _ _ hP hD hS rfl dX5_parse_63
  · have h := ing c54 h
    refine lv_iload_n hx hb dX5_parse_57 rfl (lv_at hl 1 rfl) ?_
    refine lv_goto (tgt := 63) hx hb dX5_parse_58 (by decide) ?_
    cases h
    exact hret (fun _ => 0) _ _ _ _ hP hD hS rfl dX5_parse_63
abbrev rm_X7_syntaxError : Room := { frames := 8, cells := 0, slots := 0, locals := 202 }
theorem km_X7_syntaxError : KM yX7_syntaxError cX7_syntaxError 1 (some .int) 0 := ⟨co_X7_syntaxError, in_RX7, by decide +kernel⟩
set_option maxHeartbeats 4000000 in
set_option maxRecDepth 100000 in
theorem c_X7_syntaxError (F : Nat) (l : Launch) (G : GT) (h_bx h_te h_se h_ca h_st h_hi h_fo h_tr h_bx_results h_ca_priorities h_ca_associativities h_ca_symbols h_ca_letters h_te_characters : Nat) (ca_operands : Int32) (te_length : Int32) (ca_associativities : Nat → Int32) (ca_letters : Nat → Int32) (ca_priorities : Nat → Int32) (ca_symbols : Nat → Int32) (te_characters : Nat → Int32) (sz : Nat) (out : Int32 × (Nat → Int32) × (Nat → Int32) × Int32 × (Nat → Int32) × (Nat → Int32)) (h : f_X7_syntaxError F ca_associativities ca_letters ca_operands ca_priorities ca_symbols te_characters te_length = some out) : Ci G l yX7_syntaxError cX7_syntaxError 1 (some .int) rm_X7_syntaxError [.ref h_bx] [(h_bx, .inr (6, [.ref h_te, .ref h_se, .ref h_ca, .ref h_st, .ref h_hi, .ref h_fo, .ref h_tr, .ref h_bx_results])), (h_ca, .inr (3, [.ref h_ca_priorities, .ref h_ca_associativities, .ref h_ca_symbols, .ref h_ca_letters, .int ca_operands])), (h_te, .inr (4, [.ref h_te_characters, .int te_length])), (h_ca_associativities, .inl (gI G, 9, .inl ca_associativities)), (h_ca_letters, .inl (gI G, 11, .inl ca_letters)), (h_ca_priorities, .inl (gI G, 9, .inl ca_priorities)), (h_ca_symbols, .inl (gI G, 10, .inl ca_symbols)), (h_te_characters, .inl (gC G, 200, .inl te_characters))] sz (out.1) (fun _ => [(h_bx, .inr (6, [.ref h_te, .ref h_se, .ref h_ca, .ref h_st, .ref h_hi, .ref h_fo, .ref h_tr, .ref h_bx_results])), (h_ca, .inr (3, [.ref h_ca_priorities, .ref h_ca_associativities, .ref h_ca_symbols, .ref h_ca_letters, .int (out.2.2.2.1)])), (h_te, .inr (4, [.ref h_te_characters, .int te_length])), (h_ca_associativities, .inl (gI G, 9, .inl (out.2.1))), (h_ca_letters, .inl (gI G, 11, .inl (out.2.2.1))), (h_ca_priorities, .inl (gI G, 9, .inl (out.2.2.2.2.1))), (h_ca_symbols, .inl (gI G, 10, .inl (out.2.2.2.2.2))), (h_te_characters, .inl (gC G, 200, .inl te_characters))]) := by
  refine Ci.start rfl (by decide) (Nat.le_of_ble_eq_true rfl) ?_
  intro p e s m args below meth c A Q H locs ls hB hP hD hS hl hret
  obtain ⟨hx, hb, hmL, hr, hown, hts, hlocks, hnm, hA, hE⟩ := id hB
  obtain ⟨hK, hN, hV, hR, hZ, hZq, hAO⟩ := id hE
  have hown : s.vm.findClass RX7 = some m.cls := hown
  have hl : lv_has ls 1 [(0, .ref h_bx)] := hl
  rw [f_X7_syntaxError] at h
  refine lv_aload_n hx hb dX7_syntaxError_0 rfl (lv_at hl 0 rfl) ?_
  refine va_get (D := gD G) (ci := 6) (v := .ref h_te) (C := RX7) (T := TX7) (N := 8) hx hb hts lk_X7 hown hK hP 0 rfl rfl 0 (by decide) (hts _ fl_RX7_12) (fun _ h9 => h9) rfl dX7_syntaxError_1 ?_
  refine lv_aload_n hx hb dX7_syntaxError_4 rfl (lv_at hl 0 rfl) ?_
  refine va_get (D := gD G) (ci := 6) (v := .ref h_ca) (C := RX7) (T := TX7) (N := 8) hx hb hts lk_X7 hown hK hP 0 rfl rfl 2 (by decide) (hts _ fl_RX7_23) (fun _ h9 => h9) rfl dX7_syntaxError_5 ?_
  obtain ⟨o8, e8, h⟩ := bd h
  refine Ci.V (wr := [(h_bx, .inr (6, [.ref h_te, .ref h_se, .ref h_ca, .ref h_st, .ref h_hi, .ref h_fo, .ref h_tr, .ref h_bx_results]))]) (c_X5_parse F l G h_ca h_ca_priorities h_ca_associativities h_ca_symbols h_ca_letters h_te h_te_characters ca_operands te_length ca_associativities ca_letters ca_priorities ca_symbols te_characters H.size o8 e8) hB km_X5_parse ⟨im_X5_parse, sl_X5_parse⟩ ml_RX7_84 hP hD hS hl ⟨1, 4, _, _, rfl, rfl, rfl⟩ [1, 2, 3, 4, 5, 6, 7] [0] ⟨rfl, rfl, ⟨rfl, rfl⟩, by decide⟩ ⟨⟨Nat.le_of_ble_eq_true rfl, Nat.le_of_ble_eq_true rfl⟩, Nat.le_of_ble_eq_true rfl, Nat.le_of_ble_eq_true rfl, Nat.le_of_ble_eq_true rfl⟩ rfl dX7_syntaxError_8 (fun z H locs hP hD hS => ?_)
  have hP : va_P (gD G) vwCl [(h_bx, .inr (6, [.ref h_te, .ref h_se, .ref h_ca, .ref h_st, .ref h_hi, .ref h_fo, .ref h_tr, .ref h_bx_results])), (h_ca, .inr (3, [.ref h_ca_priorities, .ref h_ca_associativities, .ref h_ca_symbols, .ref h_ca_letters, .int (o8.2.2.2.1)])), (h_te, .inr (4, [.ref h_te_characters, .int te_length])), (h_ca_associativities, .inl (gI G, 9, .inl (o8.2.1))), (h_ca_letters, .inl (gI G, 11, .inl (o8.2.2.1))), (h_ca_priorities, .inl (gI G, 9, .inl (o8.2.2.2.2.1))), (h_ca_symbols, .inl (gI G, 10, .inl (o8.2.2.2.2.2))), (h_te_characters, .inl (gC G, 200, .inl te_characters))] H := hP
  have hD : va_D A [(h_bx, .inr (6, [.ref h_te, .ref h_se, .ref h_ca, .ref h_st, .ref h_hi, .ref h_fo, .ref h_tr, .ref h_bx_results])), (h_ca, .inr (3, [.ref h_ca_priorities, .ref h_ca_associativities, .ref h_ca_symbols, .ref h_ca_letters, .int (o8.2.2.2.1)])), (h_te, .inr (4, [.ref h_te_characters, .int te_length])), (h_ca_associativities, .inl (gI G, 9, .inl (o8.2.1))), (h_ca_letters, .inl (gI G, 11, .inl (o8.2.2.1))), (h_ca_priorities, .inl (gI G, 9, .inl (o8.2.2.2.2.1))), (h_ca_symbols, .inl (gI G, 10, .inl (o8.2.2.2.2.2))), (h_te_characters, .inl (gC G, 200, .inl te_characters))] := hD
  cases h
  exact hret (fun _ => 0) _ _ _ _ hP hD hS rfl dX7_syntaxError_11
abbrev rm_X7_takeSetup : Room := { frames := 8, cells := 0, slots := 0, locals := 202 }
theorem km_X7_takeSetup : KM yX7_takeSetup cX7_takeSetup 1 (some .boolean) 0 := ⟨co_X7_takeSetup, in_RX7, by decide +kernel⟩
set_option maxHeartbeats 4000000 in
set_option maxRecDepth 100000 in
theorem c_X7_takeSetup (F : Nat) (l : Launch) (G : GT) (h_bx h_te h_se h_ca h_st h_hi h_fo h_tr h_bx_results h_ca_priorities h_ca_associativities h_ca_symbols h_ca_letters h_hi_states h_se_priorities h_se_associativities h_se_symbols h_se_letters h_st_filters h_st_variables h_te_characters : Nat) (ca_operands : Int32) (hi_size : Int32) (se_operands : Int32) (st_pipelineLength : Int32) (te_length : Int32) (ca_associativities : Nat → Int32) (ca_letters : Nat → Int32) (ca_priorities : Nat → Int32) (ca_symbols : Nat → Int32) (se_associativities : Nat → Int32) (se_letters : Nat → Int32) (se_priorities : Nat → Int32) (se_symbols : Nat → Int32) (st_variables : Nat → Int32) (te_characters : Nat → Int32) (sz : Nat) (out : Int32 × (Nat → Int32) × (Nat → Int32) × Int32 × (Nat → Int32) × (Nat → Int32) × Int32 × (Nat → Int32) × (Nat → Int32) × Int32 × (Nat → Int32) × (Nat → Int32) × Int32 × (Nat → Int32)) (h : f_X7_takeSetup F ca_associativities ca_letters ca_operands ca_priorities ca_symbols hi_size se_associativities se_letters se_operands se_priorities se_symbols st_pipelineLength st_variables te_characters te_length = some out) : Ci G l yX7_takeSetup cX7_takeSetup 1 (some .boolean) rm_X7_takeSetup [.ref h_bx] [(h_bx, .inr (6, [.ref h_te, .ref h_se, .ref h_ca, .ref h_st, .ref h_hi, .ref h_fo, .ref h_tr, .ref h_bx_results])), (h_ca, .inr (3, [.ref h_ca_priorities, .ref h_ca_associativities, .ref h_ca_symbols, .ref h_ca_letters, .int ca_operands])), (h_hi, .inr (2, [.ref h_hi_states, .int hi_size])), (h_se, .inr (3, [.ref h_se_priorities, .ref h_se_associativities, .ref h_se_symbols, .ref h_se_letters, .int se_operands])), (h_st, .inr (0, [.ref h_st_filters, .ref h_st_variables, .int st_pipelineLength])), (h_te, .inr (4, [.ref h_te_characters, .int te_length])), (h_ca_associativities, .inl (gI G, 9, .inl ca_associativities)), (h_ca_letters, .inl (gI G, 11, .inl ca_letters)), (h_ca_priorities, .inl (gI G, 9, .inl ca_priorities)), (h_ca_symbols, .inl (gI G, 10, .inl ca_symbols)), (h_se_associativities, .inl (gI G, 9, .inl se_associativities)), (h_se_letters, .inl (gI G, 11, .inl se_letters)), (h_se_priorities, .inl (gI G, 9, .inl se_priorities)), (h_se_symbols, .inl (gI G, 10, .inl se_symbols)), (h_st_variables, .inl (gI G, 26, .inl st_variables)), (h_te_characters, .inl (gC G, 200, .inl te_characters))] sz (out.1) (fun _ => [(h_bx, .inr (6, [.ref h_te, .ref h_se, .ref h_ca, .ref h_st, .ref h_hi, .ref h_fo, .ref h_tr, .ref h_bx_results])), (h_ca, .inr (3, [.ref h_ca_priorities, .ref h_ca_associativities, .ref h_ca_symbols, .ref h_ca_letters, .int (out.2.2.2.1)])), (h_hi, .inr (2, [.ref h_hi_states, .int (out.2.2.2.2.2.2.1)])), (h_se, .inr (3, [.ref h_se_priorities, .ref h_se_associativities, .ref h_se_symbols, .ref h_se_letters, .int (out.2.2.2.2.2.2.2.2.2.1)])), (h_st, .inr (0, [.ref h_st_filters, .ref h_st_variables, .int (out.2.2.2.2.2.2.2.2.2.2.2.2.1)])), (h_te, .inr (4, [.ref h_te_characters, .int te_length])), (h_ca_associativities, .inl (gI G, 9, .inl (out.2.1))), (h_ca_letters, .inl (gI G, 11, .inl (out.2.2.1))), (h_ca_priorities, .inl (gI G, 9, .inl (out.2.2.2.2.1))), (h_ca_symbols, .inl (gI G, 10, .inl (out.2.2.2.2.2.1))), (h_se_associativities, .inl (gI G, 9, .inl (out.2.2.2.2.2.2.2.1))), (h_se_letters, .inl (gI G, 11, .inl (out.2.2.2.2.2.2.2.2.1))), (h_se_priorities, .inl (gI G, 9, .inl (out.2.2.2.2.2.2.2.2.2.2.1))), (h_se_symbols, .inl (gI G, 10, .inl (out.2.2.2.2.2.2.2.2.2.2.2.1))), (h_st_variables, .inl (gI G, 26, .inl (out.2.2.2.2.2.2.2.2.2.2.2.2.2))), (h_te_characters, .inl (gC G, 200, .inl te_characters))]) := by
  refine Ci.start rfl (by decide) (Nat.le_of_ble_eq_true rfl) ?_
  intro p e s m args below meth c A Q H locs ls hB hP hD hS hl hret
  obtain ⟨hx, hb, hmL, hr, hown, hts, hlocks, hnm, hA, hE⟩ := id hB
  obtain ⟨hK, hN, hV, hR, hZ, hZq, hAO⟩ := id hE
  have hown : s.vm.findClass RX7 = some m.cls := hown
  have hl : lv_has ls 1 [(0, .ref h_bx)] := hl
  rw [f_X7_takeSetup] at h
  refine lv_aload_n hx hb dX7_takeSetup_0 rfl (lv_at hl 0 rfl) ?_
  refine va_get (D := gD G) (ci := 6) (v := .ref h_te) (C := RX7) (T := TX7) (N := 8) hx hb hts lk_X7 hown hK hP 0 rfl rfl 0 (by decide) (hts _ fl_RX7_12) (fun _ h9 => h9) rfl dX7_takeSetup_1 ?_
  refine lv_aload_n hx hb dX7_takeSetup_4 rfl (lv_at hl 0 rfl) ?_
  refine va_get (D := gD G) (ci := 6) (v := .ref h_ca) (C := RX7) (T := TX7) (N := 8) hx hb hts lk_X7 hown hK hP 0 rfl rfl 2 (by decide) (hts _ fl_RX7_23) (fun _ h9 => h9) rfl dX7_takeSetup_5 ?_
  obtain ⟨o8, e8, h⟩ := bd h
  refine Ci.V (wr := [(h_bx, .inr (6, [.ref h_te, .ref h_se, .ref h_ca, .ref h_st, .ref h_hi, .ref h_fo, .ref h_tr, .ref h_bx_results])), (h_hi, .inr (2, [.ref h_hi_states, .int hi_size])), (h_se, .inr (3, [.ref h_se_priorities, .ref h_se_associativities, .ref h_se_symbols, .ref h_se_letters, .int se_operands])), (h_st, .inr (0, [.ref h_st_filters, .ref h_st_variables, .int st_pipelineLength])), (h_se_associativities, .inl (gI G, 9, .inl se_associativities)), (h_se_letters, .inl (gI G, 11, .inl se_letters)), (h_se_priorities, .inl (gI G, 9, .inl se_priorities)), (h_se_symbols, .inl (gI G, 10, .inl se_symbols)), (h_st_variables, .inl (gI G, 26, .inl st_variables))]) (c_X5_parse F l G h_ca h_ca_priorities h_ca_associativities h_ca_symbols h_ca_letters h_te h_te_characters ca_operands te_length ca_associativities ca_letters ca_priorities ca_symbols te_characters H.size o8 e8) hB km_X5_parse ⟨im_X5_parse, sl_X5_parse⟩ ml_RX7_84 hP hD hS hl ⟨1, 4, _, _, rfl, rfl, rfl⟩ [1, 5, 6, 7, 8, 9, 15] [0, 2, 3, 4, 10, 11, 12, 13, 14] ⟨rfl, rfl, ⟨rfl, rfl⟩, by decide⟩ ⟨⟨Nat.le_of_ble_eq_true rfl, Nat.le_of_ble_eq_true rfl⟩, Nat.le_of_ble_eq_true rfl, Nat.le_of_ble_eq_true rfl, Nat.le_of_ble_eq_true rfl⟩ rfl dX7_takeSetup_8 (fun z H locs hP hD hS => ?_)
  have hP : va_P (gD G) vwCl [(h_bx, .inr (6, [.ref h_te, .ref h_se, .ref h_ca, .ref h_st, .ref h_hi, .ref h_fo, .ref h_tr, .ref h_bx_results])), (h_hi, .inr (2, [.ref h_hi_states, .int hi_size])), (h_se, .inr (3, [.ref h_se_priorities, .ref h_se_associativities, .ref h_se_symbols, .ref h_se_letters, .int se_operands])), (h_st, .inr (0, [.ref h_st_filters, .ref h_st_variables, .int st_pipelineLength])), (h_se_associativities, .inl (gI G, 9, .inl se_associativities)), (h_se_letters, .inl (gI G, 11, .inl se_letters)), (h_se_priorities, .inl (gI G, 9, .inl se_priorities)), (h_se_symbols, .inl (gI G, 10, .inl se_symbols)), (h_st_variables, .inl (gI G, 26, .inl st_variables)), (h_ca, .inr (3, [.ref h_ca_priorities, .ref h_ca_associativities, .ref h_ca_symbols, .ref h_ca_letters, .int (o8.2.2.2.1)])), (h_te, .inr (4, [.ref h_te_characters, .int te_length])), (h_ca_associativities, .inl (gI G, 9, .inl (o8.2.1))), (h_ca_letters, .inl (gI G, 11, .inl (o8.2.2.1))), (h_ca_priorities, .inl (gI G, 9, .inl (o8.2.2.2.2.1))), (h_ca_symbols, .inl (gI G, 10, .inl (o8.2.2.2.2.2))), (h_te_characters, .inl (gC G, 200, .inl te_characters))] H := hP
  have hD : va_D A [(h_bx, .inr (6, [.ref h_te, .ref h_se, .ref h_ca, .ref h_st, .ref h_hi, .ref h_fo, .ref h_tr, .ref h_bx_results])), (h_hi, .inr (2, [.ref h_hi_states, .int hi_size])), (h_se, .inr (3, [.ref h_se_priorities, .ref h_se_associativities, .ref h_se_symbols, .ref h_se_letters, .int se_operands])), (h_st, .inr (0, [.ref h_st_filters, .ref h_st_variables, .int st_pipelineLength])), (h_se_associativities, .inl (gI G, 9, .inl se_associativities)), (h_se_letters, .inl (gI G, 11, .inl se_letters)), (h_se_priorities, .inl (gI G, 9, .inl se_priorities)), (h_se_symbols, .inl (gI G, 10, .inl se_symbols)), (h_st_variables, .inl (gI G, 26, .inl st_variables)), (h_ca, .inr (3, [.ref h_ca_priorities, .ref h_ca_associativities, .ref h_ca_symbols, .ref h_ca_letters, .int (o8.2.2.2.1)])), (h_te, .inr (4, [.ref h_te_characters, .int te_length])), (h_ca_associativities, .inl (gI G, 9, .inl (o8.2.1))), (h_ca_letters, .inl (gI G, 11, .inl (o8.2.2.1))), (h_ca_priorities, .inl (gI G, 9, .inl (o8.2.2.2.2.1))), (h_ca_symbols, .inl (gI G, 10, .inl (o8.2.2.2.2.2))), (h_te_characters, .inl (gC G, 200, .inl te_characters))] := hD
  refine lv_bipush (v := (-4)) hx hb dX7_takeSetup_11 (by decide) ?_
  refine lv_icmp_ne (tgt := 26) hx hb dX7_takeSetup_13 (by decide) (fun c13 => ?_) (fun c13 => ?_)
  · have h := ing c13 h
    refine lv_iconst (v := 0) hx hb dX7_takeSetup_26 (by decide) ?_
    cases h
    exact hret (fun _ => 0) _ _ _ _ (hP.sub [0, 9, 1, 2, 3, 10, 11, 12, 13, 14, 4, 5, 6, 7, 8, 15] rfl) (hD.sub [0, 9, 1, 2, 3, 10, 11, 12, 13, 14, 4, 5, 6, 7, 8, 15] (by decide) rfl) hS (nz (Or.inl rfl)) dX7_takeSetup_27
  · have h := ip c13 h
    refine lv_aload_n hx hb dX7_takeSetup_16 rfl (lv_at hl 0 rfl) ?_
    refine va_get (D := gD G) (ci := 6) (v := .ref h_ca) (C := RX7) (T := TX7) (N := 8) hx hb hts lk_X7 hown hK hP 0 rfl rfl 2 (by decide) (hts _ fl_RX7_23) (fun _ h9 => h9) rfl dX7_takeSetup_17 ?_
    obtain ⟨o20, e20, h⟩ := bd h
    refine Ci.V (wr := [(h_bx, .inr (6, [.ref h_te, .ref h_se, .ref h_ca, .ref h_st, .ref h_hi, .ref h_fo, .ref h_tr, .ref h_bx_results])), (h_hi, .inr (2, [.ref h_hi_states, .int hi_size])), (h_se, .inr (3, [.ref h_se_priorities, .ref h_se_associativities, .ref h_se_symbols, .ref h_se_letters, .int se_operands])), (h_st, .inr (0, [.ref h_st_filters, .ref h_st_variables, .int st_pipelineLength])), (h_se_associativities, .inl (gI G, 9, .inl se_associativities)), (h_se_letters, .inl (gI G, 11, .inl se_letters)), (h_se_priorities, .inl (gI G, 9, .inl se_priorities)), (h_se_symbols, .inl (gI G, 10, .inl se_symbols)), (h_st_variables, .inl (gI G, 26, .inl st_variables)), (h_te, .inr (4, [.ref h_te_characters, .int te_length])), (h_ca_associativities, .inl (gI G, 9, .inl (o8.2.1))), (h_ca_letters, .inl (gI G, 11, .inl (o8.2.2.1))), (h_ca_priorities, .inl (gI G, 9, .inl (o8.2.2.2.2.1))), (h_ca_symbols, .inl (gI G, 10, .inl (o8.2.2.2.2.2))), (h_te_characters, .inl (gC G, 200, .inl te_characters))]) (c_X4_hasExpression F l G h_ca h_ca_priorities h_ca_associativities h_ca_symbols h_ca_letters (o8.2.2.2.1) H.size o20 e20) hB km_X4_hasExpression ⟨im_X4_hasExpression, sl_X4_hasExpression⟩ ml_RX7_91 hP hD hS hl ⟨0, 3, _, _, rfl, rfl, rfl⟩ [9] [0, 1, 2, 3, 4, 5, 6, 7, 8, 10, 11, 12, 13, 14, 15] ⟨rfl, rfl, ⟨rfl, rfl⟩, by decide⟩ ⟨⟨Nat.le_of_ble_eq_true rfl, Nat.le_of_ble_eq_true rfl⟩, Nat.le_of_ble_eq_true rfl, Nat.le_of_ble_eq_true rfl, Nat.le_of_ble_eq_true rfl⟩ rfl dX7_takeSetup_20 (fun z H locs hP hD hS => ?_)
    have hP : va_P (gD G) vwCl [(h_bx, .inr (6, [.ref h_te, .ref h_se, .ref h_ca, .ref h_st, .ref h_hi, .ref h_fo, .ref h_tr, .ref h_bx_results])), (h_hi, .inr (2, [.ref h_hi_states, .int hi_size])), (h_se, .inr (3, [.ref h_se_priorities, .ref h_se_associativities, .ref h_se_symbols, .ref h_se_letters, .int se_operands])), (h_st, .inr (0, [.ref h_st_filters, .ref h_st_variables, .int st_pipelineLength])), (h_se_associativities, .inl (gI G, 9, .inl se_associativities)), (h_se_letters, .inl (gI G, 11, .inl se_letters)), (h_se_priorities, .inl (gI G, 9, .inl se_priorities)), (h_se_symbols, .inl (gI G, 10, .inl se_symbols)), (h_st_variables, .inl (gI G, 26, .inl st_variables)), (h_te, .inr (4, [.ref h_te_characters, .int te_length])), (h_ca_associativities, .inl (gI G, 9, .inl (o8.2.1))), (h_ca_letters, .inl (gI G, 11, .inl (o8.2.2.1))), (h_ca_priorities, .inl (gI G, 9, .inl (o8.2.2.2.2.1))), (h_ca_symbols, .inl (gI G, 10, .inl (o8.2.2.2.2.2))), (h_te_characters, .inl (gC G, 200, .inl te_characters)), (h_ca, .inr (3, [.ref h_ca_priorities, .ref h_ca_associativities, .ref h_ca_symbols, .ref h_ca_letters, .int (o8.2.2.2.1)]))] H := hP
    have hD : va_D A [(h_bx, .inr (6, [.ref h_te, .ref h_se, .ref h_ca, .ref h_st, .ref h_hi, .ref h_fo, .ref h_tr, .ref h_bx_results])), (h_hi, .inr (2, [.ref h_hi_states, .int hi_size])), (h_se, .inr (3, [.ref h_se_priorities, .ref h_se_associativities, .ref h_se_symbols, .ref h_se_letters, .int se_operands])), (h_st, .inr (0, [.ref h_st_filters, .ref h_st_variables, .int st_pipelineLength])), (h_se_associativities, .inl (gI G, 9, .inl se_associativities)), (h_se_letters, .inl (gI G, 11, .inl se_letters)), (h_se_priorities, .inl (gI G, 9, .inl se_priorities)), (h_se_symbols, .inl (gI G, 10, .inl se_symbols)), (h_st_variables, .inl (gI G, 26, .inl st_variables)), (h_te, .inr (4, [.ref h_te_characters, .int te_length])), (h_ca_associativities, .inl (gI G, 9, .inl (o8.2.1))), (h_ca_letters, .inl (gI G, 11, .inl (o8.2.2.1))), (h_ca_priorities, .inl (gI G, 9, .inl (o8.2.2.2.2.1))), (h_ca_symbols, .inl (gI G, 10, .inl (o8.2.2.2.2.2))), (h_te_characters, .inl (gC G, 200, .inl te_characters)), (h_ca, .inr (3, [.ref h_ca_priorities, .ref h_ca_associativities, .ref h_ca_symbols, .ref h_ca_letters, .int (o8.2.2.2.1)]))] := hD
    refine lv_if_ne (tgt := 28) hx hb dX7_takeSetup_23 (by decide) (fun c23 => ?_) (fun c23 => ?_)
    · have h := ing c23 h
      refine lv_aload_n hx hb dX7_takeSetup_28 rfl (lv_at hl 0 rfl) ?_
      refine va_get (D := gD G) (ci := 6) (v := .ref h_se) (C := RX7) (T := TX7) (N := 8) hx hb hts lk_X7 hown hK hP 0 rfl rfl 1 (by decide) (hts _ fl_RX7_19) (fun _ h9 => h9) rfl dX7_takeSetup_29 ?_
      refine lv_aload_n hx hb dX7_takeSetup_32 rfl (lv_at hl 0 rfl) ?_
      refine va_get (D := gD G) (ci := 6) (v := .ref h_ca) (C := RX7) (T := TX7) (N := 8) hx hb hts lk_X7 hown hK hP 0 rfl rfl 2 (by decide) (hts _ fl_RX7_23) (fun _ h9 => h9) rfl dX7_takeSetup_33 ?_
      obtain ⟨o36, e36, h⟩ := bd h
      refine Cv.V (wr := [(h_bx, .inr (6, [.ref h_te, .ref h_se, .ref h_ca, .ref h_st, .ref h_hi, .ref h_fo, .ref h_tr, .ref h_bx_results])), (h_hi, .inr (2, [.ref h_hi_states, .int hi_size])), (h_st, .inr (0, [.ref h_st_filters, .ref h_st_variables, .int st_pipelineLength])), (h_st_variables, .inl (gI G, 26, .inl st_variables)), (h_te, .inr (4, [.ref h_te_characters, .int te_length])), (h_te_characters, .inl (gC G, 200, .inl te_characters))]) (c_X4_copyFrom F l G h_ca h_ca_priorities h_ca_associativities h_ca_symbols h_ca_letters h_se h_se_priorities h_se_associativities h_se_symbols h_se_letters (o8.2.2.2.1) se_operands (o8.2.1) (o8.2.2.1) (o8.2.2.2.2.1) (o8.2.2.2.2.2) se_associativities se_letters se_priorities se_symbols H.size o36 e36) hB km_X4_copyFrom ⟨im_X4_copyFrom, sl_X4_copyFrom⟩ ml_RX7_94 hP hD hS hl ⟨1, 3, _, _, rfl, rfl, rfl⟩ [15, 2, 10, 11, 12, 13, 4, 5, 6, 7] [0, 1, 3, 8, 9, 14] ⟨rfl, rfl, ⟨rfl, rfl⟩, by decide⟩ ⟨⟨Nat.le_of_ble_eq_true rfl, Nat.le_of_ble_eq_true rfl⟩, Nat.le_of_ble_eq_true rfl, Nat.le_of_ble_eq_true rfl, Nat.le_of_ble_eq_true rfl⟩ rfl dX7_takeSetup_36 (fun z H locs hP hD hS => ?_)
      have hP : va_P (gD G) vwCl [(h_bx, .inr (6, [.ref h_te, .ref h_se, .ref h_ca, .ref h_st, .ref h_hi, .ref h_fo, .ref h_tr, .ref h_bx_results])), (h_hi, .inr (2, [.ref h_hi_states, .int hi_size])), (h_st, .inr (0, [.ref h_st_filters, .ref h_st_variables, .int st_pipelineLength])), (h_st_variables, .inl (gI G, 26, .inl st_variables)), (h_te, .inr (4, [.ref h_te_characters, .int te_length])), (h_te_characters, .inl (gC G, 200, .inl te_characters)), (h_ca, .inr (3, [.ref h_ca_priorities, .ref h_ca_associativities, .ref h_ca_symbols, .ref h_ca_letters, .int (o8.2.2.2.1)])), (h_se, .inr (3, [.ref h_se_priorities, .ref h_se_associativities, .ref h_se_symbols, .ref h_se_letters, .int (o36.2.2.1)])), (h_ca_associativities, .inl (gI G, 9, .inl (o8.2.1))), (h_ca_letters, .inl (gI G, 11, .inl (o8.2.2.1))), (h_ca_priorities, .inl (gI G, 9, .inl (o8.2.2.2.2.1))), (h_ca_symbols, .inl (gI G, 10, .inl (o8.2.2.2.2.2))), (h_se_associativities, .inl (gI G, 9, .inl (o36.1))), (h_se_letters, .inl (gI G, 11, .inl (o36.2.1))), (h_se_priorities, .inl (gI G, 9, .inl (o36.2.2.2.1))), (h_se_symbols, .inl (gI G, 10, .inl (o36.2.2.2.2)))] H := hP
      have hD : va_D A [(h_bx, .inr (6, [.ref h_te, .ref h_se, .ref h_ca, .ref h_st, .ref h_hi, .ref h_fo, .ref h_tr, .ref h_bx_results])), (h_hi, .inr (2, [.ref h_hi_states, .int hi_size])), (h_st, .inr (0, [.ref h_st_filters, .ref h_st_variables, .int st_pipelineLength])), (h_st_variables, .inl (gI G, 26, .inl st_variables)), (h_te, .inr (4, [.ref h_te_characters, .int te_length])), (h_te_characters, .inl (gC G, 200, .inl te_characters)), (h_ca, .inr (3, [.ref h_ca_priorities, .ref h_ca_associativities, .ref h_ca_symbols, .ref h_ca_letters, .int (o8.2.2.2.1)])), (h_se, .inr (3, [.ref h_se_priorities, .ref h_se_associativities, .ref h_se_symbols, .ref h_se_letters, .int (o36.2.2.1)])), (h_ca_associativities, .inl (gI G, 9, .inl (o8.2.1))), (h_ca_letters, .inl (gI G, 11, .inl (o8.2.2.1))), (h_ca_priorities, .inl (gI G, 9, .inl (o8.2.2.2.2.1))), (h_ca_symbols, .inl (gI G, 10, .inl (o8.2.2.2.2.2))), (h_se_associativities, .inl (gI G, 9, .inl (o36.1))), (h_se_letters, .inl (gI G, 11, .inl (o36.2.1))), (h_se_priorities, .inl (gI G, 9, .inl (o36.2.2.2.1))), (h_se_symbols, .inl (gI G, 10, .inl (o36.2.2.2.2)))] := hD
      refine lv_aload_n hx hb dX7_takeSetup_39 rfl (lv_at hl 0 rfl) ?_
      refine va_get (D := gD G) (ci := 6) (v := .ref h_st) (C := RX7) (T := TX7) (N := 8) hx hb hts lk_X7 hown hK hP 0 rfl rfl 3 (by decide) (hts _ fl_RX7_29) (fun _ h9 => h9) rfl dX7_takeSetup_40 ?_
      obtain ⟨o43, e43, h⟩ := bd h
      refine Cv.V (wr := [(h_bx, .inr (6, [.ref h_te, .ref h_se, .ref h_ca, .ref h_st, .ref h_hi, .ref h_fo, .ref h_tr, .ref h_bx_results])), (h_hi, .inr (2, [.ref h_hi_states, .int hi_size])), (h_te, .inr (4, [.ref h_te_characters, .int te_length])), (h_te_characters, .inl (gC G, 200, .inl te_characters)), (h_ca, .inr (3, [.ref h_ca_priorities, .ref h_ca_associativities, .ref h_ca_symbols, .ref h_ca_letters, .int (o8.2.2.2.1)])), (h_se, .inr (3, [.ref h_se_priorities, .ref h_se_associativities, .ref h_se_symbols, .ref h_se_letters, .int (o36.2.2.1)])), (h_ca_associativities, .inl (gI G, 9, .inl (o8.2.1))), (h_ca_letters, .inl (gI G, 11, .inl (o8.2.2.1))), (h_ca_priorities, .inl (gI G, 9, .inl (o8.2.2.2.2.1))), (h_ca_symbols, .inl (gI G, 10, .inl (o8.2.2.2.2.2))), (h_se_associativities, .inl (gI G, 9, .inl (o36.1))), (h_se_letters, .inl (gI G, 11, .inl (o36.2.1))), (h_se_priorities, .inl (gI G, 9, .inl (o36.2.2.2.1))), (h_se_symbols, .inl (gI G, 10, .inl (o36.2.2.2.2)))]) (c_X0_reset F l G h_st h_st_filters h_st_variables st_pipelineLength st_variables H.size o43 e43) hB km_X0_reset ⟨im_X0_reset, sl_X0_reset⟩ ml_RX7_98 hP hD hS hl ⟨0, 0, _, _, rfl, rfl, rfl⟩ [2, 3] [0, 1, 4, 5, 6, 7, 8, 9, 10, 11, 12, 13, 14, 15] ⟨rfl, rfl, ⟨rfl, rfl⟩, by decide⟩ ⟨⟨Nat.le_of_ble_eq_true rfl, Nat.le_of_ble_eq_true rfl⟩, Nat.le_of_ble_eq_true rfl, Nat.le_of_ble_eq_true rfl, Nat.le_of_ble_eq_true rfl⟩ rfl dX7_takeSetup_43 (fun z H locs hP hD hS => ?_)
      have hP : va_P (gD G) vwCl [(h_bx, .inr (6, [.ref h_te, .ref h_se, .ref h_ca, .ref h_st, .ref h_hi, .ref h_fo, .ref h_tr, .ref h_bx_results])), (h_hi, .inr (2, [.ref h_hi_states, .int hi_size])), (h_te, .inr (4, [.ref h_te_characters, .int te_length])), (h_te_characters, .inl (gC G, 200, .inl te_characters)), (h_ca, .inr (3, [.ref h_ca_priorities, .ref h_ca_associativities, .ref h_ca_symbols, .ref h_ca_letters, .int (o8.2.2.2.1)])), (h_se, .inr (3, [.ref h_se_priorities, .ref h_se_associativities, .ref h_se_symbols, .ref h_se_letters, .int (o36.2.2.1)])), (h_ca_associativities, .inl (gI G, 9, .inl (o8.2.1))), (h_ca_letters, .inl (gI G, 11, .inl (o8.2.2.1))), (h_ca_priorities, .inl (gI G, 9, .inl (o8.2.2.2.2.1))), (h_ca_symbols, .inl (gI G, 10, .inl (o8.2.2.2.2.2))), (h_se_associativities, .inl (gI G, 9, .inl (o36.1))), (h_se_letters, .inl (gI G, 11, .inl (o36.2.1))), (h_se_priorities, .inl (gI G, 9, .inl (o36.2.2.2.1))), (h_se_symbols, .inl (gI G, 10, .inl (o36.2.2.2.2))), (h_st, .inr (0, [.ref h_st_filters, .ref h_st_variables, .int (o43.1)])), (h_st_variables, .inl (gI G, 26, .inl (o43.2)))] H := hP
      have hD : va_D A [(h_bx, .inr (6, [.ref h_te, .ref h_se, .ref h_ca, .ref h_st, .ref h_hi, .ref h_fo, .ref h_tr, .ref h_bx_results])), (h_hi, .inr (2, [.ref h_hi_states, .int hi_size])), (h_te, .inr (4, [.ref h_te_characters, .int te_length])), (h_te_characters, .inl (gC G, 200, .inl te_characters)), (h_ca, .inr (3, [.ref h_ca_priorities, .ref h_ca_associativities, .ref h_ca_symbols, .ref h_ca_letters, .int (o8.2.2.2.1)])), (h_se, .inr (3, [.ref h_se_priorities, .ref h_se_associativities, .ref h_se_symbols, .ref h_se_letters, .int (o36.2.2.1)])), (h_ca_associativities, .inl (gI G, 9, .inl (o8.2.1))), (h_ca_letters, .inl (gI G, 11, .inl (o8.2.2.1))), (h_ca_priorities, .inl (gI G, 9, .inl (o8.2.2.2.2.1))), (h_ca_symbols, .inl (gI G, 10, .inl (o8.2.2.2.2.2))), (h_se_associativities, .inl (gI G, 9, .inl (o36.1))), (h_se_letters, .inl (gI G, 11, .inl (o36.2.1))), (h_se_priorities, .inl (gI G, 9, .inl (o36.2.2.2.1))), (h_se_symbols, .inl (gI G, 10, .inl (o36.2.2.2.2))), (h_st, .inr (0, [.ref h_st_filters, .ref h_st_variables, .int (o43.1)])), (h_st_variables, .inl (gI G, 26, .inl (o43.2)))] := hD
      refine lv_aload_n hx hb dX7_takeSetup_46 rfl (lv_at hl 0 rfl) ?_
      refine va_get (D := gD G) (ci := 6) (v := .ref h_hi) (C := RX7) (T := TX7) (N := 8) hx hb hts lk_X7 hown hK hP 0 rfl rfl 4 (by decide) (hts _ fl_RX7_36) (fun _ h9 => h9) rfl dX7_takeSetup_47 ?_
      obtain ⟨o50, e50, h⟩ := bd h
      refine Cv.V (wr := [(h_bx, .inr (6, [.ref h_te, .ref h_se, .ref h_ca, .ref h_st, .ref h_hi, .ref h_fo, .ref h_tr, .ref h_bx_results])), (h_te, .inr (4, [.ref h_te_characters, .int te_length])), (h_te_characters, .inl (gC G, 200, .inl te_characters)), (h_ca, .inr (3, [.ref h_ca_priorities, .ref h_ca_associativities, .ref h_ca_symbols, .ref h_ca_letters, .int (o8.2.2.2.1)])), (h_se, .inr (3, [.ref h_se_priorities, .ref h_se_associativities, .ref h_se_symbols, .ref h_se_letters, .int (o36.2.2.1)])), (h_ca_associativities, .inl (gI G, 9, .inl (o8.2.1))), (h_ca_letters, .inl (gI G, 11, .inl (o8.2.2.1))), (h_ca_priorities, .inl (gI G, 9, .inl (o8.2.2.2.2.1))), (h_ca_symbols, .inl (gI G, 10, .inl (o8.2.2.2.2.2))), (h_se_associativities, .inl (gI G, 9, .inl (o36.1))), (h_se_letters, .inl (gI G, 11, .inl (o36.2.1))), (h_se_priorities, .inl (gI G, 9, .inl (o36.2.2.2.1))), (h_se_symbols, .inl (gI G, 10, .inl (o36.2.2.2.2))), (h_st, .inr (0, [.ref h_st_filters, .ref h_st_variables, .int (o43.1)])), (h_st_variables, .inl (gI G, 26, .inl (o43.2)))]) (c_X3_reset F l G h_hi h_hi_states hi_size H.size o50 e50) hB km_X3_reset ⟨im_X3_reset, sl_X3_reset⟩ ml_RX7_101 hP hD hS hl ⟨0, 2, _, _, rfl, rfl, rfl⟩ [1] [0, 2, 3, 4, 5, 6, 7, 8, 9, 10, 11, 12, 13, 14, 15] ⟨rfl, rfl, ⟨rfl, rfl⟩, by decide⟩ ⟨⟨Nat.le_of_ble_eq_true rfl, Nat.le_of_ble_eq_true rfl⟩, Nat.le_of_ble_eq_true rfl, Nat.le_of_ble_eq_true rfl, Nat.le_of_ble_eq_true rfl⟩ rfl dX7_takeSetup_50 (fun z H locs hP hD hS => ?_)
      have hP : va_P (gD G) vwCl [(h_bx, .inr (6, [.ref h_te, .ref h_se, .ref h_ca, .ref h_st, .ref h_hi, .ref h_fo, .ref h_tr, .ref h_bx_results])), (h_te, .inr (4, [.ref h_te_characters, .int te_length])), (h_te_characters, .inl (gC G, 200, .inl te_characters)), (h_ca, .inr (3, [.ref h_ca_priorities, .ref h_ca_associativities, .ref h_ca_symbols, .ref h_ca_letters, .int (o8.2.2.2.1)])), (h_se, .inr (3, [.ref h_se_priorities, .ref h_se_associativities, .ref h_se_symbols, .ref h_se_letters, .int (o36.2.2.1)])), (h_ca_associativities, .inl (gI G, 9, .inl (o8.2.1))), (h_ca_letters, .inl (gI G, 11, .inl (o8.2.2.1))), (h_ca_priorities, .inl (gI G, 9, .inl (o8.2.2.2.2.1))), (h_ca_symbols, .inl (gI G, 10, .inl (o8.2.2.2.2.2))), (h_se_associativities, .inl (gI G, 9, .inl (o36.1))), (h_se_letters, .inl (gI G, 11, .inl (o36.2.1))), (h_se_priorities, .inl (gI G, 9, .inl (o36.2.2.2.1))), (h_se_symbols, .inl (gI G, 10, .inl (o36.2.2.2.2))), (h_st, .inr (0, [.ref h_st_filters, .ref h_st_variables, .int (o43.1)])), (h_st_variables, .inl (gI G, 26, .inl (o43.2))), (h_hi, .inr (2, [.ref h_hi_states, .int o50]))] H := hP
      have hD : va_D A [(h_bx, .inr (6, [.ref h_te, .ref h_se, .ref h_ca, .ref h_st, .ref h_hi, .ref h_fo, .ref h_tr, .ref h_bx_results])), (h_te, .inr (4, [.ref h_te_characters, .int te_length])), (h_te_characters, .inl (gC G, 200, .inl te_characters)), (h_ca, .inr (3, [.ref h_ca_priorities, .ref h_ca_associativities, .ref h_ca_symbols, .ref h_ca_letters, .int (o8.2.2.2.1)])), (h_se, .inr (3, [.ref h_se_priorities, .ref h_se_associativities, .ref h_se_symbols, .ref h_se_letters, .int (o36.2.2.1)])), (h_ca_associativities, .inl (gI G, 9, .inl (o8.2.1))), (h_ca_letters, .inl (gI G, 11, .inl (o8.2.2.1))), (h_ca_priorities, .inl (gI G, 9, .inl (o8.2.2.2.2.1))), (h_ca_symbols, .inl (gI G, 10, .inl (o8.2.2.2.2.2))), (h_se_associativities, .inl (gI G, 9, .inl (o36.1))), (h_se_letters, .inl (gI G, 11, .inl (o36.2.1))), (h_se_priorities, .inl (gI G, 9, .inl (o36.2.2.2.1))), (h_se_symbols, .inl (gI G, 10, .inl (o36.2.2.2.2))), (h_st, .inr (0, [.ref h_st_filters, .ref h_st_variables, .int (o43.1)])), (h_st_variables, .inl (gI G, 26, .inl (o43.2))), (h_hi, .inr (2, [.ref h_hi_states, .int o50]))] := hD
      refine lv_iconst (v := 1) hx hb dX7_takeSetup_53 (by decide) ?_
      cases h
      exact hret (fun _ => 0) _ _ _ _ (hP.sub [0, 3, 15, 4, 13, 1, 5, 6, 7, 8, 9, 10, 11, 12, 14, 2] rfl) (hD.sub [0, 3, 15, 4, 13, 1, 5, 6, 7, 8, 9, 10, 11, 12, 14, 2] (by decide) rfl) hS (nz (Or.inr rfl)) dX7_takeSetup_54
    · have h := ip c23 h
      refine lv_iconst (v := 0) hx hb dX7_takeSetup_26 (by decide) ?_
      cases h
      exact hret (fun _ => 0) _ _ _ _ (hP.sub [0, 15, 1, 2, 3, 9, 10, 11, 12, 13, 4, 5, 6, 7, 8, 14] rfl) (hD.sub [0, 15, 1, 2, 3, 9, 10, 11, 12, 13, 4, 5, 6, 7, 8, 14] (by decide) rfl) hS (nz (Or.inl rfl)) dX7_takeSetup_27
abbrev rm_X7_load : Room := { frames := 9, cells := 0, slots := 0, locals := 222 }
theorem km_X7_load : KM yX7_load cX7_load 1 (some .int) 0 := ⟨co_X7_load, in_RX7, by decide +kernel⟩
set_option maxHeartbeats 4000000 in
set_option maxRecDepth 100000 in
theorem c_X7_load (F : Nat) (l : Launch) (G : GT) (h_bx h_te h_se h_ca h_st h_hi h_fo h_tr h_bx_results h_ca_priorities h_ca_associativities h_ca_symbols h_ca_letters h_hi_states h_se_priorities h_se_associativities h_se_symbols h_se_letters h_st_filters h_st_variables h_te_characters : Nat) (ca_operands : Int32) (hi_size : Int32) (se_operands : Int32) (st_pipelineLength : Int32) (te_length : Int32) (ca_associativities : Nat → Int32) (ca_letters : Nat → Int32) (ca_priorities : Nat → Int32) (ca_symbols : Nat → Int32) (se_associativities : Nat → Int32) (se_letters : Nat → Int32) (se_priorities : Nat → Int32) (se_symbols : Nat → Int32) (st_variables : Nat → Int32) (te_characters : Nat → Int32) (sz : Nat) (out : Int32 × (Nat → Int32) × (Nat → Int32) × Int32 × (Nat → Int32) × (Nat → Int32) × Int32 × (Nat → Int32) × (Nat → Int32) × Int32 × (Nat → Int32) × (Nat → Int32) × Int32 × (Nat → Int32)) (h : f_X7_load F ca_associativities ca_letters ca_operands ca_priorities ca_symbols hi_size se_associativities se_letters se_operands se_priorities se_symbols st_pipelineLength st_variables te_characters te_length = some out) : Ci G l yX7_load cX7_load 1 (some .int) rm_X7_load [.ref h_bx] [(h_bx, .inr (6, [.ref h_te, .ref h_se, .ref h_ca, .ref h_st, .ref h_hi, .ref h_fo, .ref h_tr, .ref h_bx_results])), (h_ca, .inr (3, [.ref h_ca_priorities, .ref h_ca_associativities, .ref h_ca_symbols, .ref h_ca_letters, .int ca_operands])), (h_hi, .inr (2, [.ref h_hi_states, .int hi_size])), (h_se, .inr (3, [.ref h_se_priorities, .ref h_se_associativities, .ref h_se_symbols, .ref h_se_letters, .int se_operands])), (h_st, .inr (0, [.ref h_st_filters, .ref h_st_variables, .int st_pipelineLength])), (h_te, .inr (4, [.ref h_te_characters, .int te_length])), (h_ca_associativities, .inl (gI G, 9, .inl ca_associativities)), (h_ca_letters, .inl (gI G, 11, .inl ca_letters)), (h_ca_priorities, .inl (gI G, 9, .inl ca_priorities)), (h_ca_symbols, .inl (gI G, 10, .inl ca_symbols)), (h_se_associativities, .inl (gI G, 9, .inl se_associativities)), (h_se_letters, .inl (gI G, 11, .inl se_letters)), (h_se_priorities, .inl (gI G, 9, .inl se_priorities)), (h_se_symbols, .inl (gI G, 10, .inl se_symbols)), (h_st_variables, .inl (gI G, 26, .inl st_variables)), (h_te_characters, .inl (gC G, 200, .inl te_characters))] sz (out.1) (fun _ => [(h_bx, .inr (6, [.ref h_te, .ref h_se, .ref h_ca, .ref h_st, .ref h_hi, .ref h_fo, .ref h_tr, .ref h_bx_results])), (h_ca, .inr (3, [.ref h_ca_priorities, .ref h_ca_associativities, .ref h_ca_symbols, .ref h_ca_letters, .int (out.2.2.2.1)])), (h_hi, .inr (2, [.ref h_hi_states, .int (out.2.2.2.2.2.2.1)])), (h_se, .inr (3, [.ref h_se_priorities, .ref h_se_associativities, .ref h_se_symbols, .ref h_se_letters, .int (out.2.2.2.2.2.2.2.2.2.1)])), (h_st, .inr (0, [.ref h_st_filters, .ref h_st_variables, .int (out.2.2.2.2.2.2.2.2.2.2.2.2.1)])), (h_te, .inr (4, [.ref h_te_characters, .int te_length])), (h_ca_associativities, .inl (gI G, 9, .inl (out.2.1))), (h_ca_letters, .inl (gI G, 11, .inl (out.2.2.1))), (h_ca_priorities, .inl (gI G, 9, .inl (out.2.2.2.2.1))), (h_ca_symbols, .inl (gI G, 10, .inl (out.2.2.2.2.2.1))), (h_se_associativities, .inl (gI G, 9, .inl (out.2.2.2.2.2.2.2.1))), (h_se_letters, .inl (gI G, 11, .inl (out.2.2.2.2.2.2.2.2.1))), (h_se_priorities, .inl (gI G, 9, .inl (out.2.2.2.2.2.2.2.2.2.2.1))), (h_se_symbols, .inl (gI G, 10, .inl (out.2.2.2.2.2.2.2.2.2.2.2.1))), (h_st_variables, .inl (gI G, 26, .inl (out.2.2.2.2.2.2.2.2.2.2.2.2.2))), (h_te_characters, .inl (gC G, 200, .inl te_characters))]) := by
  refine Ci.start rfl (by decide) (Nat.le_of_ble_eq_true rfl) ?_
  intro p e s m args below meth c A Q H locs ls hB hP hD hS hl hret
  obtain ⟨hx, hb, hmL, hr, hown, hts, hlocks, hnm, hA, hE⟩ := id hB
  obtain ⟨hK, hN, hV, hR, hZ, hZq, hAO⟩ := id hE
  have hown : s.vm.findClass RX7 = some m.cls := hown
  have hl : lv_has ls 1 [(0, .ref h_bx)] := hl
  rw [f_X7_load] at h
  refine lv_aload_n hx hb dX7_load_0 rfl (lv_at hl 0 rfl) ?_
  obtain ⟨o1, e1, h⟩ := bd h
  refine Ci.V (wr := []) (c_X7_takeSetup F l G h_bx h_te h_se h_ca h_st h_hi h_fo h_tr h_bx_results h_ca_priorities h_ca_associativities h_ca_symbols h_ca_letters h_hi_states h_se_priorities h_se_associativities h_se_symbols h_se_letters h_st_filters h_st_variables h_te_characters ca_operands hi_size se_operands st_pipelineLength te_length ca_associativities ca_letters ca_priorities ca_symbols se_associativities se_letters se_priorities se_symbols st_variables te_characters H.size o1 e1) hB km_X7_takeSetup ⟨im_X7_takeSetup, sl_X7_takeSetup⟩ ml_RX7_74 hP hD hS hl ⟨0, 6, _, _, rfl, rfl, rfl⟩ [0, 1, 2, 3, 4, 5, 6, 7, 8, 9, 10, 11, 12, 13, 14, 15] [] ⟨rfl, rfl, ⟨rfl, rfl⟩, by decide⟩ ⟨⟨Nat.le_of_ble_eq_true rfl, Nat.le_of_ble_eq_true rfl⟩, Nat.le_of_ble_eq_true rfl, Nat.le_of_ble_eq_true rfl, Nat.le_of_ble_eq_true rfl⟩ rfl dX7_load_1 (fun z H locs hP hD hS => ?_)
  have hP : va_P (gD G) vwCl [(h_bx, .inr (6, [.ref h_te, .ref h_se, .ref h_ca, .ref h_st, .ref h_hi, .ref h_fo, .ref h_tr, .ref h_bx_results])), (h_ca, .inr (3, [.ref h_ca_priorities, .ref h_ca_associativities, .ref h_ca_symbols, .ref h_ca_letters, .int (o1.2.2.2.1)])), (h_hi, .inr (2, [.ref h_hi_states, .int (o1.2.2.2.2.2.2.1)])), (h_se, .inr (3, [.ref h_se_priorities, .ref h_se_associativities, .ref h_se_symbols, .ref h_se_letters, .int (o1.2.2.2.2.2.2.2.2.2.1)])), (h_st, .inr (0, [.ref h_st_filters, .ref h_st_variables, .int (o1.2.2.2.2.2.2.2.2.2.2.2.2.1)])), (h_te, .inr (4, [.ref h_te_characters, .int te_length])), (h_ca_associativities, .inl (gI G, 9, .inl (o1.2.1))), (h_ca_letters, .inl (gI G, 11, .inl (o1.2.2.1))), (h_ca_priorities, .inl (gI G, 9, .inl (o1.2.2.2.2.1))), (h_ca_symbols, .inl (gI G, 10, .inl (o1.2.2.2.2.2.1))), (h_se_associativities, .inl (gI G, 9, .inl (o1.2.2.2.2.2.2.2.1))), (h_se_letters, .inl (gI G, 11, .inl (o1.2.2.2.2.2.2.2.2.1))), (h_se_priorities, .inl (gI G, 9, .inl (o1.2.2.2.2.2.2.2.2.2.2.1))), (h_se_symbols, .inl (gI G, 10, .inl (o1.2.2.2.2.2.2.2.2.2.2.2.1))), (h_st_variables, .inl (gI G, 26, .inl (o1.2.2.2.2.2.2.2.2.2.2.2.2.2))), (h_te_characters, .inl (gC G, 200, .inl te_characters))] H := hP
  have hD : va_D A [(h_bx, .inr (6, [.ref h_te, .ref h_se, .ref h_ca, .ref h_st, .ref h_hi, .ref h_fo, .ref h_tr, .ref h_bx_results])), (h_ca, .inr (3, [.ref h_ca_priorities, .ref h_ca_associativities, .ref h_ca_symbols, .ref h_ca_letters, .int (o1.2.2.2.1)])), (h_hi, .inr (2, [.ref h_hi_states, .int (o1.2.2.2.2.2.2.1)])), (h_se, .inr (3, [.ref h_se_priorities, .ref h_se_associativities, .ref h_se_symbols, .ref h_se_letters, .int (o1.2.2.2.2.2.2.2.2.2.1)])), (h_st, .inr (0, [.ref h_st_filters, .ref h_st_variables, .int (o1.2.2.2.2.2.2.2.2.2.2.2.2.1)])), (h_te, .inr (4, [.ref h_te_characters, .int te_length])), (h_ca_associativities, .inl (gI G, 9, .inl (o1.2.1))), (h_ca_letters, .inl (gI G, 11, .inl (o1.2.2.1))), (h_ca_priorities, .inl (gI G, 9, .inl (o1.2.2.2.2.1))), (h_ca_symbols, .inl (gI G, 10, .inl (o1.2.2.2.2.2.1))), (h_se_associativities, .inl (gI G, 9, .inl (o1.2.2.2.2.2.2.2.1))), (h_se_letters, .inl (gI G, 11, .inl (o1.2.2.2.2.2.2.2.2.1))), (h_se_priorities, .inl (gI G, 9, .inl (o1.2.2.2.2.2.2.2.2.2.2.1))), (h_se_symbols, .inl (gI G, 10, .inl (o1.2.2.2.2.2.2.2.2.2.2.2.1))), (h_st_variables, .inl (gI G, 26, .inl (o1.2.2.2.2.2.2.2.2.2.2.2.2.2))), (h_te_characters, .inl (gC G, 200, .inl te_characters))] := hD
  refine lv_if_eq (tgt := 17) hx hb dX7_load_4 (by decide) (fun c4 => ?_) (fun c4 => ?_)
  · have h := ip c4 h
    refine lv_bipush (v := (-2)) hx hb dX7_load_17 (by decide) ?_
    cases h
    exact hret (fun _ => 0) _ _ _ _ hP hD hS rfl dX7_load_19
  · have h := ing c4 h
    refine lv_aload_n hx hb dX7_load_7 rfl (lv_at hl 0 rfl) ?_
    refine va_get (D := gD G) (ci := 6) (v := .ref h_se) (C := RX7) (T := TX7) (N := 8) hx hb hts lk_X7 hown hK hP 0 rfl rfl 1 (by decide) (hts _ fl_RX7_19) (fun _ h9 => h9) rfl dX7_load_8 ?_
    obtain ⟨o11, e11, h⟩ := bd h
    refine Ci.V (wr := [(h_bx, .inr (6, [.ref h_te, .ref h_se, .ref h_ca, .ref h_st, .ref h_hi, .ref h_fo, .ref h_tr, .ref h_bx_results])), (h_ca, .inr (3, [.ref h_ca_priorities, .ref h_ca_associativities, .ref h_ca_symbols, .ref h_ca_letters, .int (o1.2.2.2.1)])), (h_hi, .inr (2, [.ref h_hi_states, .int (o1.2.2.2.2.2.2.1)])), (h_st, .inr (0, [.ref h_st_filters, .ref h_st_variables, .int (o1.2.2.2.2.2.2.2.2.2.2.2.2.1)])), (h_te, .inr (4, [.ref h_te_characters, .int te_length])), (h_ca_associativities, .inl (gI G, 9, .inl (o1.2.1))), (h_ca_letters, .inl (gI G, 11, .inl (o1.2.2.1))), (h_ca_priorities, .inl (gI G, 9, .inl (o1.2.2.2.2.1))), (h_ca_symbols, .inl (gI G, 10, .inl (o1.2.2.2.2.2.1))), (h_se_associativities, .inl (gI G, 9, .inl (o1.2.2.2.2.2.2.2.1))), (h_se_letters, .inl (gI G, 11, .inl (o1.2.2.2.2.2.2.2.2.1))), (h_se_priorities, .inl (gI G, 9, .inl (o1.2.2.2.2.2.2.2.2.2.2.1))), (h_se_symbols, .inl (gI G, 10, .inl (o1.2.2.2.2.2.2.2.2.2.2.2.1))), (h_st_variables, .inl (gI G, 26, .inl (o1.2.2.2.2.2.2.2.2.2.2.2.2.2))), (h_te_characters, .inl (gC G, 200, .inl te_characters))]) (c_X4_operators F l G h_se h_se_priorities h_se_associativities h_se_symbols h_se_letters (o1.2.2.2.2.2.2.2.2.2.1) H.size o11 e11) hB km_X4_operators ⟨im_X4_operators, sl_X4_operators⟩ ml_RX7_88 hP hD hS hl ⟨0, 3, _, _, rfl, rfl, rfl⟩ [3] [0, 1, 2, 4, 5, 6, 7, 8, 9, 10, 11, 12, 13, 14, 15] ⟨rfl, rfl, ⟨rfl, rfl⟩, by decide⟩ ⟨⟨Nat.le_of_ble_eq_true rfl, Nat.le_of_ble_eq_true rfl⟩, Nat.le_of_ble_eq_true rfl, Nat.le_of_ble_eq_true rfl, Nat.le_of_ble_eq_true rfl⟩ rfl dX7_load_11 (fun z H locs hP hD hS => ?_)
    have hP : va_P (gD G) vwCl [(h_bx, .inr (6, [.ref h_te, .ref h_se, .ref h_ca, .ref h_st, .ref h_hi, .ref h_fo, .ref h_tr, .ref h_bx_results])), (h_ca, .inr (3, [.ref h_ca_priorities, .ref h_ca_associativities, .ref h_ca_symbols, .ref h_ca_letters, .int (o1.2.2.2.1)])), (h_hi, .inr (2, [.ref h_hi_states, .int (o1.2.2.2.2.2.2.1)])), (h_st, .inr (0, [.ref h_st_filters, .ref h_st_variables, .int (o1.2.2.2.2.2.2.2.2.2.2.2.2.1)])), (h_te, .inr (4, [.ref h_te_characters, .int te_length])), (h_ca_associativities, .inl (gI G, 9, .inl (o1.2.1))), (h_ca_letters, .inl (gI G, 11, .inl (o1.2.2.1))), (h_ca_priorities, .inl (gI G, 9, .inl (o1.2.2.2.2.1))), (h_ca_symbols, .inl (gI G, 10, .inl (o1.2.2.2.2.2.1))), (h_se_associativities, .inl (gI G, 9, .inl (o1.2.2.2.2.2.2.2.1))), (h_se_letters, .inl (gI G, 11, .inl (o1.2.2.2.2.2.2.2.2.1))), (h_se_priorities, .inl (gI G, 9, .inl (o1.2.2.2.2.2.2.2.2.2.2.1))), (h_se_symbols, .inl (gI G, 10, .inl (o1.2.2.2.2.2.2.2.2.2.2.2.1))), (h_st_variables, .inl (gI G, 26, .inl (o1.2.2.2.2.2.2.2.2.2.2.2.2.2))), (h_te_characters, .inl (gC G, 200, .inl te_characters)), (h_se, .inr (3, [.ref h_se_priorities, .ref h_se_associativities, .ref h_se_symbols, .ref h_se_letters, .int (o1.2.2.2.2.2.2.2.2.2.1)]))] H := hP
    have hD : va_D A [(h_bx, .inr (6, [.ref h_te, .ref h_se, .ref h_ca, .ref h_st, .ref h_hi, .ref h_fo, .ref h_tr, .ref h_bx_results])), (h_ca, .inr (3, [.ref h_ca_priorities, .ref h_ca_associativities, .ref h_ca_symbols, .ref h_ca_letters, .int (o1.2.2.2.1)])), (h_hi, .inr (2, [.ref h_hi_states, .int (o1.2.2.2.2.2.2.1)])), (h_st, .inr (0, [.ref h_st_filters, .ref h_st_variables, .int (o1.2.2.2.2.2.2.2.2.2.2.2.2.1)])), (h_te, .inr (4, [.ref h_te_characters, .int te_length])), (h_ca_associativities, .inl (gI G, 9, .inl (o1.2.1))), (h_ca_letters, .inl (gI G, 11, .inl (o1.2.2.1))), (h_ca_priorities, .inl (gI G, 9, .inl (o1.2.2.2.2.1))), (h_ca_symbols, .inl (gI G, 10, .inl (o1.2.2.2.2.2.1))), (h_se_associativities, .inl (gI G, 9, .inl (o1.2.2.2.2.2.2.2.1))), (h_se_letters, .inl (gI G, 11, .inl (o1.2.2.2.2.2.2.2.2.1))), (h_se_priorities, .inl (gI G, 9, .inl (o1.2.2.2.2.2.2.2.2.2.2.1))), (h_se_symbols, .inl (gI G, 10, .inl (o1.2.2.2.2.2.2.2.2.2.2.2.1))), (h_st_variables, .inl (gI G, 26, .inl (o1.2.2.2.2.2.2.2.2.2.2.2.2.2))), (h_te_characters, .inl (gC G, 200, .inl te_characters)), (h_se, .inr (3, [.ref h_se_priorities, .ref h_se_associativities, .ref h_se_symbols, .ref h_se_letters, .int (o1.2.2.2.2.2.2.2.2.2.1)]))] := hD
    refine lv_goto (tgt := 19) hx hb dX7_load_14 (by decide) ?_
    cases h
    exact hret (fun _ => 0) _ _ _ _ (hP.sub [0, 1, 2, 15, 3, 4, 5, 6, 7, 8, 9, 10, 11, 12, 13, 14] rfl) (hD.sub [0, 1, 2, 15, 3, 4, 5, 6, 7, 8, 9, 10, 11, 12, 13, 14] (by decide) rfl) hS rfl dX7_load_19
